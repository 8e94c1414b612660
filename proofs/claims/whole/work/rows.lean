section
-- ===== PART A: goes FIRST, ahead of the names: the tables' words, and 'selects' of the private methods out of them =====
/-- a private method of a class that the tables say can be made, by its rows of tables_1 -/
def lw_okq (q : MethodName × Nat) : Prop := (q.1.cls ≠ "java/lang/invoke/MethodHandle" ∧ q.1.cls ≠ "java/lang/invoke/VarHandle") ∧ Cond.instantiable q.1.cls q.2 ∈ tables_1 ∧ Cond.privateMethod q.1 ∈ tables_1 ∧ Cond.instanceMethod q.1 ∈ tables_1
theorem lw_p0 : lw_okq (⟨"TakenInTurns$Tape", "readThings", "(LTakenInTurns$Giving;)Z"⟩, 3) := ⟨⟨by decide +kernel, by decide +kernel⟩, List.mem_of_getElem? (i := 27) (by decide +kernel), List.mem_of_getElem? (i := 470) (by decide +kernel), List.mem_of_getElem? (i := 471) (by decide +kernel)⟩
theorem lw_p1 : lw_okq (⟨"TakenInTurns$Tape", "next", "()I"⟩, 3) := ⟨⟨by decide +kernel, by decide +kernel⟩, List.mem_of_getElem? (i := 27) (by decide +kernel), List.mem_of_getElem? (i := 474) (by decide +kernel), List.mem_of_getElem? (i := 475) (by decide +kernel)⟩
theorem lw_p2 : lw_okq (⟨"TakenInTurns$Tape", "readLists", "(LTakenInTurns$Giving;)Z"⟩, 3) := ⟨⟨by decide +kernel, by decide +kernel⟩, List.mem_of_getElem? (i := 27) (by decide +kernel), List.mem_of_getElem? (i := 478) (by decide +kernel), List.mem_of_getElem? (i := 479) (by decide +kernel)⟩
theorem lw_p3 : lw_okq (⟨"TakenInTurns$Tape", "readList", "(LTakenInTurns$Giving;I)Z"⟩, 3) := ⟨⟨by decide +kernel, by decide +kernel⟩, List.mem_of_getElem? (i := 27) (by decide +kernel), List.mem_of_getElem? (i := 482) (by decide +kernel), List.mem_of_getElem? (i := 483) (by decide +kernel)⟩
theorem lw_p4 : lw_okq (⟨"TakenInTurns$Tape", "readHeld", "(LTakenInTurns$Giving;I)Z"⟩, 3) := ⟨⟨by decide +kernel, by decide +kernel⟩, List.mem_of_getElem? (i := 27) (by decide +kernel), List.mem_of_getElem? (i := 490) (by decide +kernel), List.mem_of_getElem? (i := 491) (by decide +kernel)⟩
theorem lw_p5 : lw_okq (⟨"TakenInTurns", "isGiving", "(I)Z"⟩, 19) := ⟨⟨by decide +kernel, by decide +kernel⟩, List.mem_of_getElem? (i := 19) (by decide +kernel), List.mem_of_getElem? (i := 509) (by decide +kernel), List.mem_of_getElem? (i := 510) (by decide +kernel)⟩
theorem lw_p6 : lw_okq (⟨"TakenInTurns", "kindAt", "(I)I"⟩, 19) := ⟨⟨by decide +kernel, by decide +kernel⟩, List.mem_of_getElem? (i := 19) (by decide +kernel), List.mem_of_getElem? (i := 558) (by decide +kernel), List.mem_of_getElem? (i := 559) (by decide +kernel)⟩
theorem lw_p7 : lw_okq (⟨"TakenInTurns$Hand", "take", "(LTakenInTurns$Giving;II)V"⟩, 5) := ⟨⟨by decide +kernel, by decide +kernel⟩, List.mem_of_getElem? (i := 174) (by decide +kernel), List.mem_of_getElem? (i := 571) (by decide +kernel), List.mem_of_getElem? (i := 572) (by decide +kernel)⟩
theorem lw_p8 : lw_okq (⟨"TakenInTurns$Rings", "findAlone", "(LTakenInTurns$Giving;LTakenInTurns$Hand;)Z"⟩, 4) := ⟨⟨by decide +kernel, by decide +kernel⟩, List.mem_of_getElem? (i := 204) (by decide +kernel), List.mem_of_getElem? (i := 607) (by decide +kernel), List.mem_of_getElem? (i := 608) (by decide +kernel)⟩
theorem lw_p9 : lw_okq (⟨"TakenInTurns", "sharesOf", "(LTakenInTurns$Giving;I)LTakenInTurns$Shares;"⟩, 19) := ⟨⟨by decide +kernel, by decide +kernel⟩, List.mem_of_getElem? (i := 19) (by decide +kernel), List.mem_of_getElem? (i := 643) (by decide +kernel), List.mem_of_getElem? (i := 644) (by decide +kernel)⟩
theorem lw_p10 : lw_okq (⟨"TakenInTurns$Shares", "addHand", "(LTakenInTurns$Giving;LTakenInTurns$Hand;)V"⟩, 5) := ⟨⟨by decide +kernel, by decide +kernel⟩, List.mem_of_getElem? (i := 56) (by decide +kernel), List.mem_of_getElem? (i := 663) (by decide +kernel), List.mem_of_getElem? (i := 664) (by decide +kernel)⟩
theorem lw_p11 : lw_okq (⟨"TakenInTurns$Eating", "choose", "(LTakenInTurns$Giving;)Z"⟩, 4) := ⟨⟨by decide +kernel, by decide +kernel⟩, List.mem_of_getElem? (i := 226) (by decide +kernel), List.mem_of_getElem? (i := 677) (by decide +kernel), List.mem_of_getElem? (i := 678) (by decide +kernel)⟩
theorem lw_p12 : lw_okq (⟨"TakenInTurns$Eating", "nextEaten", "(LTakenInTurns$Giving;LTakenInTurns$Shares;)I"⟩, 4) := ⟨⟨by decide +kernel, by decide +kernel⟩, List.mem_of_getElem? (i := 226) (by decide +kernel), List.mem_of_getElem? (i := 682) (by decide +kernel), List.mem_of_getElem? (i := 683) (by decide +kernel)⟩
theorem lw_p13 : lw_okq (⟨"TakenInTurns$Eating", "widen", "(LTakenInTurns$Shares;J)V"⟩, 4) := ⟨⟨by decide +kernel, by decide +kernel⟩, List.mem_of_getElem? (i := 226) (by decide +kernel), List.mem_of_getElem? (i := 690) (by decide +kernel), List.mem_of_getElem? (i := 691) (by decide +kernel)⟩
theorem lw_p14 : lw_okq (⟨"TakenInTurns$Eating", "pass", "(LTakenInTurns$Giving;LTakenInTurns$Shares;J)V"⟩, 4) := ⟨⟨by decide +kernel, by decide +kernel⟩, List.mem_of_getElem? (i := 226) (by decide +kernel), List.mem_of_getElem? (i := 694) (by decide +kernel), List.mem_of_getElem? (i := 695) (by decide +kernel)⟩
theorem lw_p15 : lw_okq (⟨"TakenInTurns$Trade", "pointAll", "(LTakenInTurns$Giving;)Z"⟩, 4) := ⟨⟨by decide +kernel, by decide +kernel⟩, List.mem_of_getElem? (i := 245) (by decide +kernel), List.mem_of_getElem? (i := 702) (by decide +kernel), List.mem_of_getElem? (i := 703) (by decide +kernel)⟩
def lw_privs_1 : List (MethodName × Nat) := [(⟨"TakenInTurns$Tape", "readThings", "(LTakenInTurns$Giving;)Z"⟩, 3), (⟨"TakenInTurns$Tape", "next", "()I"⟩, 3), (⟨"TakenInTurns$Tape", "readLists", "(LTakenInTurns$Giving;)Z"⟩, 3), (⟨"TakenInTurns$Tape", "readList", "(LTakenInTurns$Giving;I)Z"⟩, 3), (⟨"TakenInTurns$Tape", "readHeld", "(LTakenInTurns$Giving;I)Z"⟩, 3), (⟨"TakenInTurns", "isGiving", "(I)Z"⟩, 19), (⟨"TakenInTurns", "kindAt", "(I)I"⟩, 19), (⟨"TakenInTurns$Hand", "take", "(LTakenInTurns$Giving;II)V"⟩, 5), (⟨"TakenInTurns$Rings", "findAlone", "(LTakenInTurns$Giving;LTakenInTurns$Hand;)Z"⟩, 4), (⟨"TakenInTurns", "sharesOf", "(LTakenInTurns$Giving;I)LTakenInTurns$Shares;"⟩, 19), (⟨"TakenInTurns$Shares", "addHand", "(LTakenInTurns$Giving;LTakenInTurns$Hand;)V"⟩, 5), (⟨"TakenInTurns$Eating", "choose", "(LTakenInTurns$Giving;)Z"⟩, 4), (⟨"TakenInTurns$Eating", "nextEaten", "(LTakenInTurns$Giving;LTakenInTurns$Shares;)I"⟩, 4), (⟨"TakenInTurns$Eating", "widen", "(LTakenInTurns$Shares;J)V"⟩, 4), (⟨"TakenInTurns$Eating", "pass", "(LTakenInTurns$Giving;LTakenInTurns$Shares;J)V"⟩, 4), (⟨"TakenInTurns$Trade", "pointAll", "(LTakenInTurns$Giving;)Z"⟩, 4)]
theorem lw_r1 : ∀ q ∈ lw_privs_1, lw_okq q := List.forall_mem_cons.mpr ⟨lw_p0, List.forall_mem_cons.mpr ⟨lw_p1, List.forall_mem_cons.mpr ⟨lw_p2, List.forall_mem_cons.mpr ⟨lw_p3, List.forall_mem_cons.mpr ⟨lw_p4, List.forall_mem_cons.mpr ⟨lw_p5, List.forall_mem_cons.mpr ⟨lw_p6, List.forall_mem_cons.mpr ⟨lw_p7, List.forall_mem_cons.mpr ⟨lw_p8, List.forall_mem_cons.mpr ⟨lw_p9, List.forall_mem_cons.mpr ⟨lw_p10, List.forall_mem_cons.mpr ⟨lw_p11, List.forall_mem_cons.mpr ⟨lw_p12, List.forall_mem_cons.mpr ⟨lw_p13, List.forall_mem_cons.mpr ⟨lw_p14, List.forall_mem_cons.mpr ⟨lw_p15, fun _ h => absurd h List.not_mem_nil⟩⟩⟩⟩⟩⟩⟩⟩⟩⟩⟩⟩⟩⟩⟩⟩
theorem lw_p16 : lw_okq (⟨"TakenInTurns$Trade", "holderOf", "(LTakenInTurns$Giving;II)I"⟩, 4) := ⟨⟨by decide +kernel, by decide +kernel⟩, List.mem_of_getElem? (i := 245) (by decide +kernel), List.mem_of_getElem? (i := 707) (by decide +kernel), List.mem_of_getElem? (i := 708) (by decide +kernel)⟩
theorem lw_p17 : lw_okq (⟨"TakenInTurns$Trade", "closeRing", "(LTakenInTurns$Giving;)V"⟩, 4) := ⟨⟨by decide +kernel, by decide +kernel⟩, List.mem_of_getElem? (i := 245) (by decide +kernel), List.mem_of_getElem? (i := 711) (by decide +kernel), List.mem_of_getElem? (i := 712) (by decide +kernel)⟩
theorem lw_p18 : lw_okq (⟨"TakenInTurns$Trade", "isInRing", "(LTakenInTurns$Giving;I)Z"⟩, 4) := ⟨⟨by decide +kernel, by decide +kernel⟩, List.mem_of_getElem? (i := 245) (by decide +kernel), List.mem_of_getElem? (i := 715) (by decide +kernel), List.mem_of_getElem? (i := 716) (by decide +kernel)⟩
theorem lw_p19 : lw_okq (⟨"TakenInTurns$Trade", "takeRest", "(LTakenInTurns$Giving;)V"⟩, 4) := ⟨⟨by decide +kernel, by decide +kernel⟩, List.mem_of_getElem? (i := 245) (by decide +kernel), List.mem_of_getElem? (i := 719) (by decide +kernel), List.mem_of_getElem? (i := 720) (by decide +kernel)⟩
theorem lw_p20 : lw_okq (⟨"TakenInTurns$Trade", "leftOf", "(LTakenInTurns$Giving;)I"⟩, 4) := ⟨⟨by decide +kernel, by decide +kernel⟩, List.mem_of_getElem? (i := 245) (by decide +kernel), List.mem_of_getElem? (i := 723) (by decide +kernel), List.mem_of_getElem? (i := 724) (by decide +kernel)⟩
theorem lw_p21 : lw_okq (⟨"TakenInTurns$Shares", "dropUnlisted", "(LTakenInTurns$Giving;I)J"⟩, 5) := ⟨⟨by decide +kernel, by decide +kernel⟩, List.mem_of_getElem? (i := 56) (by decide +kernel), List.mem_of_getElem? (i := 736) (by decide +kernel), List.mem_of_getElem? (i := 737) (by decide +kernel)⟩
theorem lw_p22 : lw_okq (⟨"TakenInTurns$Shares", "cut", "(IIJ)J"⟩, 5) := ⟨⟨by decide +kernel, by decide +kernel⟩, List.mem_of_getElem? (i := 56) (by decide +kernel), List.mem_of_getElem? (i := 740) (by decide +kernel), List.mem_of_getElem? (i := 741) (by decide +kernel)⟩
theorem lw_p23 : lw_okq (⟨"TakenInTurns", "isToldWrongly", "(I)Z"⟩, 19) := ⟨⟨by decide +kernel, by decide +kernel⟩, List.mem_of_getElem? (i := 19) (by decide +kernel), List.mem_of_getElem? (i := 773) (by decide +kernel), List.mem_of_getElem? (i := 774) (by decide +kernel)⟩
theorem lw_p24 : lw_okq (⟨"TakenInTurns", "compareOtherwise", "(LTakenInTurns$Giving;II)I"⟩, 19) := ⟨⟨by decide +kernel, by decide +kernel⟩, List.mem_of_getElem? (i := 19) (by decide +kernel), List.mem_of_getElem? (i := 777) (by decide +kernel), List.mem_of_getElem? (i := 778) (by decide +kernel)⟩
theorem lw_p25 : lw_okq (⟨"TakenInTurns", "forgetTable", "(LTakenInTurns$Giving;)V"⟩, 19) := ⟨⟨by decide +kernel, by decide +kernel⟩, List.mem_of_getElem? (i := 19) (by decide +kernel), List.mem_of_getElem? (i := 801) (by decide +kernel), List.mem_of_getElem? (i := 802) (by decide +kernel)⟩
theorem lw_p26 : lw_okq (⟨"TakenInTurns$Giving", "hasUnlisted", "(I)Z"⟩, 13) := ⟨⟨by decide +kernel, by decide +kernel⟩, List.mem_of_getElem? (i := 47) (by decide +kernel), List.mem_of_getElem? (i := 836) (by decide +kernel), List.mem_of_getElem? (i := 837) (by decide +kernel)⟩
theorem lw_p27 : lw_okq (⟨"TakenInTurns$Parting", "measure", "(LTakenInTurns$Giving;I)V"⟩, 10) := ⟨⟨by decide +kernel, by decide +kernel⟩, List.mem_of_getElem? (i := 265) (by decide +kernel), List.mem_of_getElem? (i := 858) (by decide +kernel), List.mem_of_getElem? (i := 859) (by decide +kernel)⟩
theorem lw_p28 : lw_okq (⟨"TakenInTurns$Parting", "pickFirst", "(LTakenInTurns$Giving;)Z"⟩, 10) := ⟨⟨by decide +kernel, by decide +kernel⟩, List.mem_of_getElem? (i := 265) (by decide +kernel), List.mem_of_getElem? (i := 865) (by decide +kernel), List.mem_of_getElem? (i := 866) (by decide +kernel)⟩
theorem lw_p29 : lw_okq (⟨"TakenInTurns$Parting", "pickFor", "(LTakenInTurns$Giving;I)Z"⟩, 10) := ⟨⟨by decide +kernel, by decide +kernel⟩, List.mem_of_getElem? (i := 265) (by decide +kernel), List.mem_of_getElem? (i := 869) (by decide +kernel), List.mem_of_getElem? (i := 870) (by decide +kernel)⟩
theorem lw_p30 : lw_okq (⟨"TakenInTurns$Parting", "canGoOn", "(LTakenInTurns$Giving;I)Z"⟩, 10) := ⟨⟨by decide +kernel, by decide +kernel⟩, List.mem_of_getElem? (i := 265) (by decide +kernel), List.mem_of_getElem? (i := 873) (by decide +kernel), List.mem_of_getElem? (i := 874) (by decide +kernel)⟩
theorem lw_p31 : lw_okq (⟨"TakenInTurns$Parting", "mostOff", "(LTakenInTurns$Giving;)I"⟩, 10) := ⟨⟨by decide +kernel, by decide +kernel⟩, List.mem_of_getElem? (i := 265) (by decide +kernel), List.mem_of_getElem? (i := 877) (by decide +kernel), List.mem_of_getElem? (i := 878) (by decide +kernel)⟩
def lw_privs_2 : List (MethodName × Nat) := [(⟨"TakenInTurns$Trade", "holderOf", "(LTakenInTurns$Giving;II)I"⟩, 4), (⟨"TakenInTurns$Trade", "closeRing", "(LTakenInTurns$Giving;)V"⟩, 4), (⟨"TakenInTurns$Trade", "isInRing", "(LTakenInTurns$Giving;I)Z"⟩, 4), (⟨"TakenInTurns$Trade", "takeRest", "(LTakenInTurns$Giving;)V"⟩, 4), (⟨"TakenInTurns$Trade", "leftOf", "(LTakenInTurns$Giving;)I"⟩, 4), (⟨"TakenInTurns$Shares", "dropUnlisted", "(LTakenInTurns$Giving;I)J"⟩, 5), (⟨"TakenInTurns$Shares", "cut", "(IIJ)J"⟩, 5), (⟨"TakenInTurns", "isToldWrongly", "(I)Z"⟩, 19), (⟨"TakenInTurns", "compareOtherwise", "(LTakenInTurns$Giving;II)I"⟩, 19), (⟨"TakenInTurns", "forgetTable", "(LTakenInTurns$Giving;)V"⟩, 19), (⟨"TakenInTurns$Giving", "hasUnlisted", "(I)Z"⟩, 13), (⟨"TakenInTurns$Parting", "measure", "(LTakenInTurns$Giving;I)V"⟩, 10), (⟨"TakenInTurns$Parting", "pickFirst", "(LTakenInTurns$Giving;)Z"⟩, 10), (⟨"TakenInTurns$Parting", "pickFor", "(LTakenInTurns$Giving;I)Z"⟩, 10), (⟨"TakenInTurns$Parting", "canGoOn", "(LTakenInTurns$Giving;I)Z"⟩, 10), (⟨"TakenInTurns$Parting", "mostOff", "(LTakenInTurns$Giving;)I"⟩, 10)]
theorem lw_r2 : ∀ q ∈ lw_privs_2, lw_okq q := List.forall_mem_cons.mpr ⟨lw_p16, List.forall_mem_cons.mpr ⟨lw_p17, List.forall_mem_cons.mpr ⟨lw_p18, List.forall_mem_cons.mpr ⟨lw_p19, List.forall_mem_cons.mpr ⟨lw_p20, List.forall_mem_cons.mpr ⟨lw_p21, List.forall_mem_cons.mpr ⟨lw_p22, List.forall_mem_cons.mpr ⟨lw_p23, List.forall_mem_cons.mpr ⟨lw_p24, List.forall_mem_cons.mpr ⟨lw_p25, List.forall_mem_cons.mpr ⟨lw_p26, List.forall_mem_cons.mpr ⟨lw_p27, List.forall_mem_cons.mpr ⟨lw_p28, List.forall_mem_cons.mpr ⟨lw_p29, List.forall_mem_cons.mpr ⟨lw_p30, List.forall_mem_cons.mpr ⟨lw_p31, fun _ h => absurd h List.not_mem_nil⟩⟩⟩⟩⟩⟩⟩⟩⟩⟩⟩⟩⟩⟩⟩⟩
theorem lw_p32 : lw_okq (⟨"TakenInTurns$Evens", "leastOf", "(II)I"⟩, 6) := ⟨⟨by decide +kernel, by decide +kernel⟩, List.mem_of_getElem? (i := 306) (by decide +kernel), List.mem_of_getElem? (i := 913) (by decide +kernel), List.mem_of_getElem? (i := 914) (by decide +kernel)⟩
theorem lw_p33 : lw_okq (⟨"TakenInTurns", "findSwap", "(LTakenInTurns$Giving;)V"⟩, 19) := ⟨⟨by decide +kernel, by decide +kernel⟩, List.mem_of_getElem? (i := 19) (by decide +kernel), List.mem_of_getElem? (i := 934) (by decide +kernel), List.mem_of_getElem? (i := 935) (by decide +kernel)⟩
theorem lw_p34 : lw_okq (⟨"TakenInTurns", "fewestFirst", "(I)V"⟩, 19) := ⟨⟨by decide +kernel, by decide +kernel⟩, List.mem_of_getElem? (i := 19) (by decide +kernel), List.mem_of_getElem? (i := 953) (by decide +kernel), List.mem_of_getElem? (i := 954) (by decide +kernel)⟩
theorem lw_p35 : lw_okq (⟨"TakenInTurns$Acts", "note", "(I)V"⟩, 4) := ⟨⟨by decide +kernel, by decide +kernel⟩, List.mem_of_getElem? (i := 337) (by decide +kernel), List.mem_of_getElem? (i := 976) (by decide +kernel), List.mem_of_getElem? (i := 977) (by decide +kernel)⟩
theorem lw_p36 : lw_okq (⟨"TakenInTurns", "refusalAt", "(II)I"⟩, 19) := ⟨⟨by decide +kernel, by decide +kernel⟩, List.mem_of_getElem? (i := 19) (by decide +kernel), List.mem_of_getElem? (i := 1005) (by decide +kernel), List.mem_of_getElem? (i := 1006) (by decide +kernel)⟩
theorem lw_p37 : lw_okq (⟨"TakenInTurnsModel", "readsGiving", "(I)Z"⟩, 65) := ⟨⟨by decide +kernel, by decide +kernel⟩, List.mem_of_getElem? (i := 1035) (by decide +kernel), List.mem_of_getElem? (i := 1249) (by decide +kernel), List.mem_of_getElem? (i := 1250) (by decide +kernel)⟩
theorem lw_p38 : lw_okq (⟨"TakenInTurnsModel", "readsThings", "(I)Z"⟩, 65) := ⟨⟨by decide +kernel, by decide +kernel⟩, List.mem_of_getElem? (i := 1035) (by decide +kernel), List.mem_of_getElem? (i := 1253) (by decide +kernel), List.mem_of_getElem? (i := 1254) (by decide +kernel)⟩
theorem lw_p39 : lw_okq (⟨"TakenInTurnsModel", "here", "()I"⟩, 65) := ⟨⟨by decide +kernel, by decide +kernel⟩, List.mem_of_getElem? (i := 1035) (by decide +kernel), List.mem_of_getElem? (i := 1257) (by decide +kernel), List.mem_of_getElem? (i := 1258) (by decide +kernel)⟩
theorem lw_p40 : lw_okq (⟨"TakenInTurnsModel", "readsList", "(II)Z"⟩, 65) := ⟨⟨by decide +kernel, by decide +kernel⟩, List.mem_of_getElem? (i := 1035) (by decide +kernel), List.mem_of_getElem? (i := 1261) (by decide +kernel), List.mem_of_getElem? (i := 1262) (by decide +kernel)⟩
theorem lw_p41 : lw_okq (⟨"TakenInTurnsModel", "heldOf", "(III)I"⟩, 65) := ⟨⟨by decide +kernel, by decide +kernel⟩, List.mem_of_getElem? (i := 1035) (by decide +kernel), List.mem_of_getElem? (i := 1265) (by decide +kernel), List.mem_of_getElem? (i := 1266) (by decide +kernel)⟩
theorem lw_p42 : lw_okq (⟨"TakenInTurnsModel", "isPerson", "(II)Z"⟩, 65) := ⟨⟨by decide +kernel, by decide +kernel⟩, List.mem_of_getElem? (i := 1035) (by decide +kernel), List.mem_of_getElem? (i := 1273) (by decide +kernel), List.mem_of_getElem? (i := 1274) (by decide +kernel)⟩
theorem lw_p43 : lw_okq (⟨"TakenInTurnsModel", "isGiving", "(I)Z"⟩, 65) := ⟨⟨by decide +kernel, by decide +kernel⟩, List.mem_of_getElem? (i := 1035) (by decide +kernel), List.mem_of_getElem? (i := 1277) (by decide +kernel), List.mem_of_getElem? (i := 1278) (by decide +kernel)⟩
theorem lw_p44 : lw_okq (⟨"TakenInTurnsModel", "copies", "(II)V"⟩, 65) := ⟨⟨by decide +kernel, by decide +kernel⟩, List.mem_of_getElem? (i := 1035) (by decide +kernel), List.mem_of_getElem? (i := 1281) (by decide +kernel), List.mem_of_getElem? (i := 1282) (by decide +kernel)⟩
theorem lw_p45 : lw_okq (⟨"TakenInTurnsModel", "isThing", "(II)Z"⟩, 65) := ⟨⟨by decide +kernel, by decide +kernel⟩, List.mem_of_getElem? (i := 1035) (by decide +kernel), List.mem_of_getElem? (i := 1298) (by decide +kernel), List.mem_of_getElem? (i := 1299) (by decide +kernel)⟩
theorem lw_p46 : lw_okq (⟨"TakenInTurnsModel", "isWay", "(I)Z"⟩, 65) := ⟨⟨by decide +kernel, by decide +kernel⟩, List.mem_of_getElem? (i := 1035) (by decide +kernel), List.mem_of_getElem? (i := 1314) (by decide +kernel), List.mem_of_getElem? (i := 1315) (by decide +kernel)⟩
theorem lw_p47 : lw_okq (⟨"TakenInTurnsModel", "isOrder", "(II)Z"⟩, 65) := ⟨⟨by decide +kernel, by decide +kernel⟩, List.mem_of_getElem? (i := 1035) (by decide +kernel), List.mem_of_getElem? (i := 1318) (by decide +kernel), List.mem_of_getElem? (i := 1319) (by decide +kernel)⟩
def lw_privs_3 : List (MethodName × Nat) := [(⟨"TakenInTurns$Evens", "leastOf", "(II)I"⟩, 6), (⟨"TakenInTurns", "findSwap", "(LTakenInTurns$Giving;)V"⟩, 19), (⟨"TakenInTurns", "fewestFirst", "(I)V"⟩, 19), (⟨"TakenInTurns$Acts", "note", "(I)V"⟩, 4), (⟨"TakenInTurns", "refusalAt", "(II)I"⟩, 19), (⟨"TakenInTurnsModel", "readsGiving", "(I)Z"⟩, 65), (⟨"TakenInTurnsModel", "readsThings", "(I)Z"⟩, 65), (⟨"TakenInTurnsModel", "here", "()I"⟩, 65), (⟨"TakenInTurnsModel", "readsList", "(II)Z"⟩, 65), (⟨"TakenInTurnsModel", "heldOf", "(III)I"⟩, 65), (⟨"TakenInTurnsModel", "isPerson", "(II)Z"⟩, 65), (⟨"TakenInTurnsModel", "isGiving", "(I)Z"⟩, 65), (⟨"TakenInTurnsModel", "copies", "(II)V"⟩, 65), (⟨"TakenInTurnsModel", "isThing", "(II)Z"⟩, 65), (⟨"TakenInTurnsModel", "isWay", "(I)Z"⟩, 65), (⟨"TakenInTurnsModel", "isOrder", "(II)Z"⟩, 65)]
theorem lw_r3 : ∀ q ∈ lw_privs_3, lw_okq q := List.forall_mem_cons.mpr ⟨lw_p32, List.forall_mem_cons.mpr ⟨lw_p33, List.forall_mem_cons.mpr ⟨lw_p34, List.forall_mem_cons.mpr ⟨lw_p35, List.forall_mem_cons.mpr ⟨lw_p36, List.forall_mem_cons.mpr ⟨lw_p37, List.forall_mem_cons.mpr ⟨lw_p38, List.forall_mem_cons.mpr ⟨lw_p39, List.forall_mem_cons.mpr ⟨lw_p40, List.forall_mem_cons.mpr ⟨lw_p41, List.forall_mem_cons.mpr ⟨lw_p42, List.forall_mem_cons.mpr ⟨lw_p43, List.forall_mem_cons.mpr ⟨lw_p44, List.forall_mem_cons.mpr ⟨lw_p45, List.forall_mem_cons.mpr ⟨lw_p46, List.forall_mem_cons.mpr ⟨lw_p47, fun _ h => absurd h List.not_mem_nil⟩⟩⟩⟩⟩⟩⟩⟩⟩⟩⟩⟩⟩⟩⟩⟩
theorem lw_p48 : lw_okq (⟨"TakenInTurnsModel", "runs", "(IZ)V"⟩, 65) := ⟨⟨by decide +kernel, by decide +kernel⟩, List.mem_of_getElem? (i := 1035) (by decide +kernel), List.mem_of_getElem? (i := 1322) (by decide +kernel), List.mem_of_getElem? (i := 1323) (by decide +kernel)⟩
theorem lw_p49 : lw_okq (⟨"TakenInTurnsModel", "firstLeft", "(II)I"⟩, 65) := ⟨⟨by decide +kernel, by decide +kernel⟩, List.mem_of_getElem? (i := 1035) (by decide +kernel), List.mem_of_getElem? (i := 1326) (by decide +kernel), List.mem_of_getElem? (i := 1327) (by decide +kernel)⟩
theorem lw_p50 : lw_okq (⟨"TakenInTurnsModel", "findsRing", "()V"⟩, 65) := ⟨⟨by decide +kernel, by decide +kernel⟩, List.mem_of_getElem? (i := 1035) (by decide +kernel), List.mem_of_getElem? (i := 1346) (by decide +kernel), List.mem_of_getElem? (i := 1347) (by decide +kernel)⟩
theorem lw_p51 : lw_okq (⟨"TakenInTurnsModel", "findsOne", "()Z"⟩, 65) := ⟨⟨by decide +kernel, by decide +kernel⟩, List.mem_of_getElem? (i := 1035) (by decide +kernel), List.mem_of_getElem? (i := 1350) (by decide +kernel), List.mem_of_getElem? (i := 1351) (by decide +kernel)⟩
theorem lw_p52 : lw_okq (⟨"TakenInTurnsModel", "wishes", "(III)Z"⟩, 65) := ⟨⟨by decide +kernel, by decide +kernel⟩, List.mem_of_getElem? (i := 1035) (by decide +kernel), List.mem_of_getElem? (i := 1354) (by decide +kernel), List.mem_of_getElem? (i := 1355) (by decide +kernel)⟩
theorem lw_p53 : lw_okq (⟨"TakenInTurnsModel", "levelIn", "(II)I"⟩, 65) := ⟨⟨by decide +kernel, by decide +kernel⟩, List.mem_of_getElem? (i := 1035) (by decide +kernel), List.mem_of_getElem? (i := 1358) (by decide +kernel), List.mem_of_getElem? (i := 1359) (by decide +kernel)⟩
theorem lw_p54 : lw_okq (⟨"TakenInTurnsModel", "findsPeople", "(III)Z"⟩, 65) := ⟨⟨by decide +kernel, by decide +kernel⟩, List.mem_of_getElem? (i := 1035) (by decide +kernel), List.mem_of_getElem? (i := 1362) (by decide +kernel), List.mem_of_getElem? (i := 1363) (by decide +kernel)⟩
theorem lw_p55 : lw_okq (⟨"TakenInTurnsModel", "findsThings", "(II)Z"⟩, 65) := ⟨⟨by decide +kernel, by decide +kernel⟩, List.mem_of_getElem? (i := 1035) (by decide +kernel), List.mem_of_getElem? (i := 1366) (by decide +kernel), List.mem_of_getElem? (i := 1367) (by decide +kernel)⟩
theorem lw_p56 : lw_okq (⟨"TakenInTurnsModel", "shares", "(II)V"⟩, 65) := ⟨⟨by decide +kernel, by decide +kernel⟩, List.mem_of_getElem? (i := 1035) (by decide +kernel), List.mem_of_getElem? (i := 1382) (by decide +kernel), List.mem_of_getElem? (i := 1383) (by decide +kernel)⟩
theorem lw_p57 : lw_okq (⟨"TakenInTurnsModel", "clears", "()V"⟩, 65) := ⟨⟨by decide +kernel, by decide +kernel⟩, List.mem_of_getElem? (i := 1035) (by decide +kernel), List.mem_of_getElem? (i := 1386) (by decide +kernel), List.mem_of_getElem? (i := 1387) (by decide +kernel)⟩
theorem lw_p58 : lw_okq (⟨"TakenInTurnsModel", "means", "(IZ)V"⟩, 65) := ⟨⟨by decide +kernel, by decide +kernel⟩, List.mem_of_getElem? (i := 1035) (by decide +kernel), List.mem_of_getElem? (i := 1390) (by decide +kernel), List.mem_of_getElem? (i := 1391) (by decide +kernel)⟩
theorem lw_p59 : lw_okq (⟨"TakenInTurnsModel", "firstOrder", "(I)V"⟩, 65) := ⟨⟨by decide +kernel, by decide +kernel⟩, List.mem_of_getElem? (i := 1035) (by decide +kernel), List.mem_of_getElem? (i := 1394) (by decide +kernel), List.mem_of_getElem? (i := 1395) (by decide +kernel)⟩
theorem lw_p60 : lw_okq (⟨"TakenInTurnsModel", "nextOrder", "(I)Z"⟩, 65) := ⟨⟨by decide +kernel, by decide +kernel⟩, List.mem_of_getElem? (i := 1035) (by decide +kernel), List.mem_of_getElem? (i := 1398) (by decide +kernel), List.mem_of_getElem? (i := 1399) (by decide +kernel)⟩
theorem lw_p61 : lw_okq (⟨"TakenInTurnsModel", "puts", "(IJJ)V"⟩, 65) := ⟨⟨by decide +kernel, by decide +kernel⟩, List.mem_of_getElem? (i := 1035) (by decide +kernel), List.mem_of_getElem? (i := 1402) (by decide +kernel), List.mem_of_getElem? (i := 1403) (by decide +kernel)⟩
theorem lw_p62 : lw_okq (⟨"TakenInTurnsModel", "eating", "(I)V"⟩, 65) := ⟨⟨by decide +kernel, by decide +kernel⟩, List.mem_of_getElem? (i := 1035) (by decide +kernel), List.mem_of_getElem? (i := 1409) (by decide +kernel), List.mem_of_getElem? (i := 1410) (by decide +kernel)⟩
theorem lw_p63 : lw_okq (⟨"TakenInTurnsModel", "eatNow", "(I)I"⟩, 65) := ⟨⟨by decide +kernel, by decide +kernel⟩, List.mem_of_getElem? (i := 1035) (by decide +kernel), List.mem_of_getElem? (i := 1413) (by decide +kernel), List.mem_of_getElem? (i := 1414) (by decide +kernel)⟩
def lw_privs_4 : List (MethodName × Nat) := [(⟨"TakenInTurnsModel", "runs", "(IZ)V"⟩, 65), (⟨"TakenInTurnsModel", "firstLeft", "(II)I"⟩, 65), (⟨"TakenInTurnsModel", "findsRing", "()V"⟩, 65), (⟨"TakenInTurnsModel", "findsOne", "()Z"⟩, 65), (⟨"TakenInTurnsModel", "wishes", "(III)Z"⟩, 65), (⟨"TakenInTurnsModel", "levelIn", "(II)I"⟩, 65), (⟨"TakenInTurnsModel", "findsPeople", "(III)Z"⟩, 65), (⟨"TakenInTurnsModel", "findsThings", "(II)Z"⟩, 65), (⟨"TakenInTurnsModel", "shares", "(II)V"⟩, 65), (⟨"TakenInTurnsModel", "clears", "()V"⟩, 65), (⟨"TakenInTurnsModel", "means", "(IZ)V"⟩, 65), (⟨"TakenInTurnsModel", "firstOrder", "(I)V"⟩, 65), (⟨"TakenInTurnsModel", "nextOrder", "(I)Z"⟩, 65), (⟨"TakenInTurnsModel", "puts", "(IJJ)V"⟩, 65), (⟨"TakenInTurnsModel", "eating", "(I)V"⟩, 65), (⟨"TakenInTurnsModel", "eatNow", "(I)I"⟩, 65)]
theorem lw_r4 : ∀ q ∈ lw_privs_4, lw_okq q := List.forall_mem_cons.mpr ⟨lw_p48, List.forall_mem_cons.mpr ⟨lw_p49, List.forall_mem_cons.mpr ⟨lw_p50, List.forall_mem_cons.mpr ⟨lw_p51, List.forall_mem_cons.mpr ⟨lw_p52, List.forall_mem_cons.mpr ⟨lw_p53, List.forall_mem_cons.mpr ⟨lw_p54, List.forall_mem_cons.mpr ⟨lw_p55, List.forall_mem_cons.mpr ⟨lw_p56, List.forall_mem_cons.mpr ⟨lw_p57, List.forall_mem_cons.mpr ⟨lw_p58, List.forall_mem_cons.mpr ⟨lw_p59, List.forall_mem_cons.mpr ⟨lw_p60, List.forall_mem_cons.mpr ⟨lw_p61, List.forall_mem_cons.mpr ⟨lw_p62, List.forall_mem_cons.mpr ⟨lw_p63, fun _ h => absurd h List.not_mem_nil⟩⟩⟩⟩⟩⟩⟩⟩⟩⟩⟩⟩⟩⟩⟩⟩
theorem lw_p64 : lw_okq (⟨"TakenInTurnsModel", "firstUneaten", "(II)I"⟩, 65) := ⟨⟨by decide +kernel, by decide +kernel⟩, List.mem_of_getElem? (i := 1035) (by decide +kernel), List.mem_of_getElem? (i := 1417) (by decide +kernel), List.mem_of_getElem? (i := 1418) (by decide +kernel)⟩
theorem lw_p65 : lw_okq (⟨"TakenInTurnsModel", "adds", "(JJJJ)V"⟩, 65) := ⟨⟨by decide +kernel, by decide +kernel⟩, List.mem_of_getElem? (i := 1035) (by decide +kernel), List.mem_of_getElem? (i := 1422) (by decide +kernel), List.mem_of_getElem? (i := 1423) (by decide +kernel)⟩
theorem lw_p66 : lw_okq (⟨"TakenInTurnsModel", "trades", "(I)V"⟩, 65) := ⟨⟨by decide +kernel, by decide +kernel⟩, List.mem_of_getElem? (i := 1035) (by decide +kernel), List.mem_of_getElem? (i := 1427) (by decide +kernel), List.mem_of_getElem? (i := 1428) (by decide +kernel)⟩
theorem lw_p67 : lw_okq (⟨"TakenInTurnsModel", "endsSome", "(I)Z"⟩, 65) := ⟨⟨by decide +kernel, by decide +kernel⟩, List.mem_of_getElem? (i := 1035) (by decide +kernel), List.mem_of_getElem? (i := 1431) (by decide +kernel), List.mem_of_getElem? (i := 1432) (by decide +kernel)⟩
theorem lw_p68 : lw_okq (⟨"TakenInTurnsModel", "pointOf", "(II)I"⟩, 65) := ⟨⟨by decide +kernel, by decide +kernel⟩, List.mem_of_getElem? (i := 1035) (by decide +kernel), List.mem_of_getElem? (i := 1435) (by decide +kernel), List.mem_of_getElem? (i := 1436) (by decide +kernel)⟩
theorem lw_p69 : lw_okq (⟨"TakenInTurnsModel", "endsRing", "(I)Z"⟩, 65) := ⟨⟨by decide +kernel, by decide +kernel⟩, List.mem_of_getElem? (i := 1035) (by decide +kernel), List.mem_of_getElem? (i := 1439) (by decide +kernel), List.mem_of_getElem? (i := 1440) (by decide +kernel)⟩
theorem lw_p70 : lw_okq (⟨"TakenInTurnsModel", "takesParts", "(IZ)V"⟩, 65) := ⟨⟨by decide +kernel, by decide +kernel⟩, List.mem_of_getElem? (i := 1035) (by decide +kernel), List.mem_of_getElem? (i := 1443) (by decide +kernel), List.mem_of_getElem? (i := 1444) (by decide +kernel)⟩
theorem lw_p71 : lw_okq (⟨"TakenInTurnsModel", "mends", "(I)V"⟩, 65) := ⟨⟨by decide +kernel, by decide +kernel⟩, List.mem_of_getElem? (i := 1035) (by decide +kernel), List.mem_of_getElem? (i := 1447) (by decide +kernel), List.mem_of_getElem? (i := 1448) (by decide +kernel)⟩
theorem lw_p72 : lw_okq (⟨"TakenInTurnsModel", "sumOf", "(II)I"⟩, 65) := ⟨⟨by decide +kernel, by decide +kernel⟩, List.mem_of_getElem? (i := 1035) (by decide +kernel), List.mem_of_getElem? (i := 1451) (by decide +kernel), List.mem_of_getElem? (i := 1452) (by decide +kernel)⟩
theorem lw_p73 : lw_okq (⟨"TakenInTurnsModel", "less", "(II)V"⟩, 65) := ⟨⟨by decide +kernel, by decide +kernel⟩, List.mem_of_getElem? (i := 1035) (by decide +kernel), List.mem_of_getElem? (i := 1455) (by decide +kernel), List.mem_of_getElem? (i := 1456) (by decide +kernel)⟩
theorem lw_p74 : lw_okq (⟨"TakenInTurnsModel", "sumOver", "(II)I"⟩, 65) := ⟨⟨by decide +kernel, by decide +kernel⟩, List.mem_of_getElem? (i := 1035) (by decide +kernel), List.mem_of_getElem? (i := 1459) (by decide +kernel), List.mem_of_getElem? (i := 1460) (by decide +kernel)⟩
theorem lw_p75 : lw_okq (⟨"TakenInTurnsModel", "keepsRow", "(I)V"⟩, 65) := ⟨⟨by decide +kernel, by decide +kernel⟩, List.mem_of_getElem? (i := 1035) (by decide +kernel), List.mem_of_getElem? (i := 1473) (by decide +kernel), List.mem_of_getElem? (i := 1474) (by decide +kernel)⟩
theorem lw_p76 : lw_okq (⟨"TakenInTurnsModel", "against", "(III)I"⟩, 65) := ⟨⟨by decide +kernel, by decide +kernel⟩, List.mem_of_getElem? (i := 1035) (by decide +kernel), List.mem_of_getElem? (i := 1477) (by decide +kernel), List.mem_of_getElem? (i := 1478) (by decide +kernel)⟩
theorem lw_p77 : lw_okq (⟨"TakenInTurnsModel", "isLie", "(III)Z"⟩, 65) := ⟨⟨by decide +kernel, by decide +kernel⟩, List.mem_of_getElem? (i := 1035) (by decide +kernel), List.mem_of_getElem? (i := 1489) (by decide +kernel), List.mem_of_getElem? (i := 1490) (by decide +kernel)⟩
theorem lw_p78 : lw_okq (⟨"TakenInTurnsModel", "areDigits", "(II)Z"⟩, 65) := ⟨⟨by decide +kernel, by decide +kernel⟩, List.mem_of_getElem? (i := 1035) (by decide +kernel), List.mem_of_getElem? (i := 1493) (by decide +kernel), List.mem_of_getElem? (i := 1494) (by decide +kernel)⟩
theorem lw_p79 : lw_okq (⟨"TakenInTurnsModel", "keepsOwn", "(III)Z"⟩, 65) := ⟨⟨by decide +kernel, by decide +kernel⟩, List.mem_of_getElem? (i := 1035) (by decide +kernel), List.mem_of_getElem? (i := 1497) (by decide +kernel), List.mem_of_getElem? (i := 1498) (by decide +kernel)⟩
def lw_privs_5 : List (MethodName × Nat) := [(⟨"TakenInTurnsModel", "firstUneaten", "(II)I"⟩, 65), (⟨"TakenInTurnsModel", "adds", "(JJJJ)V"⟩, 65), (⟨"TakenInTurnsModel", "trades", "(I)V"⟩, 65), (⟨"TakenInTurnsModel", "endsSome", "(I)Z"⟩, 65), (⟨"TakenInTurnsModel", "pointOf", "(II)I"⟩, 65), (⟨"TakenInTurnsModel", "endsRing", "(I)Z"⟩, 65), (⟨"TakenInTurnsModel", "takesParts", "(IZ)V"⟩, 65), (⟨"TakenInTurnsModel", "mends", "(I)V"⟩, 65), (⟨"TakenInTurnsModel", "sumOf", "(II)I"⟩, 65), (⟨"TakenInTurnsModel", "less", "(II)V"⟩, 65), (⟨"TakenInTurnsModel", "sumOver", "(II)I"⟩, 65), (⟨"TakenInTurnsModel", "keepsRow", "(I)V"⟩, 65), (⟨"TakenInTurnsModel", "against", "(III)I"⟩, 65), (⟨"TakenInTurnsModel", "isLie", "(III)Z"⟩, 65), (⟨"TakenInTurnsModel", "areDigits", "(II)Z"⟩, 65), (⟨"TakenInTurnsModel", "keepsOwn", "(III)Z"⟩, 65)]
theorem lw_r5 : ∀ q ∈ lw_privs_5, lw_okq q := List.forall_mem_cons.mpr ⟨lw_p64, List.forall_mem_cons.mpr ⟨lw_p65, List.forall_mem_cons.mpr ⟨lw_p66, List.forall_mem_cons.mpr ⟨lw_p67, List.forall_mem_cons.mpr ⟨lw_p68, List.forall_mem_cons.mpr ⟨lw_p69, List.forall_mem_cons.mpr ⟨lw_p70, List.forall_mem_cons.mpr ⟨lw_p71, List.forall_mem_cons.mpr ⟨lw_p72, List.forall_mem_cons.mpr ⟨lw_p73, List.forall_mem_cons.mpr ⟨lw_p74, List.forall_mem_cons.mpr ⟨lw_p75, List.forall_mem_cons.mpr ⟨lw_p76, List.forall_mem_cons.mpr ⟨lw_p77, List.forall_mem_cons.mpr ⟨lw_p78, List.forall_mem_cons.mpr ⟨lw_p79, fun _ h => absurd h List.not_mem_nil⟩⟩⟩⟩⟩⟩⟩⟩⟩⟩⟩⟩⟩⟩⟩⟩
theorem lw_p80 : lw_okq (⟨"TakenInTurnsModel", "tries", "(III)I"⟩, 65) := ⟨⟨by decide +kernel, by decide +kernel⟩, List.mem_of_getElem? (i := 1035) (by decide +kernel), List.mem_of_getElem? (i := 1501) (by decide +kernel), List.mem_of_getElem? (i := 1502) (by decide +kernel)⟩
theorem lw_p81 : lw_okq (⟨"TakenInTurnsModel", "triesAll", "(IIIIII)I"⟩, 65) := ⟨⟨by decide +kernel, by decide +kernel⟩, List.mem_of_getElem? (i := 1035) (by decide +kernel), List.mem_of_getElem? (i := 1509) (by decide +kernel), List.mem_of_getElem? (i := 1510) (by decide +kernel)⟩
theorem lw_p82 : lw_okq (⟨"TakenInTurnsModel", "barsOf", "(I)I"⟩, 65) := ⟨⟨by decide +kernel, by decide +kernel⟩, List.mem_of_getElem? (i := 1035) (by decide +kernel), List.mem_of_getElem? (i := 1525) (by decide +kernel), List.mem_of_getElem? (i := 1526) (by decide +kernel)⟩
theorem lw_p83 : lw_okq (⟨"TakenInTurnsModel", "finds", "(II)Z"⟩, 65) := ⟨⟨by decide +kernel, by decide +kernel⟩, List.mem_of_getElem? (i := 1035) (by decide +kernel), List.mem_of_getElem? (i := 1533) (by decide +kernel), List.mem_of_getElem? (i := 1534) (by decide +kernel)⟩
theorem lw_p84 : lw_okq (⟨"TakenInTurnsModel", "most", "(II)I"⟩, 65) := ⟨⟨by decide +kernel, by decide +kernel⟩, List.mem_of_getElem? (i := 1035) (by decide +kernel), List.mem_of_getElem? (i := 1537) (by decide +kernel), List.mem_of_getElem? (i := 1538) (by decide +kernel)⟩
theorem lw_p85 : lw_okq (⟨"TakenInTurnsModel", "pointsOf", "(II)I"⟩, 65) := ⟨⟨by decide +kernel, by decide +kernel⟩, List.mem_of_getElem? (i := 1035) (by decide +kernel), List.mem_of_getElem? (i := 1549) (by decide +kernel), List.mem_of_getElem? (i := 1550) (by decide +kernel)⟩
theorem lw_p86 : lw_okq (⟨"TakenInTurnsModel", "asDigits", "(I)I"⟩, 65) := ⟨⟨by decide +kernel, by decide +kernel⟩, List.mem_of_getElem? (i := 1035) (by decide +kernel), List.mem_of_getElem? (i := 1562) (by decide +kernel), List.mem_of_getElem? (i := 1563) (by decide +kernel)⟩
theorem lw_p87 : lw_okq (⟨"TakenInTurnsModel", "takesFrom", "(III)I"⟩, 65) := ⟨⟨by decide +kernel, by decide +kernel⟩, List.mem_of_getElem? (i := 1035) (by decide +kernel), List.mem_of_getElem? (i := 1574) (by decide +kernel), List.mem_of_getElem? (i := 1575) (by decide +kernel)⟩
theorem lw_p88 : lw_okq (⟨"TakenInTurnsModel", "begins", "(I)V"⟩, 65) := ⟨⟨by decide +kernel, by decide +kernel⟩, List.mem_of_getElem? (i := 1035) (by decide +kernel), List.mem_of_getElem? (i := 1578) (by decide +kernel), List.mem_of_getElem? (i := 1579) (by decide +kernel)⟩
theorem lw_p89 : lw_okq (⟨"TakenInTurnsModel", "leavesFrom", "(III)I"⟩, 65) := ⟨⟨by decide +kernel, by decide +kernel⟩, List.mem_of_getElem? (i := 1035) (by decide +kernel), List.mem_of_getElem? (i := 1585) (by decide +kernel), List.mem_of_getElem? (i := 1586) (by decide +kernel)⟩
theorem lw_p90 : lw_okq (⟨"TakenInTurnsModel", "likesFrom", "(III)I"⟩, 65) := ⟨⟨by decide +kernel, by decide +kernel⟩, List.mem_of_getElem? (i := 1035) (by decide +kernel), List.mem_of_getElem? (i := 1589) (by decide +kernel), List.mem_of_getElem? (i := 1590) (by decide +kernel)⟩
theorem lw_p91 : lw_okq (⟨"TakenInTurnsModel", "tellsFrom", "(III)I"⟩, 65) := ⟨⟨by decide +kernel, by decide +kernel⟩, List.mem_of_getElem? (i := 1035) (by decide +kernel), List.mem_of_getElem? (i := 1593) (by decide +kernel), List.mem_of_getElem? (i := 1594) (by decide +kernel)⟩
theorem lw_p92 : lw_okq (⟨"TakenInTurnsModel", "barred", "(II)I"⟩, 65) := ⟨⟨by decide +kernel, by decide +kernel⟩, List.mem_of_getElem? (i := 1035) (by decide +kernel), List.mem_of_getElem? (i := 1616) (by decide +kernel), List.mem_of_getElem? (i := 1617) (by decide +kernel)⟩
def lw_privs_6 : List (MethodName × Nat) := [(⟨"TakenInTurnsModel", "tries", "(III)I"⟩, 65), (⟨"TakenInTurnsModel", "triesAll", "(IIIIII)I"⟩, 65), (⟨"TakenInTurnsModel", "barsOf", "(I)I"⟩, 65), (⟨"TakenInTurnsModel", "finds", "(II)Z"⟩, 65), (⟨"TakenInTurnsModel", "most", "(II)I"⟩, 65), (⟨"TakenInTurnsModel", "pointsOf", "(II)I"⟩, 65), (⟨"TakenInTurnsModel", "asDigits", "(I)I"⟩, 65), (⟨"TakenInTurnsModel", "takesFrom", "(III)I"⟩, 65), (⟨"TakenInTurnsModel", "begins", "(I)V"⟩, 65), (⟨"TakenInTurnsModel", "leavesFrom", "(III)I"⟩, 65), (⟨"TakenInTurnsModel", "likesFrom", "(III)I"⟩, 65), (⟨"TakenInTurnsModel", "tellsFrom", "(III)I"⟩, 65), (⟨"TakenInTurnsModel", "barred", "(II)I"⟩, 65)]
theorem lw_r6 : ∀ q ∈ lw_privs_6, lw_okq q := List.forall_mem_cons.mpr ⟨lw_p80, List.forall_mem_cons.mpr ⟨lw_p81, List.forall_mem_cons.mpr ⟨lw_p82, List.forall_mem_cons.mpr ⟨lw_p83, List.forall_mem_cons.mpr ⟨lw_p84, List.forall_mem_cons.mpr ⟨lw_p85, List.forall_mem_cons.mpr ⟨lw_p86, List.forall_mem_cons.mpr ⟨lw_p87, List.forall_mem_cons.mpr ⟨lw_p88, List.forall_mem_cons.mpr ⟨lw_p89, List.forall_mem_cons.mpr ⟨lw_p90, List.forall_mem_cons.mpr ⟨lw_p91, List.forall_mem_cons.mpr ⟨lw_p92, fun _ h => absurd h List.not_mem_nil⟩⟩⟩⟩⟩⟩⟩⟩⟩⟩⟩⟩⟩
def lw_privs : List (MethodName × Nat) := lw_privs_1 ++ (lw_privs_2 ++ (lw_privs_3 ++ (lw_privs_4 ++ (lw_privs_5 ++ (lw_privs_6)))))
def lw_tbl : List Cond := k2_sels lw_privs ++ tables_1
theorem lw_privs_ok : ∀ q ∈ lw_privs, lw_okq q := by
  show ∀ q ∈ lw_privs_1 ++ (lw_privs_2 ++ (lw_privs_3 ++ (lw_privs_4 ++ (lw_privs_5 ++ (lw_privs_6))))), lw_okq q
  exact List.forall_mem_append.mpr ⟨lw_r1, List.forall_mem_append.mpr ⟨lw_r2, List.forall_mem_append.mpr ⟨lw_r3, List.forall_mem_append.mpr ⟨lw_r4, List.forall_mem_append.mpr ⟨lw_r5, lw_r6⟩⟩⟩⟩⟩
/-- the words that every method's contract carries: those that a callee keeps -/
def W0 : List Cond := lw_tbl.filter goodWord
end
section
def R0 : String := "TakenInTurns$Acts"
def T0 : u_T := fun k => match k with
  | 0 => ("TakenInTurns$Acts", "kept", "[I", true)
  | 1 => ("TakenInTurns$Acts", "ran", "I", false)
  | 2 => ("TakenInTurns$Acts", "kind", "I", false)
  | _ => ("TakenInTurns$Acts", "number", "I", false)
def ty0 : Nat → FieldType := fun k => match k with
  | 0 => .array .int
  | 1 => .int
  | 2 => .int
  | _ => .int
def R1 : String := "TakenInTurns$Eating"
def T1 : u_T := fun k => match k with
  | 0 => ("TakenInTurns$Eating", "left", "[J", true)
  | 1 => ("TakenInTurns$Eating", "food", "[I", true)
  | 2 => ("TakenInTurns$Eating", "eaters", "[I", true)
  | _ => ("TakenInTurns$Eating", "time", "J", false)
def ty1 : Nat → FieldType := fun k => match k with
  | 0 => .array .long
  | 1 => .array .int
  | 2 => .array .int
  | _ => .long
def R2 : String := "TakenInTurns$Evens"
def T2 : u_T := fun k => match k with
  | 0 => ("TakenInTurns$Evens", "orders", "[I", true)
  | 1 => ("TakenInTurns$Evens", "size", "I", false)
  | 2 => ("TakenInTurns$Evens", "giving", "I", false)
  | 3 => ("TakenInTurns$Evens", "top", "I", false)
  | 4 => ("TakenInTurns$Evens", "bottom", "I", false)
  | _ => ("TakenInTurns$Evens", "points", "[[I", true)
def ty2 : Nat → FieldType := fun k => match k with
  | 0 => .array .int
  | 1 => .int
  | 2 => .int
  | 3 => .int
  | 4 => .int
  | _ => .array (.array .int)
def R3 : String := "TakenInTurns$Giving"
def T3 : u_T := fun k => match k with
  | 0 => ("TakenInTurns$Giving", "things", "I", false)
  | 1 => ("TakenInTurns$Giving", "people", "I", false)
  | 2 => ("TakenInTurns$Giving", "rounds", "I", false)
  | 3 => ("TakenInTurns$Giving", "amount", "[I", true)
  | 4 => ("TakenInTurns$Giving", "held", "[I", true)
  | 5 => ("TakenInTurns$Giving", "size", "[I", true)
  | 6 => ("TakenInTurns$Giving", "list", "[[I", true)
  | 7 => ("TakenInTurns$Giving", "levels", "[[I", true)
  | 8 => ("TakenInTurns$Giving", "parts", "[[I", true)
  | 9 => ("TakenInTurns$Giving", "known", "[LTakenInTurns$Shares;", true)
  | 10 => ("TakenInTurns$Giving", "swapped", "Z", false)
  | 11 => ("TakenInTurns$Giving", "swapOrder", "I", false)
  | _ => ("TakenInTurns$Giving", "swapGap", "I", false)
def ty3 : Nat → FieldType := fun k => match k with
  | 0 => .int
  | 1 => .int
  | 2 => .int
  | 3 => .array .int
  | 4 => .array .int
  | 5 => .array .int
  | 6 => .array (.array .int)
  | 7 => .array (.array .int)
  | 8 => .array (.array .int)
  | 9 => .array ((.object "TakenInTurns$Shares"))
  | 10 => .boolean
  | 11 => .int
  | _ => .int
def R4 : String := "TakenInTurns$Hand"
def T4 : u_T := fun k => match k with
  | 0 => ("TakenInTurns$Hand", "left", "[I", true)
  | 1 => ("TakenInTurns$Hand", "got", "[I", true)
  | 2 => ("TakenInTurns$Hand", "turnOf", "[[I", true)
  | 3 => ("TakenInTurns$Hand", "thingOf", "[[I", true)
  | _ => ("TakenInTurns$Hand", "leftBits", "I", false)
def ty4 : Nat → FieldType := fun k => match k with
  | 0 => .array .int
  | 1 => .array .int
  | 2 => .array (.array .int)
  | 3 => .array (.array .int)
  | _ => .int
def R5 : String := "TakenInTurns$Parting"
def T5 : u_T := fun k => match k with
  | 0 => ("TakenInTurns$Parting", "digits", "[I", true)
  | 1 => ("TakenInTurns$Parting", "weight", "[I", true)
  | 2 => ("TakenInTurns$Parting", "size", "I", false)
  | 3 => ("TakenInTurns$Parting", "known", "LTakenInTurns$Giving;", false)
  | 4 => ("TakenInTurns$Parting", "parts", "[[I", true)
  | 5 => ("TakenInTurns$Parting", "allowed", "[I", true)
  | 6 => ("TakenInTurns$Parting", "pick", "[I", true)
  | 7 => ("TakenInTurns$Parting", "free", "[I", true)
  | 8 => ("TakenInTurns$Parting", "must", "[I", true)
  | _ => ("TakenInTurns$Parting", "slack", "[I", true)
def ty5 : Nat → FieldType := fun k => match k with
  | 0 => .array .int
  | 1 => .array .int
  | 2 => .int
  | 3 => (.object "TakenInTurns$Giving")
  | 4 => .array (.array .int)
  | 5 => .array .int
  | 6 => .array .int
  | 7 => .array .int
  | 8 => .array .int
  | _ => .array .int
def R6 : String := "TakenInTurns$Rings"
def T6 : u_T := fun k => match k with
  | 0 => ("TakenInTurns$Rings", "who", "[I", true)
  | 1 => ("TakenInTurns$Rings", "given", "[I", true)
  | 2 => ("TakenInTurns$Rings", "size", "I", false)
  | _ => ("TakenInTurns$Rings", "known", "Z", false)
def ty6 : Nat → FieldType := fun k => match k with
  | 0 => .array .int
  | 1 => .array .int
  | 2 => .int
  | _ => .boolean
def R7 : String := "TakenInTurns$Shares"
def T7 : u_T := fun k => match k with
  | 0 => ("TakenInTurns$Shares", "top", "[J", true)
  | 1 => ("TakenInTurns$Shares", "bottom", "J", false)
  | 2 => ("TakenInTurns$Shares", "fresh", "Z", false)
  | 3 => ("TakenInTurns$Shares", "big", "Z", false)
  | _ => ("TakenInTurns$Shares", "halts", "I", false)
def ty7 : Nat → FieldType := fun k => match k with
  | 0 => .array .long
  | 1 => .long
  | 2 => .boolean
  | 3 => .boolean
  | _ => .int
def R8 : String := "TakenInTurns$Shelf"
def T8 : u_T := fun k => match k with
  | 0 => ("TakenInTurns$Shelf", "cells", "[J", true)
  | 1 => ("TakenInTurns$Shelf", "holding", "I", false)
  | 2 => ("TakenInTurns$Shelf", "kind", "I", false)
  | 3 => ("TakenInTurns$Shelf", "sort", "I", false)
  | _ => ("TakenInTurns$Shelf", "length", "I", false)
def ty8 : Nat → FieldType := fun k => match k with
  | 0 => .array .long
  | 1 => .int
  | 2 => .int
  | 3 => .int
  | _ => .int
def R9 : String := "TakenInTurns$Tape"
def T9 : u_T := fun k => match k with
  | 0 => ("TakenInTurns$Tape", "text", "[I", true)
  | 1 => ("TakenInTurns$Tape", "length", "I", false)
  | _ => ("TakenInTurns$Tape", "place", "I", false)
def ty9 : Nat → FieldType := fun k => match k with
  | 0 => .array .int
  | 1 => .int
  | _ => .int
def R10 : String := "TakenInTurns$Trade"
def T10 : u_T := fun k => match k with
  | 0 => ("TakenInTurns$Trade", "holds", "[I", true)
  | 1 => ("TakenInTurns$Trade", "ends", "[I", true)
  | 2 => ("TakenInTurns$Trade", "points", "[I", true)
  | _ => ("TakenInTurns$Trade", "done", "[Z", true)
def ty10 : Nat → FieldType := fun k => match k with
  | 0 => .array .int
  | 1 => .array .int
  | 2 => .array .int
  | _ => .array .boolean
def R11 : String := "TakenInTurns"
def T11 : u_T := fun k => match k with
  | 0 => ("TakenInTurns", "tape", "LTakenInTurns$Tape;", true)
  | 1 => ("TakenInTurns", "givings", "[LTakenInTurns$Giving;", true)
  | 2 => ("TakenInTurns", "givingCount", "I", false)
  | 3 => ("TakenInTurns", "otherwise", "LTakenInTurns$Giving;", true)
  | 4 => ("TakenInTurns", "kinds", "[I", true)
  | 5 => ("TakenInTurns", "wayCount", "I", false)
  | 6 => ("TakenInTurns", "latest", "LTakenInTurns$Hand;", true)
  | 7 => ("TakenInTurns", "latestGiving", "LTakenInTurns$Giving;", false)
  | 8 => ("TakenInTurns", "rings", "LTakenInTurns$Rings;", true)
  | 9 => ("TakenInTurns", "trial", "LTakenInTurns$Hand;", true)
  | 10 => ("TakenInTurns", "line", "[I", true)
  | 11 => ("TakenInTurns", "places", "[I", true)
  | 12 => ("TakenInTurns", "totals", "[J", true)
  | 13 => ("TakenInTurns", "eating", "LTakenInTurns$Eating;", true)
  | 14 => ("TakenInTurns", "trade", "LTakenInTurns$Trade;", true)
  | 15 => ("TakenInTurns", "parting", "LTakenInTurns$Parting;", true)
  | 16 => ("TakenInTurns", "evens", "LTakenInTurns$Evens;", true)
  | 17 => ("TakenInTurns", "acts", "LTakenInTurns$Acts;", true)
  | _ => ("TakenInTurns", "shelves", "[LTakenInTurns$Shelf;", true)
def ty11 : Nat → FieldType := fun k => match k with
  | 0 => (.object "TakenInTurns$Tape")
  | 1 => .array ((.object "TakenInTurns$Giving"))
  | 2 => .int
  | 3 => (.object "TakenInTurns$Giving")
  | 4 => .array .int
  | 5 => .int
  | 6 => (.object "TakenInTurns$Hand")
  | 7 => (.object "TakenInTurns$Giving")
  | 8 => (.object "TakenInTurns$Rings")
  | 9 => (.object "TakenInTurns$Hand")
  | 10 => .array .int
  | 11 => .array .int
  | 12 => .array .long
  | 13 => (.object "TakenInTurns$Eating")
  | 14 => (.object "TakenInTurns$Trade")
  | 15 => (.object "TakenInTurns$Parting")
  | 16 => (.object "TakenInTurns$Evens")
  | 17 => (.object "TakenInTurns$Acts")
  | _ => .array ((.object "TakenInTurns$Shelf"))
def R12 : String := "TakenInTurnsModel"
def T12 : u_T := fun k => match k with
  | 0 => ("TakenInTurnsModel", "givings", "I", false)
  | 1 => ("TakenInTurnsModel", "people", "[I", true)
  | 2 => ("TakenInTurnsModel", "things", "[I", true)
  | 3 => ("TakenInTurnsModel", "rounds", "[I", true)
  | 4 => ("TakenInTurnsModel", "many", "[I", true)
  | 5 => ("TakenInTurnsModel", "holds", "[I", true)
  | 6 => ("TakenInTurnsModel", "listSize", "[I", true)
  | 7 => ("TakenInTurnsModel", "list", "[I", true)
  | 8 => ("TakenInTurnsModel", "level", "[I", true)
  | 9 => ("TakenInTurnsModel", "table", "[I", true)
  | 10 => ("TakenInTurnsModel", "ways", "I", false)
  | 11 => ("TakenInTurnsModel", "kind", "[I", true)
  | 12 => ("TakenInTurnsModel", "tape", "[I", true)
  | 13 => ("TakenInTurnsModel", "taped", "I", false)
  | 14 => ("TakenInTurnsModel", "runOf", "I", false)
  | 15 => ("TakenInTurnsModel", "runHas", "[I", true)
  | 16 => ("TakenInTurnsModel", "runLeft", "[I", true)
  | 17 => ("TakenInTurnsModel", "runTurn", "[I", true)
  | 18 => ("TakenInTurnsModel", "runThing", "[I", true)
  | 19 => ("TakenInTurnsModel", "runMany", "[I", true)
  | 20 => ("TakenInTurnsModel", "orders", "I", false)
  | 21 => ("TakenInTurnsModel", "ordersOf", "I", false)
  | 22 => ("TakenInTurnsModel", "order", "[I", true)
  | 23 => ("TakenInTurnsModel", "evenTop", "J", false)
  | 24 => ("TakenInTurnsModel", "evenBottom", "J", false)
  | 25 => ("TakenInTurnsModel", "trace", "[I", true)
  | 26 => ("TakenInTurnsModel", "bodies", "I", false)
  | 27 => ("TakenInTurnsModel", "shelfIs", "[I", true)
  | 28 => ("TakenInTurnsModel", "shelfSort", "[I", true)
  | 29 => ("TakenInTurnsModel", "shelfSize", "[I", true)
  | 30 => ("TakenInTurnsModel", "elements", "[J", true)
  | 31 => ("TakenInTurnsModel", "at", "I", false)
  | 32 => ("TakenInTurnsModel", "goes", "[I", true)
  | 33 => ("TakenInTurnsModel", "hasNow", "[I", true)
  | 34 => ("TakenInTurnsModel", "leftNow", "[I", true)
  | 35 => ("TakenInTurnsModel", "turnNow", "[I", true)
  | 36 => ("TakenInTurnsModel", "thingNow", "[I", true)
  | 37 => ("TakenInTurnsModel", "manyNow", "[I", true)
  | 38 => ("TakenInTurnsModel", "ringWho", "[I", true)
  | 39 => ("TakenInTurnsModel", "ringGives", "[I", true)
  | 40 => ("TakenInTurnsModel", "ringMany", "I", false)
  | 41 => ("TakenInTurnsModel", "top", "[J", true)
  | 42 => ("TakenInTurnsModel", "bottom", "[J", true)
  | 43 => ("TakenInTurnsModel", "isBig", "Z", false)
  | 44 => ("TakenInTurnsModel", "stopMany", "I", false)
  | 45 => ("TakenInTurnsModel", "sums", "[I", true)
  | 46 => ("TakenInTurnsModel", "leftTop", "[J", true)
  | 47 => ("TakenInTurnsModel", "leftBottom", "[J", true)
  | 48 => ("TakenInTurnsModel", "sumTop", "J", false)
  | 49 => ("TakenInTurnsModel", "sumBottom", "J", false)
  | 50 => ("TakenInTurnsModel", "eats", "[I", true)
  | 51 => ("TakenInTurnsModel", "eaters", "[I", true)
  | 52 => ("TakenInTurnsModel", "hold", "[I", true)
  | 53 => ("TakenInTurnsModel", "gets", "[I", true)
  | 54 => ("TakenInTurnsModel", "isDone", "[Z", true)
  | 55 => ("TakenInTurnsModel", "points", "[I", true)
  | 56 => ("TakenInTurnsModel", "parts", "[I", true)
  | 57 => ("TakenInTurnsModel", "keptTop", "[J", true)
  | 58 => ("TakenInTurnsModel", "keptBottom", "[J", true)
  | 59 => ("TakenInTurnsModel", "digit", "[I", true)
  | 60 => ("TakenInTurnsModel", "given", "[I", true)
  | 61 => ("TakenInTurnsModel", "uses", "[I", true)
  | 62 => ("TakenInTurnsModel", "needs", "[I", true)
  | 63 => ("TakenInTurnsModel", "pointsBy", "[I", true)
  | _ => ("TakenInTurnsModel", "total", "[I", true)
def ty12 : Nat → FieldType := fun k => match k with
  | 0 => .int
  | 1 => .array .int
  | 2 => .array .int
  | 3 => .array .int
  | 4 => .array .int
  | 5 => .array .int
  | 6 => .array .int
  | 7 => .array .int
  | 8 => .array .int
  | 9 => .array .int
  | 10 => .int
  | 11 => .array .int
  | 12 => .array .int
  | 13 => .int
  | 14 => .int
  | 15 => .array .int
  | 16 => .array .int
  | 17 => .array .int
  | 18 => .array .int
  | 19 => .array .int
  | 20 => .int
  | 21 => .int
  | 22 => .array .int
  | 23 => .long
  | 24 => .long
  | 25 => .array .int
  | 26 => .int
  | 27 => .array .int
  | 28 => .array .int
  | 29 => .array .int
  | 30 => .array .long
  | 31 => .int
  | 32 => .array .int
  | 33 => .array .int
  | 34 => .array .int
  | 35 => .array .int
  | 36 => .array .int
  | 37 => .array .int
  | 38 => .array .int
  | 39 => .array .int
  | 40 => .int
  | 41 => .array .long
  | 42 => .array .long
  | 43 => .boolean
  | 44 => .int
  | 45 => .array .int
  | 46 => .array .long
  | 47 => .array .long
  | 48 => .long
  | 49 => .long
  | 50 => .array .int
  | 51 => .array .int
  | 52 => .array .int
  | 53 => .array .int
  | 54 => .array .boolean
  | 55 => .array .int
  | 56 => .array .int
  | 57 => .array .long
  | 58 => .array .long
  | 59 => .array .int
  | 60 => .array .int
  | 61 => .array .int
  | 62 => .array .int
  | 63 => .array .int
  | _ => .array .int
def cls : List vw_C := [(R0, T0, 4), (R1, T1, 4), (R2, T2, 6), (R3, T3, 13), (R4, T4, 5), (R5, T5, 10), (R6, T6, 4), (R7, T7, 5), (R8, T8, 5), (R9, T9, 3), (R10, T10, 4), (R11, T11, 19), (R12, T12, 65)]
theorem nm0 : ∀ a, a < 4 → ∀ b, b < 4 → a ≠ b → (T0 a).2.1 ≠ (T0 b).2.1 := by decide +kernel
theorem tyok0 : ∀ k, k < 4 → parseFieldDescriptor (T0 k).2.2.1 = some (ty0 k) := by decide +kernel
theorem nm1 : ∀ a, a < 4 → ∀ b, b < 4 → a ≠ b → (T1 a).2.1 ≠ (T1 b).2.1 := by decide +kernel
theorem tyok1 : ∀ k, k < 4 → parseFieldDescriptor (T1 k).2.2.1 = some (ty1 k) := by decide +kernel
theorem nm2 : ∀ a, a < 6 → ∀ b, b < 6 → a ≠ b → (T2 a).2.1 ≠ (T2 b).2.1 := by decide +kernel
theorem tyok2 : ∀ k, k < 6 → parseFieldDescriptor (T2 k).2.2.1 = some (ty2 k) := by decide +kernel
theorem nm3 : ∀ a, a < 13 → ∀ b, b < 13 → a ≠ b → (T3 a).2.1 ≠ (T3 b).2.1 := by decide +kernel
theorem tyok3 : ∀ k, k < 13 → parseFieldDescriptor (T3 k).2.2.1 = some (ty3 k) := by decide +kernel
theorem nm4 : ∀ a, a < 5 → ∀ b, b < 5 → a ≠ b → (T4 a).2.1 ≠ (T4 b).2.1 := by decide +kernel
theorem tyok4 : ∀ k, k < 5 → parseFieldDescriptor (T4 k).2.2.1 = some (ty4 k) := by decide +kernel
theorem nm5 : ∀ a, a < 10 → ∀ b, b < 10 → a ≠ b → (T5 a).2.1 ≠ (T5 b).2.1 := by decide +kernel
theorem tyok5 : ∀ k, k < 10 → parseFieldDescriptor (T5 k).2.2.1 = some (ty5 k) := by decide +kernel
theorem nm6 : ∀ a, a < 4 → ∀ b, b < 4 → a ≠ b → (T6 a).2.1 ≠ (T6 b).2.1 := by decide +kernel
theorem tyok6 : ∀ k, k < 4 → parseFieldDescriptor (T6 k).2.2.1 = some (ty6 k) := by decide +kernel
theorem nm7 : ∀ a, a < 5 → ∀ b, b < 5 → a ≠ b → (T7 a).2.1 ≠ (T7 b).2.1 := by decide +kernel
theorem tyok7 : ∀ k, k < 5 → parseFieldDescriptor (T7 k).2.2.1 = some (ty7 k) := by decide +kernel
theorem nm8 : ∀ a, a < 5 → ∀ b, b < 5 → a ≠ b → (T8 a).2.1 ≠ (T8 b).2.1 := by decide +kernel
theorem tyok8 : ∀ k, k < 5 → parseFieldDescriptor (T8 k).2.2.1 = some (ty8 k) := by decide +kernel
theorem nm9 : ∀ a, a < 3 → ∀ b, b < 3 → a ≠ b → (T9 a).2.1 ≠ (T9 b).2.1 := by decide +kernel
theorem tyok9 : ∀ k, k < 3 → parseFieldDescriptor (T9 k).2.2.1 = some (ty9 k) := by decide +kernel
theorem nm10 : ∀ a, a < 4 → ∀ b, b < 4 → a ≠ b → (T10 a).2.1 ≠ (T10 b).2.1 := by decide +kernel
theorem tyok10 : ∀ k, k < 4 → parseFieldDescriptor (T10 k).2.2.1 = some (ty10 k) := by decide +kernel
theorem nm11 : ∀ a, a < 19 → ∀ b, b < 19 → a ≠ b → (T11 a).2.1 ≠ (T11 b).2.1 := by decide +kernel
theorem tyok11 : ∀ k, k < 19 → parseFieldDescriptor (T11 k).2.2.1 = some (ty11 k) := by decide +kernel
theorem nm12 : ∀ a, a < 65 → ∀ b, b < 65 → a ≠ b → (T12 a).2.1 ≠ (T12 b).2.1 := by decide +kernel
theorem tyok12 : ∀ k, k < 65 → parseFieldDescriptor (T12 k).2.2.1 = some (ty12 k) := by decide +kernel
def ownL : List String := ["TakenInTurns$Acts", "TakenInTurns$Eating", "TakenInTurns$Evens", "TakenInTurns$Giving", "TakenInTurns$Hand", "TakenInTurns$Parting", "TakenInTurns$Rings", "TakenInTurns$Shares", "TakenInTurns$Shelf", "TakenInTurns$Tape", "TakenInTurns$Trade", "TakenInTurns", "TakenInTurnsModel", "java/lang/Integer", "java/util/Arrays", "java/lang/Math", "TakenInTurnsLaw"]
def ownNm (k : Nat) : String := ownL.getD k ""
def layL : List (List Nat) := [[441, 443, 445, 447], [328, 330, 332, 334], [416, 418, 420, 422, 424, 426], [239, 241, 243, 245, 247, 249, 251, 253, 255, 257, 259, 261, 263], [285, 287, 289, 291, 293], [377, 379, 381, 383, 385, 387, 389, 391, 393, 395], [309, 311, 313, 315], [169, 171, 173, 175, 177], [466, 468, 470, 472, 474], [130, 132, 134], [347, 349, 351, 353], [496, 498, 500, 502, 504, 506, 508, 510, 512, 514, 516, 518, 520, 522, 524, 526, 528, 530, 532], [1199, 1201, 1203, 1205, 1207, 1209, 1211, 1213, 1215, 1217, 1219, 1221, 1223, 1225, 1227, 1229, 1231, 1233, 1235, 1237, 1239, 1241, 1243, 1245, 1247, 1249, 1251, 1253, 1255, 1257, 1259, 1261, 1263, 1265, 1267, 1269, 1271, 1273, 1275, 1277, 1279, 1281, 1283, 1285, 1287, 1289, 1291, 1293, 1295, 1297, 1299, 1301, 1303, 1305, 1307, 1309, 1311, 1313, 1315, 1317, 1319, 1321, 1323, 1325, 1327]]
/-- kinds of the fields: 0 int, 1 long, 2 fixed reference, 3 moving reference, 4 boolean -/
def fkL : List (List Nat) := [[2, 0, 0, 0], [2, 2, 2, 1], [2, 0, 0, 0, 0, 2], [0, 0, 0, 2, 2, 2, 2, 2, 2, 2, 4, 0, 0], [2, 2, 2, 2, 0], [2, 2, 0, 3, 2, 2, 2, 2, 2, 2], [2, 2, 0, 4], [2, 1, 4, 4, 0], [2, 0, 0, 0, 0], [2, 0, 0], [2, 2, 2, 2], [2, 2, 0, 2, 2, 0, 2, 3, 2, 2, 2, 2, 2, 2, 2, 2, 2, 2, 2], [0, 2, 2, 2, 2, 2, 2, 2, 2, 2, 0, 2, 2, 0, 0, 2, 2, 2, 2, 2, 0, 0, 2, 1, 1, 2, 0, 2, 2, 2, 2, 0, 2, 2, 2, 2, 2, 2, 2, 2, 0, 2, 2, 4, 0, 2, 2, 2, 1, 1, 2, 2, 2, 2, 2, 2, 2, 2, 2, 2, 2, 2, 2, 2, 2]]
set_option maxRecDepth 100000 in
def shp (k : Nat) : Nat × Nat := cond (Nat.blt k 407) (cond (Nat.blt k 203) (cond (Nat.blt k 101) (cond (Nat.blt k 50) (cond (Nat.blt k 25) (cond (Nat.blt k 12) (cond (Nat.blt k 6) (cond (Nat.blt k 3) (cond (Nat.blt k 1) (11, 19) (cond (Nat.blt k 2) (9, 3) (100, 120))) (cond (Nat.blt k 4) (103, 5) (cond (Nat.blt k 5) (3, 13) (100, 8)))) (cond (Nat.blt k 9) (cond (Nat.blt k 7) (100, 7) (cond (Nat.blt k 8) (100, 7) (106, 7))) (100, 8))) (cond (Nat.blt k 18) (cond (Nat.blt k 15) (100, 8) (cond (Nat.blt k 16) (100, 8) (cond (Nat.blt k 17) (106, 7) (100, 8)))) (cond (Nat.blt k 21) (100, 8) (cond (Nat.blt k 23) (100, 8) (cond (Nat.blt k 24) (100, 8) (106, 7)))))) (cond (Nat.blt k 37) (cond (Nat.blt k 31) (100, 8) (cond (Nat.blt k 34) (cond (Nat.blt k 32) (100, 8) (cond (Nat.blt k 33) (105, 7) (7, 5))) (cond (Nat.blt k 35) (101, 56) (cond (Nat.blt k 36) (7, 5) (101, 56))))) (cond (Nat.blt k 43) (cond (Nat.blt k 40) (cond (Nat.blt k 38) (7, 5) (cond (Nat.blt k 39) (101, 56) (7, 5))) (cond (Nat.blt k 41) (101, 56) (cond (Nat.blt k 42) (7, 5) (101, 56)))) (cond (Nat.blt k 46) (cond (Nat.blt k 44) (7, 5) (cond (Nat.blt k 45) (101, 56) (7, 5))) (cond (Nat.blt k 48) (cond (Nat.blt k 47) (101, 56) (3, 13)) (cond (Nat.blt k 49) (100, 8) (100, 7))))))) (cond (Nat.blt k 75) (cond (Nat.blt k 62) (cond (Nat.blt k 56) (cond (Nat.blt k 53) (cond (Nat.blt k 51) (100, 7) (cond (Nat.blt k 52) (106, 7) (100, 8))) (100, 8)) (cond (Nat.blt k 59) (100, 8) (cond (Nat.blt k 60) (106, 7) (100, 8)))) (cond (Nat.blt k 68) (cond (Nat.blt k 65) (100, 8) (cond (Nat.blt k 66) (100, 8) (cond (Nat.blt k 67) (100, 8) (106, 7)))) (100, 8))) (cond (Nat.blt k 88) (cond (Nat.blt k 81) (cond (Nat.blt k 78) (cond (Nat.blt k 76) (105, 7) (cond (Nat.blt k 77) (7, 5) (101, 56))) (cond (Nat.blt k 79) (7, 5) (cond (Nat.blt k 80) (101, 56) (7, 5)))) (cond (Nat.blt k 84) (cond (Nat.blt k 82) (101, 56) (cond (Nat.blt k 83) (7, 5) (101, 56))) (cond (Nat.blt k 86) (cond (Nat.blt k 85) (7, 5) (101, 56)) (cond (Nat.blt k 87) (7, 5) (101, 56))))) (cond (Nat.blt k 94) (cond (Nat.blt k 91) (cond (Nat.blt k 89) (7, 5) (cond (Nat.blt k 90) (101, 56) (3, 13))) (cond (Nat.blt k 92) (100, 8) (100, 7))) (cond (Nat.blt k 97) (cond (Nat.blt k 95) (106, 7) (100, 8)) (100, 8)))))) (cond (Nat.blt k 152) (cond (Nat.blt k 126) (cond (Nat.blt k 113) (cond (Nat.blt k 107) (cond (Nat.blt k 104) (cond (Nat.blt k 102) (100, 8) (cond (Nat.blt k 103) (106, 7) (100, 8))) (100, 8)) (cond (Nat.blt k 110) (100, 8) (cond (Nat.blt k 111) (106, 7) (100, 8)))) (cond (Nat.blt k 119) (cond (Nat.blt k 116) (100, 8) (cond (Nat.blt k 117) (100, 8) (cond (Nat.blt k 118) (100, 8) (105, 7)))) (cond (Nat.blt k 122) (cond (Nat.blt k 120) (7, 5) (cond (Nat.blt k 121) (101, 56) (7, 5))) (cond (Nat.blt k 124) (cond (Nat.blt k 123) (101, 56) (7, 5)) (cond (Nat.blt k 125) (101, 56) (7, 5)))))) (cond (Nat.blt k 139) (cond (Nat.blt k 132) (cond (Nat.blt k 129) (cond (Nat.blt k 127) (101, 56) (cond (Nat.blt k 128) (7, 5) (101, 56))) (cond (Nat.blt k 130) (7, 5) (cond (Nat.blt k 131) (101, 56) (7, 5)))) (cond (Nat.blt k 135) (cond (Nat.blt k 133) (101, 56) (cond (Nat.blt k 134) (3, 13) (100, 8))) (cond (Nat.blt k 137) (100, 7) (cond (Nat.blt k 138) (106, 7) (100, 8))))) (cond (Nat.blt k 145) (100, 8) (cond (Nat.blt k 148) (cond (Nat.blt k 146) (106, 7) (100, 8)) (100, 8))))) (cond (Nat.blt k 177) (cond (Nat.blt k 164) (cond (Nat.blt k 158) (cond (Nat.blt k 155) (cond (Nat.blt k 153) (100, 8) (cond (Nat.blt k 154) (106, 7) (100, 8))) (100, 8)) (cond (Nat.blt k 161) (100, 8) (cond (Nat.blt k 162) (105, 7) (cond (Nat.blt k 163) (7, 5) (101, 56))))) (cond (Nat.blt k 170) (cond (Nat.blt k 167) (cond (Nat.blt k 165) (7, 5) (cond (Nat.blt k 166) (101, 56) (7, 5))) (cond (Nat.blt k 168) (101, 56) (cond (Nat.blt k 169) (7, 5) (101, 56)))) (cond (Nat.blt k 173) (cond (Nat.blt k 171) (7, 5) (cond (Nat.blt k 172) (101, 56) (7, 5))) (cond (Nat.blt k 175) (cond (Nat.blt k 174) (101, 56) (7, 5)) (cond (Nat.blt k 176) (101, 56) (3, 13)))))) (cond (Nat.blt k 190) (cond (Nat.blt k 183) (cond (Nat.blt k 180) (cond (Nat.blt k 178) (100, 8) (100, 7)) (cond (Nat.blt k 181) (106, 7) (100, 8))) (cond (Nat.blt k 186) (100, 8) (cond (Nat.blt k 188) (100, 8) (cond (Nat.blt k 189) (106, 7) (100, 8))))) (cond (Nat.blt k 196) (100, 8) (cond (Nat.blt k 199) (cond (Nat.blt k 197) (106, 7) (100, 8)) (100, 8))))))) (cond (Nat.blt k 305) (cond (Nat.blt k 254) (cond (Nat.blt k 228) (cond (Nat.blt k 215) (cond (Nat.blt k 209) (cond (Nat.blt k 206) (cond (Nat.blt k 204) (100, 8) (cond (Nat.blt k 205) (105, 7) (7, 5))) (cond (Nat.blt k 207) (101, 56) (cond (Nat.blt k 208) (7, 5) (101, 56)))) (cond (Nat.blt k 212) (cond (Nat.blt k 210) (7, 5) (cond (Nat.blt k 211) (101, 56) (7, 5))) (cond (Nat.blt k 213) (101, 56) (cond (Nat.blt k 214) (7, 5) (101, 56))))) (cond (Nat.blt k 221) (cond (Nat.blt k 218) (cond (Nat.blt k 216) (7, 5) (cond (Nat.blt k 217) (101, 56) (7, 5))) (cond (Nat.blt k 219) (101, 56) (cond (Nat.blt k 220) (3, 13) (100, 8)))) (cond (Nat.blt k 224) (cond (Nat.blt k 222) (100, 7) (cond (Nat.blt k 223) (100, 7) (106, 7))) (100, 8)))) (cond (Nat.blt k 241) (cond (Nat.blt k 234) (cond (Nat.blt k 231) (100, 8) (cond (Nat.blt k 232) (106, 7) (100, 8))) (cond (Nat.blt k 237) (100, 8) (cond (Nat.blt k 239) (100, 8) (cond (Nat.blt k 240) (106, 7) (100, 8))))) (cond (Nat.blt k 247) (100, 8) (cond (Nat.blt k 250) (cond (Nat.blt k 248) (105, 7) (cond (Nat.blt k 249) (7, 5) (101, 56))) (cond (Nat.blt k 252) (cond (Nat.blt k 251) (7, 5) (101, 56)) (cond (Nat.blt k 253) (7, 5) (101, 56))))))) (cond (Nat.blt k 279) (cond (Nat.blt k 266) (cond (Nat.blt k 260) (cond (Nat.blt k 257) (cond (Nat.blt k 255) (7, 5) (cond (Nat.blt k 256) (101, 56) (7, 5))) (cond (Nat.blt k 258) (101, 56) (cond (Nat.blt k 259) (7, 5) (101, 56)))) (cond (Nat.blt k 263) (cond (Nat.blt k 261) (7, 5) (cond (Nat.blt k 262) (101, 56) (100, 15))) (cond (Nat.blt k 264) (4, 5) (cond (Nat.blt k 265) (100, 8) (100, 7))))) (cond (Nat.blt k 272) (cond (Nat.blt k 269) (cond (Nat.blt k 267) (106, 7) (100, 3)) (100, 3)) (cond (Nat.blt k 275) (cond (Nat.blt k 273) (100, 3) (cond (Nat.blt k 274) (100, 3) (106, 7))) (100, 3)))) (cond (Nat.blt k 292) (cond (Nat.blt k 285) (cond (Nat.blt k 282) (100, 3) (cond (Nat.blt k 283) (6, 4) (100, 7))) (cond (Nat.blt k 288) (cond (Nat.blt k 286) (4, 5) (cond (Nat.blt k 287) (100, 8) (100, 7))) (cond (Nat.blt k 290) (cond (Nat.blt k 289) (106, 7) (100, 3)) (100, 3)))) (cond (Nat.blt k 298) (cond (Nat.blt k 295) (100, 3) (cond (Nat.blt k 296) (100, 3) (cond (Nat.blt k 297) (106, 7) (100, 3)))) (cond (Nat.blt k 301) (100, 3) (cond (Nat.blt k 303) (100, 3) (cond (Nat.blt k 304) (100, 3) (100, 7)))))))) (cond (Nat.blt k 356) (cond (Nat.blt k 330) (cond (Nat.blt k 317) (cond (Nat.blt k 311) (cond (Nat.blt k 308) (cond (Nat.blt k 306) (100, 8) (cond (Nat.blt k 307) (101, 7) (1, 4))) (cond (Nat.blt k 309) (101, 8) (cond (Nat.blt k 310) (100, 7) (100, 8)))) (cond (Nat.blt k 314) (cond (Nat.blt k 312) (10, 4) (100, 7)) (cond (Nat.blt k 315) (100, 7) (cond (Nat.blt k 316) (102, 7) (5, 10))))) (cond (Nat.blt k 323) (cond (Nat.blt k 320) (cond (Nat.blt k 318) (100, 60) (cond (Nat.blt k 319) (100, 60) (106, 7))) (100, 8)) (cond (Nat.blt k 326) (100, 8) (cond (Nat.blt k 328) (cond (Nat.blt k 327) (100, 8) (100, 7)) (cond (Nat.blt k 329) (100, 7) (100, 8)))))) (cond (Nat.blt k 343) (cond (Nat.blt k 336) (cond (Nat.blt k 333) (cond (Nat.blt k 331) (100, 8) (cond (Nat.blt k 332) (100, 8) (2, 6))) (cond (Nat.blt k 334) (100, 6) (cond (Nat.blt k 335) (106, 6) (100, 7)))) (cond (Nat.blt k 339) (100, 7) (cond (Nat.blt k 341) (100, 7) (cond (Nat.blt k 342) (0, 4) (100, 24))))) (cond (Nat.blt k 349) (cond (Nat.blt k 346) (cond (Nat.blt k 344) (104, 6) (cond (Nat.blt k 345) (8, 5) (101, 60))) (cond (Nat.blt k 347) (8, 5) (cond (Nat.blt k 348) (101, 60) (8, 5)))) (cond (Nat.blt k 352) (cond (Nat.blt k 350) (101, 60) (cond (Nat.blt k 351) (8, 5) (101, 60))) (cond (Nat.blt k 354) (cond (Nat.blt k 353) (8, 5) (101, 60)) (cond (Nat.blt k 355) (8, 5) (101, 60))))))) (cond (Nat.blt k 381) (cond (Nat.blt k 368) (cond (Nat.blt k 362) (cond (Nat.blt k 359) (cond (Nat.blt k 357) (12, 65) (100, 6)) (cond (Nat.blt k 360) (100, 6) (cond (Nat.blt k 361) (100, 48) (100, 42)))) (cond (Nat.blt k 365) (cond (Nat.blt k 363) (100, 42) (100, 336)) (cond (Nat.blt k 366) (100, 336) (cond (Nat.blt k 367) (100, 15) (100, 120))))) (cond (Nat.blt k 374) (cond (Nat.blt k 371) (cond (Nat.blt k 369) (100, 56) (cond (Nat.blt k 370) (100, 8) (100, 21))) (cond (Nat.blt k 372) (100, 21) (cond (Nat.blt k 373) (100, 7) (100, 6)))) (cond (Nat.blt k 377) (cond (Nat.blt k 375) (100, 24) (100, 6)) (cond (Nat.blt k 379) (cond (Nat.blt k 378) (100, 6) (101, 360)) (cond (Nat.blt k 380) (100, 7) (100, 56)))))) (cond (Nat.blt k 394) (cond (Nat.blt k 387) (cond (Nat.blt k 384) (cond (Nat.blt k 382) (100, 8) (100, 21)) (100, 7)) (cond (Nat.blt k 390) (cond (Nat.blt k 388) (101, 56) (cond (Nat.blt k 389) (101, 56) (100, 56))) (cond (Nat.blt k 392) (101, 8) (cond (Nat.blt k 393) (100, 7) (100, 8))))) (cond (Nat.blt k 400) (cond (Nat.blt k 397) (cond (Nat.blt k 395) (100, 7) (cond (Nat.blt k 396) (100, 7) (102, 7))) (cond (Nat.blt k 398) (100, 7) (cond (Nat.blt k 399) (100, 56) (101, 8)))) (cond (Nat.blt k 403) (cond (Nat.blt k 401) (101, 8) (cond (Nat.blt k 402) (100, 8) (100, 7))) (cond (Nat.blt k 405) (100, 8) (cond (Nat.blt k 406) (100, 42) (100, 7)))))))))) (999, 0)
set_option maxRecDepth 100000 in
def ptrL (k : Nat) : List Int := cond (Nat.blt k 407) (cond (Nat.blt k 203) (cond (Nat.blt k 101) (cond (Nat.blt k 50) (cond (Nat.blt k 25) (cond (Nat.blt k 12) (cond (Nat.blt k 6) (cond (Nat.blt k 3) (cond (Nat.blt k 1) [1, 3, (-1), 219, 262, (-1), 263, (-1), 282, 285, 304, 305, 306, 307, 311, 316, 332, 341, 343] (cond (Nat.blt k 2) [2, (-1), (-1)] [])) (cond (Nat.blt k 4) [4, 47, 90, 133, 176] (cond (Nat.blt k 5) [(-1), (-1), (-1), 5, 6, 7, 8, 16, 24, 32, (-1), (-1), (-1)] []))) (cond (Nat.blt k 9) (cond (Nat.blt k 7) [] (cond (Nat.blt k 8) [] [9, 10, 11, 12, 13, 14, 15])) [])) (cond (Nat.blt k 18) (cond (Nat.blt k 15) [] (cond (Nat.blt k 16) [] (cond (Nat.blt k 17) [17, 18, 19, 20, 21, 22, 23] []))) (cond (Nat.blt k 21) [] (cond (Nat.blt k 23) [] (cond (Nat.blt k 24) [] [25, 26, 27, 28, 29, 30, 31]))))) (cond (Nat.blt k 37) (cond (Nat.blt k 31) [] (cond (Nat.blt k 34) (cond (Nat.blt k 32) [] (cond (Nat.blt k 33) [33, 35, 37, 39, 41, 43, 45] [34, (-1), (-1), (-1), (-1)])) (cond (Nat.blt k 35) [] (cond (Nat.blt k 36) [36, (-1), (-1), (-1), (-1)] [])))) (cond (Nat.blt k 43) (cond (Nat.blt k 40) (cond (Nat.blt k 38) [38, (-1), (-1), (-1), (-1)] (cond (Nat.blt k 39) [] [40, (-1), (-1), (-1), (-1)])) (cond (Nat.blt k 41) [] (cond (Nat.blt k 42) [42, (-1), (-1), (-1), (-1)] []))) (cond (Nat.blt k 46) (cond (Nat.blt k 44) [44, (-1), (-1), (-1), (-1)] (cond (Nat.blt k 45) [] [46, (-1), (-1), (-1), (-1)])) (cond (Nat.blt k 48) (cond (Nat.blt k 47) [] [(-1), (-1), (-1), 48, 49, 50, 51, 59, 67, 75, (-1), (-1), (-1)]) []))))) (cond (Nat.blt k 75) (cond (Nat.blt k 62) (cond (Nat.blt k 56) (cond (Nat.blt k 53) (cond (Nat.blt k 51) [] (cond (Nat.blt k 52) [52, 53, 54, 55, 56, 57, 58] [])) []) (cond (Nat.blt k 59) [] (cond (Nat.blt k 60) [60, 61, 62, 63, 64, 65, 66] []))) (cond (Nat.blt k 68) (cond (Nat.blt k 65) [] (cond (Nat.blt k 66) [] (cond (Nat.blt k 67) [] [68, 69, 70, 71, 72, 73, 74]))) [])) (cond (Nat.blt k 88) (cond (Nat.blt k 81) (cond (Nat.blt k 78) (cond (Nat.blt k 76) [76, 78, 80, 82, 84, 86, 88] (cond (Nat.blt k 77) [77, (-1), (-1), (-1), (-1)] [])) (cond (Nat.blt k 79) [79, (-1), (-1), (-1), (-1)] (cond (Nat.blt k 80) [] [81, (-1), (-1), (-1), (-1)]))) (cond (Nat.blt k 84) (cond (Nat.blt k 82) [] (cond (Nat.blt k 83) [83, (-1), (-1), (-1), (-1)] [])) (cond (Nat.blt k 86) (cond (Nat.blt k 85) [85, (-1), (-1), (-1), (-1)] []) (cond (Nat.blt k 87) [87, (-1), (-1), (-1), (-1)] [])))) (cond (Nat.blt k 94) (cond (Nat.blt k 91) (cond (Nat.blt k 89) [89, (-1), (-1), (-1), (-1)] (cond (Nat.blt k 90) [] [(-1), (-1), (-1), 91, 92, 93, 94, 102, 110, 118, (-1), (-1), (-1)])) []) (cond (Nat.blt k 97) (cond (Nat.blt k 95) [95, 96, 97, 98, 99, 100, 101] []) []))))) (cond (Nat.blt k 152) (cond (Nat.blt k 126) (cond (Nat.blt k 113) (cond (Nat.blt k 107) (cond (Nat.blt k 104) (cond (Nat.blt k 102) [] (cond (Nat.blt k 103) [103, 104, 105, 106, 107, 108, 109] [])) []) (cond (Nat.blt k 110) [] (cond (Nat.blt k 111) [111, 112, 113, 114, 115, 116, 117] []))) (cond (Nat.blt k 119) (cond (Nat.blt k 116) [] (cond (Nat.blt k 117) [] (cond (Nat.blt k 118) [] [119, 121, 123, 125, 127, 129, 131]))) (cond (Nat.blt k 122) (cond (Nat.blt k 120) [120, (-1), (-1), (-1), (-1)] (cond (Nat.blt k 121) [] [122, (-1), (-1), (-1), (-1)])) (cond (Nat.blt k 124) (cond (Nat.blt k 123) [] [124, (-1), (-1), (-1), (-1)]) (cond (Nat.blt k 125) [] [126, (-1), (-1), (-1), (-1)]))))) (cond (Nat.blt k 139) (cond (Nat.blt k 132) (cond (Nat.blt k 129) (cond (Nat.blt k 127) [] (cond (Nat.blt k 128) [128, (-1), (-1), (-1), (-1)] [])) (cond (Nat.blt k 130) [130, (-1), (-1), (-1), (-1)] (cond (Nat.blt k 131) [] [132, (-1), (-1), (-1), (-1)]))) (cond (Nat.blt k 135) (cond (Nat.blt k 133) [] (cond (Nat.blt k 134) [(-1), (-1), (-1), 134, 135, 136, 137, 145, 153, 161, (-1), (-1), (-1)] [])) (cond (Nat.blt k 137) [] (cond (Nat.blt k 138) [138, 139, 140, 141, 142, 143, 144] [])))) (cond (Nat.blt k 145) [] (cond (Nat.blt k 148) (cond (Nat.blt k 146) [146, 147, 148, 149, 150, 151, 152] []) [])))) (cond (Nat.blt k 177) (cond (Nat.blt k 164) (cond (Nat.blt k 158) (cond (Nat.blt k 155) (cond (Nat.blt k 153) [] (cond (Nat.blt k 154) [154, 155, 156, 157, 158, 159, 160] [])) []) (cond (Nat.blt k 161) [] (cond (Nat.blt k 162) [162, 164, 166, 168, 170, 172, 174] (cond (Nat.blt k 163) [163, (-1), (-1), (-1), (-1)] [])))) (cond (Nat.blt k 170) (cond (Nat.blt k 167) (cond (Nat.blt k 165) [165, (-1), (-1), (-1), (-1)] (cond (Nat.blt k 166) [] [167, (-1), (-1), (-1), (-1)])) (cond (Nat.blt k 168) [] (cond (Nat.blt k 169) [169, (-1), (-1), (-1), (-1)] []))) (cond (Nat.blt k 173) (cond (Nat.blt k 171) [171, (-1), (-1), (-1), (-1)] (cond (Nat.blt k 172) [] [173, (-1), (-1), (-1), (-1)])) (cond (Nat.blt k 175) (cond (Nat.blt k 174) [] [175, (-1), (-1), (-1), (-1)]) (cond (Nat.blt k 176) [] [(-1), (-1), (-1), 177, 178, 179, 180, 188, 196, 204, (-1), (-1), (-1)]))))) (cond (Nat.blt k 190) (cond (Nat.blt k 183) (cond (Nat.blt k 180) [] (cond (Nat.blt k 181) [181, 182, 183, 184, 185, 186, 187] [])) (cond (Nat.blt k 186) [] (cond (Nat.blt k 188) [] (cond (Nat.blt k 189) [189, 190, 191, 192, 193, 194, 195] [])))) (cond (Nat.blt k 196) [] (cond (Nat.blt k 199) (cond (Nat.blt k 197) [197, 198, 199, 200, 201, 202, 203] []) [])))))) (cond (Nat.blt k 305) (cond (Nat.blt k 254) (cond (Nat.blt k 228) (cond (Nat.blt k 215) (cond (Nat.blt k 209) (cond (Nat.blt k 206) (cond (Nat.blt k 204) [] (cond (Nat.blt k 205) [205, 207, 209, 211, 213, 215, 217] [206, (-1), (-1), (-1), (-1)])) (cond (Nat.blt k 207) [] (cond (Nat.blt k 208) [208, (-1), (-1), (-1), (-1)] []))) (cond (Nat.blt k 212) (cond (Nat.blt k 210) [210, (-1), (-1), (-1), (-1)] (cond (Nat.blt k 211) [] [212, (-1), (-1), (-1), (-1)])) (cond (Nat.blt k 213) [] (cond (Nat.blt k 214) [214, (-1), (-1), (-1), (-1)] [])))) (cond (Nat.blt k 221) (cond (Nat.blt k 218) (cond (Nat.blt k 216) [216, (-1), (-1), (-1), (-1)] (cond (Nat.blt k 217) [] [218, (-1), (-1), (-1), (-1)])) (cond (Nat.blt k 219) [] (cond (Nat.blt k 220) [(-1), (-1), (-1), 220, 221, 222, 223, 231, 239, 247, (-1), (-1), (-1)] []))) (cond (Nat.blt k 224) (cond (Nat.blt k 222) [] (cond (Nat.blt k 223) [] [224, 225, 226, 227, 228, 229, 230])) []))) (cond (Nat.blt k 241) (cond (Nat.blt k 234) (cond (Nat.blt k 231) [] (cond (Nat.blt k 232) [232, 233, 234, 235, 236, 237, 238] [])) (cond (Nat.blt k 237) [] (cond (Nat.blt k 239) [] (cond (Nat.blt k 240) [240, 241, 242, 243, 244, 245, 246] [])))) (cond (Nat.blt k 247) [] (cond (Nat.blt k 250) (cond (Nat.blt k 248) [248, 250, 252, 254, 256, 258, 260] (cond (Nat.blt k 249) [249, (-1), (-1), (-1), (-1)] [])) (cond (Nat.blt k 252) (cond (Nat.blt k 251) [251, (-1), (-1), (-1), (-1)] []) (cond (Nat.blt k 253) [253, (-1), (-1), (-1), (-1)] [])))))) (cond (Nat.blt k 279) (cond (Nat.blt k 266) (cond (Nat.blt k 260) (cond (Nat.blt k 257) (cond (Nat.blt k 255) [255, (-1), (-1), (-1), (-1)] (cond (Nat.blt k 256) [] [257, (-1), (-1), (-1), (-1)])) (cond (Nat.blt k 258) [] (cond (Nat.blt k 259) [259, (-1), (-1), (-1), (-1)] []))) (cond (Nat.blt k 263) (cond (Nat.blt k 261) [261, (-1), (-1), (-1), (-1)] []) (cond (Nat.blt k 264) [264, 265, 266, 274, (-1)] []))) (cond (Nat.blt k 272) (cond (Nat.blt k 269) (cond (Nat.blt k 267) [267, 268, 269, 270, 271, 272, 273] []) []) (cond (Nat.blt k 275) (cond (Nat.blt k 273) [] (cond (Nat.blt k 274) [] [275, 276, 277, 278, 279, 280, 281])) []))) (cond (Nat.blt k 292) (cond (Nat.blt k 285) (cond (Nat.blt k 282) [] (cond (Nat.blt k 283) [283, 284, (-1), (-1)] [])) (cond (Nat.blt k 288) (cond (Nat.blt k 286) [286, 287, 288, 296, (-1)] []) (cond (Nat.blt k 290) (cond (Nat.blt k 289) [289, 290, 291, 292, 293, 294, 295] []) []))) (cond (Nat.blt k 298) (cond (Nat.blt k 295) [] (cond (Nat.blt k 296) [] (cond (Nat.blt k 297) [297, 298, 299, 300, 301, 302, 303] []))) [])))) (cond (Nat.blt k 356) (cond (Nat.blt k 330) (cond (Nat.blt k 317) (cond (Nat.blt k 311) (cond (Nat.blt k 308) (cond (Nat.blt k 306) [] (cond (Nat.blt k 307) [] [308, 309, 310, (-1)])) []) (cond (Nat.blt k 314) (cond (Nat.blt k 312) [312, 313, 314, 315] []) (cond (Nat.blt k 315) [] (cond (Nat.blt k 316) [] [317, 318, (-1), (-1), 319, 327, 328, 329, 330, 331])))) (cond (Nat.blt k 323) (cond (Nat.blt k 320) (cond (Nat.blt k 318) [] (cond (Nat.blt k 319) [] [320, 321, 322, 323, 324, 325, 326])) []) [])) (cond (Nat.blt k 343) (cond (Nat.blt k 336) (cond (Nat.blt k 333) (cond (Nat.blt k 331) [] (cond (Nat.blt k 332) [] [333, (-1), (-1), (-1), (-1), 334])) (cond (Nat.blt k 334) [] (cond (Nat.blt k 335) [335, 336, 337, 338, 339, 340] []))) (cond (Nat.blt k 339) [] (cond (Nat.blt k 341) [] (cond (Nat.blt k 342) [342, (-1), (-1), (-1)] [])))) (cond (Nat.blt k 349) (cond (Nat.blt k 346) (cond (Nat.blt k 344) [344, 346, 348, 350, 352, 354] (cond (Nat.blt k 345) [345, (-1), (-1), (-1), (-1)] [])) (cond (Nat.blt k 347) [347, (-1), (-1), (-1), (-1)] (cond (Nat.blt k 348) [] [349, (-1), (-1), (-1), (-1)]))) (cond (Nat.blt k 352) (cond (Nat.blt k 350) [] (cond (Nat.blt k 351) [351, (-1), (-1), (-1), (-1)] [])) (cond (Nat.blt k 354) (cond (Nat.blt k 353) [353, (-1), (-1), (-1), (-1)] []) (cond (Nat.blt k 355) [355, (-1), (-1), (-1), (-1)] [])))))) (cond (Nat.blt k 381) (cond (Nat.blt k 368) (cond (Nat.blt k 362) (cond (Nat.blt k 359) (cond (Nat.blt k 357) [(-1), 357, 358, 359, 360, 361, 362, 363, 364, 365, (-1), 366, 367, (-1), (-1), 368, 369, 370, 371, 372, (-1), (-1), 373, (-1), (-1), 374, (-1), 375, 376, 377, 378, (-1), 379, 380, 381, 382, 383, 384, 385, 386, (-1), 387, 388, (-1), (-1), 389, 390, 391, (-1), (-1), 392, 393, 394, 395, 396, 397, 398, 399, 400, 401, 402, 403, 404, 405, 406] []) []) []) []) [])))) []
abbrev NC : Nat := 407
abbrev Xn : Nat := 356
end
section
/-! ===== the plain machine: cells of numbers, values with a mark (0 int, 1 long, 2 reference: -1 null, from 0 on the number of a cell, below -1 a fixed row outside) ===== -/
abbrev Mem : Type := Int → Int → Int
abbrev AV : Type := Nat × Int
abbrev Lo : Type := List (Nat × AV)
abbrev HS : Type := (Int → Int → Int) × Nat × Mem
abbrev AI : Type := Nat × Nat × Nat × Nat × Nat × Int × List Nat
abbrev MI : Type := MethodName × ByteArray × Nat × Option FieldType × Nat × Nat × List AI
abbrev Gx : Type := (Nat → ClassId) × (Nat → Nat → Nat) × (Nat → ClassId) × Nat × (Nat → Nat) × Nat × (Nat → Int32)
def gD (g : Gx) : va_G := (g.1, g.2.1)
def gA (g : Gx) (k : Nat) : ClassId := g.2.2.1 k
def gB (g : Gx) : Nat := g.2.2.2.1
def gS (g : Gx) (k : Nat) : Nat := g.2.2.2.2.1 k
def gL (g : Gx) : Nat := g.2.2.2.2.2.1
def gX (g : Gx) (k : Nat) : Int32 := g.2.2.2.2.2.2 k
def w32 (x : Int) : Int := (x + 2147483648) % 4294967296 - 2147483648
def w64 (x : Int) : Int := (x + 9223372036854775808) % 18446744073709551616 - 9223372036854775808
def r32 (x : Int) : Prop := -2147483648 ≤ x ∧ x ≤ 2147483647
def r64 (x : Int) : Prop := -9223372036854775808 ≤ x ∧ x ≤ 9223372036854775807
def rgv (v : AV) : Prop := if v.1 = 0 then r32 v.2 else if v.1 = 1 then r64 v.2 else True
def st (σ : Mem) (a i v : Int) : Mem := fun b j => if b = a ∧ j = i then v else σ b j
def refO (g : Gx) : Int → Option Nat
  | .ofNat k => some (gB g + k)
  | .negSucc 0 => none
  | .negSucc (n + 1) => some (gS g (n + 1))
def emb (g : Gx) (v : AV) : Value := if v.1 = 0 then .int (Int32.ofInt v.2) else if v.1 = 1 then .long (Int64.ofInt v.2) else va_rf (refO g v.2)
def embL (g : Gx) (l : Lo) : List (Nat × Value) := l.map fun q => (q.1, emb g q.2)
def fk (c j : Nat) : Nat := (fkL.getD c []).getD j 9
def sK (a : Int) : Nat := match a with
  | .ofNat k => (shp k).1
  | .negSucc n => 900 + n
def sN (a : Int) : Int := match a with
  | .ofNat k => ((shp k).2 : Int)
  | .negSucc n => if n = 1 then 7 else if n = 2 then 28 else 0
def ptr (a j : Int) : Int := match a, j with
  | .ofNat k, .ofNat i => (ptrL k).getD i (-1)
  | _, _ => -1
def fldV (g : Gx) (π : Int → Int → Int) (σ : Mem) (k c j : Nat) : Value := if fk c j = 1 then .long (Int64.ofInt (σ k j)) else if fk c j = 2 then va_rf (refO g (π k j)) else if fk c j = 3 then va_rf (refO g (σ k j)) else .int (Int32.ofInt (σ k j))
def cellE (g : Gx) (π : Int → Int → Int) (σ : Mem) (k : Nat) : va_E :=
  if (shp k).1 < 100 then .inr ((shp k).1, (List.range (shp k).2).map (fldV g π σ k (shp k).1))
  else if (shp k).1 = 101 then .inl (gA g 1, (shp k).2, .inr (.inl (fun j => Int64.ofInt (σ k j))))
  else if (shp k).1 < 103 then .inl (gA g ((shp k).1 - 100), (shp k).2, .inl (fun j => Int32.ofInt (σ k j)))
  else .inl (gA g ((shp k).1 - 100), (shp k).2, .inr (.inr (.inr (.inr (fun j => refO g (π k j))))))
def wsL (g : Gx) (X : HS) : va_W := (List.range X.2.1).map fun k => (gB g + k, cellE g X.1 X.2.2 k)
def tysL (g : Gx) : List (ClassId × FieldType) := [(gA g 0, .int), (gA g 1, .long), (gA g 2, .boolean), (gA g 3, .object "TakenInTurns$Giving"), (gA g 4, .object "TakenInTurns$Shelf"), (gA g 5, .object "TakenInTurns$Shares"), (gA g 6, .array .int)]
/-- which kind of value stands at a place: 0 int, 1 long, 4 boolean, else a reference -/
def kdAt (k j : Nat) : Nat := if (shp k).1 < 100 then fk (shp k).1 j else if (shp k).1 = 100 then 0 else if (shp k).1 = 101 then 1 else if (shp k).1 = 102 then 4 else 2
def rgk (kd : Nat) (x : Int) : Prop := if kd = 0 then r32 x else if kd = 1 then r64 x else if kd = 4 then x = 0 ∨ x = 1 else True
def stv (n j : Nat) : Int := if n = 1 then ([-1, 0, 1, 0, 0, 0, 5] : List Int).getD j 0 else ([1, 10, 11, 2, 20, 0, 0, 0, 0, 30, 0, 0, 0, 0, 40, 0, 0, 0, 0, 50, 0, 60, 0, 0, 0, 71, 70, 0] : List Int).getD j 0
/-- the numbers keep their kinds; the fixed rows outside hold what they hold -/
def PW (g : Gx) (σ : Mem) : Prop := (∀ k j : Nat, k < NC → rgk (kdAt k j) (σ k j)) ∧ (∀ j : Nat, j < 7 → σ (-2) j = stv 1 j) ∧ (∀ j : Nat, j < 28 → σ (-3) j = stv 2 j) ∧ (∀ j : Nat, j < gL g → σ (-4) j = (gX g j).toInt) ∧ σ (-4) (-1) = gL g ∧ gL g ≤ 3072
def WD (g : Gx) (X : HS) (H : Heap) : Prop := (gB g + X.2.1 ≤ H.size ∧ (X.2.1 < NC → H.size = gB g + X.2.1)) ∧ va_P (gD g) cls (wsL g X) H ∧ PW g X.2.2 ∧ X.2.1 ≤ NC
abbrev AA (g : Gx) : Nat → Prop := fun q => gB g ≤ q
/-- words on nest mates that methods need, which the tables' words don't keep -/
def nestM : List (String × Nat × MethodName × String) := [("TakenInTurns", 11, ⟨"TakenInTurns$Tape", "<init>", "()V"⟩, "TakenInTurns"), ("TakenInTurns$Giving", 38, ⟨"TakenInTurns$Shares", "<init>", "()V"⟩, "TakenInTurns"), ("TakenInTurns", 33, ⟨"TakenInTurns$Hand", "<init>", "()V"⟩, "TakenInTurns"), ("TakenInTurns", 40, ⟨"TakenInTurns$Rings", "<init>", "()V"⟩, "TakenInTurns"), ("TakenInTurns", 60, ⟨"TakenInTurns$Eating", "<init>", "()V"⟩, "TakenInTurns"), ("TakenInTurns", 67, ⟨"TakenInTurns$Trade", "<init>", "()V"⟩, "TakenInTurns"), ("TakenInTurns", 74, ⟨"TakenInTurns$Parting", "<init>", "()V"⟩, "TakenInTurns"), ("TakenInTurns", 81, ⟨"TakenInTurns$Evens", "<init>", "()V"⟩, "TakenInTurns"), ("TakenInTurns", 88, ⟨"TakenInTurns$Acts", "<init>", "()V"⟩, "TakenInTurns"), ("TakenInTurns", 99, ⟨"TakenInTurns$Shelf", "<init>", "()V"⟩, "TakenInTurns"), ("TakenInTurns$Tape", 58, ⟨"TakenInTurns", "isThing", "(LTakenInTurns$Giving;I)Z"⟩, "TakenInTurns"), ("TakenInTurns$Shares", 38, ⟨"TakenInTurns", "firstLine", "([II)V"⟩, "TakenInTurns"), ("TakenInTurns$Shares", 53, ⟨"TakenInTurns", "nextLine", "([II)Z"⟩, "TakenInTurns"), ("TakenInTurns$Parting", 76, ⟨"TakenInTurns", "numberOf", "([III)I"⟩, "TakenInTurns"), ("TakenInTurns$Evens", 48, ⟨"TakenInTurns", "commonOf", "(JJ)J"⟩, "TakenInTurns")]
def KD (g : Gx) (U : State) : Prop := va_K (gD g) cls (tysL g) U ∧ (∀ q ∈ nestM, va_Nw (.methodLinkNest q.1 q.2.1 q.2.2.1 q.2.2.2) U) ∧ va_Nw (.fieldLinkNest "TakenInTurns$Acts" 32 "TakenInTurns" "ABOVE" "[I" "TakenInTurns") U
def SP (g : Gx) (U : State) (H : Heap) : Prop :=
  (va_Z "TakenInTurns" "ABOVE" "[I" (.ref (gS g 1)) (AA g) U H ∧ va_T .int (gS g 1) 7 (fun j => .int (Int32.ofInt (stv 1 j))) (AA g) U H) ∧
  (va_Z "TakenInTurns$Acts" "BODIES" "[I" (.ref (gS g 2)) (AA g) U H ∧ va_T .int (gS g 2) 28 (fun j => .int (Int32.ofInt (stv 2 j))) (AA g) U H) ∧
  va_X (gS g 3) (gL g) (gX g) U H ∧ gS g 3 < gB g
def rmd (d mc ms : Nat) : Room := { frames := d, cells := mc, slots := ms, locals := 64 * d }
-- ===== methods
def mN (M : MI) : MethodName := M.1
def mC (M : MI) : ByteArray := M.2.1
def mL (M : MI) : Nat := M.2.2.1
def mR (M : MI) : Option FieldType := M.2.2.2.1
def mO (M : MI) : String := ownNm M.2.2.2.2.1
def mOi (M : MI) : Nat := M.2.2.2.2.1
def mA (M : MI) : Nat := M.2.2.2.2.2.1
def mT (M : MI) : List AI := M.2.2.2.2.2.2
def mi0 : MI := (⟨"", "", ""⟩, ⟨#[]⟩, 0, none, 0, 0, [])
def ai0 : AI := (99, 0, 0, 0, 0, 0, [])
def pcOf (M : MI) (pos : Nat) : Nat := ((mT M).getD pos ai0).2.1
def wsM (M : MI) : List Jvm.Cond := Jvm.Cond.code (mN M) (mC M) (mL M) (mR M) :: W0
def emR (g : Gx) (M : MI) (v : Int) : Option Value := match mR M with
  | none => none
  | some .int => some (emb g (0, v))
  | some .boolean => some (emb g (0, v))
  | some .long => some (emb g (1, v))
  | some _ => some (emb g (2, v))
/-- what a call leaves on the stack -/
def pushR (M : MI) (v : Int) (stk : List AV) : List AV := match mR M with
  | none => stk
  | some .int => (0, v) :: stk
  | some .boolean => (0, v) :: stk
  | some .long => (1, v) :: stk
  | some _ => (2, v) :: stk
def rgR (M : MI) (v : Int) : Prop := match mR M with
  | none => True
  | some .int => r32 v
  | some .boolean => v = 0 ∨ v = 1
  | some .long => r64 v
  | some _ => True
/-- the contract of a method at given arguments and a given memory: it returns, and what K says holds of its answer and of the memory then -/
def AM (M : MI) (d mc ms : Nat) (as : List AV) (X : HS) (K : Int → HS → Prop) : Prop :=
  ∀ (l : Launch) (g : Gx), (∀ v ∈ as, rgv v) → Met l (mN M) (wsM M) (rmd d mc ms) (fun v U => v = (as.map (emb g)).toArray ∧ KD g U ∧ SP g U U.heap ∧ gB g ≤ U.heap.size ∧ WD g X U.heap)
    (fun _ st oc t => (∃ (v : Int) (X' : HS), oc = .returned (emR g M v) ∧ rgR M v ∧ K v X' ∧ WD g X' t.heap) ∧ va_F (AA g) st t) mc ms (AA g)
def FX (M : MI) (p : Program) (s : State) (m : MethodId) (args : Array Value) (meth : Method) (c : Code) : Prop :=
  p.tables.exec = Jvm.exec ∧ c.code = mC M ∧ c.maxLocals = mL M ∧ s.vm.findClass (mO M) = some m.cls ∧ (∀ w ∈ W0, w.before args s = true) ∧ meth.sig.returnType = mR M ∧ meth.locks = false ∧ meth.name = (mN M).name
def retI (M : MI) : Instr := match mR M with
  | none => .return_
  | some .int => .ireturn
  | some .boolean => .ireturn
  | some .long => .lreturn
  | some _ => .areturn
def RK (M : MI) (d mc ms : Nat) (K : Int → HS → Prop) (g : Gx) (p : Program) (l : Launch) (e : Env) (s : State) (m : MethodId) (args : Array Value) (below : List Frame) (meth : Method) (c : Code) (Fin : State → Prop) : Prop :=
  ∀ (H : Heap) (locs : List Loc) (ls : Array Slot) (pc : Nat) (X : HS) (v : Int), decode (mC M) pc = .ok (retI M, 1) → WD g X H → va_S (AA g) s.heap H locs → rgR M v → K v X →
    W p l e (rmd d mc ms) s m args below meth c H locs mc ms Fin (F0 m pc ls (emR g M v).toList)
/-- the machine at a place of a method: it comes to its end, and K holds there -/
def AW (M : MI) (d mc ms : Nat) (pos : Nat) (stk : List AV) (loc : Lo) (X : HS) (cells slots : Nat) (K : Int → HS → Prop) : Prop :=
  ∀ (g : Gx) (p : Program) (l : Launch) (e : Env) (s : State) (m : MethodId) (args : Array Value) (below : List Frame) (meth : Method) (c : Code) (Fin : State → Prop) (H : Heap) (locs : List Loc) (ls : Array Slot),
    FX M p s m args meth c → KD g s → SP g s s.heap → gB g ≤ s.heap.size → RK M d mc ms K g p l e s m args below meth c Fin → WD g X H → va_S (AA g) s.heap H locs → lv_has ls (mL M) (embL g loc) → (∀ v ∈ stk, rgv v) → (∀ q ∈ loc, rgv q.2) → cells ≤ mc → slots ≤ ms →
    W p l e (rmd d mc ms) s m args below meth c H locs cells slots Fin (F0 m (pcOf M pos) ls (stk.map (emb g)))
-- ===== what a row of a method's table stands for
def offs (M : MI) (t pc : Nat) : Int := (pcOf M t : Int) - pc
def cndO (c : Nat) : Jvm.ClassFile.Cond := if c = 0 then .eq else if c = 1 then .ne else if c = 2 then .lt else if c = 3 then .ge else if c = 4 then .gt else .le
end
section
-- ===== numbers
theorem i32_to {x : Int} (h : r32 x) : (Int32.ofInt x).toInt = x := Int32.toInt_ofInt_of_le (by unfold r32 at h; omega) (by unfold r32 at h; omega)
theorem i64_to {x : Int} (h : r64 x) : (Int64.ofInt x).toInt = x := Int64.toInt_ofInt_of_le (by unfold r64 at h; omega) (by unfold r64 at h; omega)
theorem w32_r (x : Int) : r32 (w32 x) := by unfold r32 w32; omega
theorem w64_r (x : Int) : r64 (w64 x) := by unfold r64 w64; omega
theorem toInt_r (x : Int32) : r32 x.toInt := by
  have h1 := x.toInt_lt
  have h2 := x.le_toInt
  unfold r32
  omega
theorem toInt_rl (x : Int64) : r64 x.toInt := by
  have h1 := x.toInt_lt
  have h2 := x.le_toInt
  unfold r64
  omega
theorem ofInt_w32 (x : Int) : Int32.ofInt (w32 x) = Int32.ofInt x := by
  apply Int32.toInt_inj.mp
  rw [i32_to (w32_r x), Int32.toInt_ofInt]
  unfold w32
  rw [Int.bmod_def]
  simp only [Int32.size]
  split <;> omega
theorem ofInt_w64 (x : Int) : Int64.ofInt (w64 x) = Int64.ofInt x := by
  apply Int64.toInt_inj.mp
  rw [i64_to (w64_r x), Int64.toInt_ofInt]
  unfold w64
  rw [Int.bmod_def]
  simp only [Int64.size]
  split <;> omega
theorem i32_lt {x y : Int} (hx : r32 x) (hy : r32 y) : Int32.ofInt x < Int32.ofInt y ↔ x < y := by rw [Int32.lt_iff_toInt_lt, i32_to hx, i32_to hy]
theorem i32_le {x y : Int} (hx : r32 x) (hy : r32 y) : Int32.ofInt x ≤ Int32.ofInt y ↔ x ≤ y := by rw [Int32.le_iff_toInt_le, i32_to hx, i32_to hy]
theorem i32_eq {x y : Int} (hx : r32 x) (hy : r32 y) : Int32.ofInt x = Int32.ofInt y ↔ x = y := by rw [← Int32.toInt_inj, i32_to hx, i32_to hy]
theorem i64_lt {x y : Int} (hx : r64 x) (hy : r64 y) : Int64.ofInt x < Int64.ofInt y ↔ x < y := by rw [Int64.lt_iff_toInt_lt, i64_to hx, i64_to hy]
theorem i64_eq {x y : Int} (hx : r64 x) (hy : r64 y) : Int64.ofInt x = Int64.ofInt y ↔ x = y := by rw [← Int64.toInt_inj, i64_to hx, i64_to hy]
theorem r32_0 : r32 0 := by unfold r32; omega
theorem i32_0 : Int32.ofInt 0 = 0 := rfl
theorem i32_clamp {x : Int} (h : r32 x) : (Int32.ofInt x).toNatClampNeg = x.toNat := by
  show (Int32.ofInt x).toInt.toNat = x.toNat
  rw [i32_to h]
theorem i32_in {x : Int} {n : Nat} (h : r32 x) (h0 : 0 ≤ x) (h1 : x < (n : Int)) : vp_in (Int32.ofInt x) n := by
  unfold vp_in
  rw [← i32_0, i32_lt h r32_0, i32_clamp h]
  omega
-- ===== the list of cells
theorem wsL_len (g : Gx) (X : HS) : (wsL g X).length = X.2.1 := by simp [wsL]
theorem wsL_get {g : Gx} {X : HS} {k : Nat} (h : k < X.2.1) : (wsL g X)[k]? = some (gB g + k, cellE g X.1 X.2.2 k) := by
  simp [wsL, h]
theorem wsL_inv {g : Gx} {X : HS} {k : Nat} {q : Nat × va_E} (h : (wsL g X)[k]? = some q) : k < X.2.1 ∧ q = (gB g + k, cellE g X.1 X.2.2 k) := by
  have hk : k < X.2.1 := by
    rw [← wsL_len g X]
    exact (List.getElem?_eq_some_iff.mp h).1
  rw [wsL_get hk] at h
  exact ⟨hk, (Option.some.inj h).symm⟩
theorem wsL_D (g : Gx) (X : HS) : va_D (AA g) (wsL g X) := by
  refine ⟨fun i j p q hi hj e => ?_, fun k q hk => ?_⟩
  · obtain ⟨-, rfl⟩ := wsL_inv hi
    obtain ⟨-, rfl⟩ := wsL_inv hj
    dsimp only at e
    omega
  · obtain ⟨-, rfl⟩ := wsL_inv hk
    exact Nat.le_add_right _ _
/-- one cell written anew -/
theorem wsL_set {g : Gx} {X X' : HS} {k : Nat} {e : va_E} (hn : X'.2.1 = X.2.1) (hk : cellE g X'.1 X'.2.2 k = e) (ho : ∀ j, j ≠ k → cellE g X'.1 X'.2.2 j = cellE g X.1 X.2.2 j) : (wsL g X).set k (gB g + k, e) = wsL g X' := by
  apply List.ext_getElem?
  intro i
  rw [List.getElem?_set]
  by_cases hi : i < X.2.1
  · rw [wsL_len, wsL_get hi, wsL_get (show i < X'.2.1 by omega)]
    by_cases hki : k = i
    · subst hki
      rw [if_pos rfl, if_pos hi, hk]
    · rw [if_neg hki, ho i (fun q => hki q.symm)]
  · have h1 : (wsL g X)[i]? = none := List.getElem?_eq_none (by rw [wsL_len]; omega)
    have h2 : (wsL g X')[i]? = none := List.getElem?_eq_none (by rw [wsL_len]; omega)
    rw [h1, h2, wsL_len]
    by_cases hki : k = i
    · subst hki
      rw [if_pos rfl, if_neg hi]
    · rw [if_neg hki]
theorem va_Pset {g : Gx} {X X' : HS} {H : Heap} {k : Nat} {e : va_E} (h : va_P (gD g) cls ((wsL g X).set k (gB g + k, e)) H) (hn : X'.2.1 = X.2.1) (hk : cellE g X'.1 X'.2.2 k = e) (ho : ∀ j, j ≠ k → cellE g X'.1 X'.2.2 j = cellE g X.1 X.2.2 j) : va_P (gD g) cls (wsL g X') H := by
  rw [← wsL_set hn hk ho]
  exact h
theorem st_self (σ : Mem) (a i v : Int) : st σ a i v a i = v := by simp [st]
theorem st_ne {σ : Mem} {a i v b j : Int} (h : ¬ (b = a ∧ j = i)) : st σ a i v b j = σ b j := by unfold st; rw [if_neg h]
theorem st_at (σ : Mem) (a i v b j : Int) : st σ a i v b j = if b = a ∧ j = i then v else σ b j := rfl
theorem cellE_st {g : Gx} {π : Int → Int → Int} {σ : Mem} {a : Nat} {i v : Int} {k : Nat} (h : k ≠ a) : cellE g π (st σ a i v) k = cellE g π σ k := by
  have e : ∀ j : Int, st σ a i v k j = σ k j := fun j => st_ne (fun q => h (by omega))
  unfold cellE
  simp only [e]
  have e2 : fldV g π (st σ a i v) k (shp k).1 = fldV g π σ k (shp k).1 := by
    funext j
    unfold fldV
    simp only [e]
  rw [e2]
theorem PW_st {g : Gx} {σ : Mem} {a : Nat} {i v : Int} (h : PW g σ) (hr : ∀ j : Nat, (j : Int) = i → rgk (kdAt a j) v) : PW g (st σ a i v) := by
  obtain ⟨h1, h2, h3, h4, h5, h6⟩ := h
  refine ⟨fun k j hk => ?_, fun j hj => ?_, fun j hj => ?_, fun j hj => ?_, ?_, h6⟩
  · by_cases c : ((k : Int) = a ∧ (j : Int) = i)
    · have hka : k = a := by omega
      subst hka
      rw [st_at, if_pos c]
      exact hr j c.2
    · rw [st_ne c]
      exact h1 k j hk
  · rw [st_ne (fun q => by omega)]; exact h2 j hj
  · rw [st_ne (fun q => by omega)]; exact h3 j hj
  · rw [st_ne (fun q => by omega)]; exact h4 j hj
  · rw [st_ne (fun q => by omega)]; exact h5
end
section
set_option maxRecDepth 100000 in
noncomputable def t_Acts_init : List AI := [(2, 0, 0, 2, 0, 0, []), (41, 1, 0, 0, 3, 0, [0]), (2, 4, 0, 2, 0, 0, []), (0, 5, 0, 0, 1, 24, []), (38, 7, 100, 0, 0, 0, []), (23, 9, 0, 0, 11, 0, [0]), (34, 12, 0, 0, 0, 0, [])]
noncomputable def i_Acts_init : MI := (⟨"TakenInTurns$Acts", "<init>", "()V"⟩, prog_2_method_1_code, 1, none, 0, 0, t_Acts_init)
set_option maxRecDepth 100000 in
noncomputable def t_Acts_clear : List AI := [(2, 0, 0, 2, 0, 0, []), (0, 1, 0, 0, 0, 0, []), (23, 2, 0, 1, 15, 0, [1]), (34, 5, 0, 0, 0, 0, [])]
noncomputable def i_Acts_clear : MI := (⟨"TakenInTurns$Acts", "clear", "()V"⟩, prog_2_method_2_code, 1, none, 0, 0, t_Acts_clear)
set_option maxRecDepth 100000 in
noncomputable def t_Acts_perform : List AI := [(2, 0, 0, 2, 0, 0, []), (2, 1, 1, 0, 0, 0, []), (23, 2, 0, 2, 19, 0, [2]), (2, 5, 0, 2, 0, 0, []), (2, 6, 2, 0, 0, 0, []), (23, 7, 0, 3, 22, 0, [3]), (2, 10, 0, 2, 0, 0, []), (2, 11, 1, 0, 0, 0, []), (2, 12, 3, 0, 0, 0, []), (2, 13, 4, 0, 1, 0, []), (0, 15, 0, 0, 0, 0, []), (32, 16, 4, 0, 25, 5, [0, 0]), (34, 19, 0, 0, 0, 0, [])]
noncomputable def i_Acts_perform : MI := (⟨"TakenInTurns$Acts", "perform", "(IIII)I"⟩, prog_2_method_3_code, 5, Option.some Jvm.ClassFile.FieldType.int, 0, 4, t_Acts_perform)
set_option maxRecDepth 100000 in
noncomputable def t_Acts_note : List AI := [(2, 0, 0, 2, 0, 0, []), (22, 1, 0, 1, 15, 0, [1]), (0, 4, 0, 0, 1, 24, []), (16, 6, 10, 0, 3, 0, []), (2, 9, 0, 2, 0, 0, []), (22, 10, 0, 0, 11, 0, [0]), (2, 13, 0, 2, 0, 0, []), (22, 14, 0, 1, 15, 0, [1]), (2, 17, 1, 0, 0, 0, []), (26, 18, 100, 0, 0, 0, []), (2, 19, 0, 2, 0, 0, []), (28, 20, 0, 0, 0, 0, []), (22, 21, 0, 1, 15, 0, [1]), (0, 24, 0, 0, 0, 1, []), (5, 25, 0, 0, 0, 0, []), (23, 26, 0, 1, 15, 0, [1]), (34, 29, 0, 0, 0, 0, [])]
noncomputable def i_Acts_note : MI := (⟨"TakenInTurns$Acts", "note", "(I)V"⟩, prog_2_method_4_code, 2, none, 0, 1, t_Acts_note)
set_option maxRecDepth 100000 in
noncomputable def t_Acts_begin : List AI := [(2, 0, 1, 0, 0, 0, []), (3, 1, 5, 0, 1, 0, []), (0, 3, 0, 0, 0, 0, []), (3, 4, 6, 0, 1, 0, []), (2, 6, 6, 0, 1, 0, []), (0, 8, 0, 0, 1, 7, []), (16, 10, 23, 0, 3, 0, []), (2, 13, 5, 0, 1, 0, []), (15, 15, 23, 0, 5, 0, []), (24, 18, 2, 0, 29, 0, [0]), (2, 21, 5, 0, 1, 0, []), (0, 23, 0, 0, 0, 4, []), (5, 24, 0, 0, 2, 0, []), (2, 25, 2, 0, 0, 0, []), (5, 26, 0, 0, 0, 0, []), (25, 27, 902, 0, 0, 0, []), (15, 28, 23, 0, 1, 0, []), (24, 31, 1, 1, 32, 0, []), (2, 34, 5, 0, 1, 0, []), (25, 36, 901, 0, 0, 0, []), (3, 37, 5, 0, 1, 0, []), (4, 39, 6, 0, 0, 1, []), (19, 42, 4, 0, 0, 0, []), (2, 45, 5, 0, 1, 0, []), (15, 47, 28, 0, 2, 0, []), (2, 50, 4, 0, 1, 0, []), (0, 52, 0, 0, 1, 40, []), (16, 54, 30, 0, 5, 0, []), (0, 57, 0, 0, 0, 0, []), (34, 58, 0, 0, 0, 0, []), (24, 59, 2, 0, 29, 0, [0]), (2, 62, 5, 0, 1, 0, []), (0, 64, 0, 0, 0, 4, []), (5, 65, 0, 0, 2, 0, []), (2, 66, 2, 0, 0, 0, []), (5, 67, 0, 0, 0, 0, []), (25, 68, 902, 0, 0, 0, []), (3, 69, 6, 0, 1, 0, []), (24, 71, 1, 1, 32, 0, []), (2, 74, 5, 0, 1, 0, []), (25, 76, 901, 0, 0, 0, []), (3, 77, 7, 0, 1, 0, []), (2, 79, 4, 0, 1, 0, []), (0, 81, 0, 0, 0, 1, []), (5, 82, 0, 0, 0, 0, []), (3, 83, 8, 0, 1, 0, []), (2, 85, 0, 2, 0, 0, []), (2, 86, 6, 0, 1, 0, []), (31, 88, 3, 0, 35, 1, [1, 0]), (2, 91, 6, 0, 1, 0, []), (21, 93, 160, 99, 0, 0, [1, 51, 2, 56, 10, 72, 11, 82, 20, 87, 30, 96, 40, 111, 50, 120, 60, 129, 70, 137, 71, 146]), (2, 192, 3, 0, 0, 0, []), (2, 193, 0, 2, 0, 0, []), (22, 194, 0, 3, 22, 0, [3]), (5, 197, 0, 0, 0, 0, []), (34, 198, 0, 0, 0, 0, []), (2, 199, 0, 2, 0, 0, []), (2, 200, 0, 2, 0, 0, []), (22, 201, 0, 2, 19, 0, [2]), (0, 204, 0, 0, 0, 1, []), (2, 205, 3, 0, 0, 0, []), (2, 206, 8, 0, 1, 0, []), (32, 208, 4, 0, 25, 5, [0, 0]), (2, 211, 0, 2, 0, 0, []), (2, 212, 0, 2, 0, 0, []), (22, 213, 0, 2, 19, 0, [2]), (0, 216, 0, 0, 0, 2, []), (0, 217, 0, 0, 0, 1, []), (2, 218, 8, 0, 1, 0, []), (32, 220, 4, 0, 25, 5, [0, 0]), (5, 223, 0, 0, 1, 0, []), (34, 224, 0, 0, 0, 0, []), (2, 225, 0, 2, 0, 0, []), (2, 226, 0, 2, 0, 0, []), (22, 227, 0, 2, 19, 0, [2]), (0, 230, 0, 0, 0, 0, []), (2, 231, 3, 0, 0, 0, []), (2, 232, 8, 0, 1, 0, []), (32, 234, 4, 0, 25, 5, [0, 0]), (0, 237, 0, 0, 0, 2, []), (5, 238, 0, 0, 2, 0, []), (34, 239, 0, 0, 0, 0, []), (2, 240, 3, 0, 0, 0, []), (2, 241, 0, 2, 0, 0, []), (22, 242, 0, 3, 22, 0, [3]), (5, 245, 0, 0, 5, 0, []), (34, 246, 0, 0, 0, 0, []), (2, 247, 0, 2, 0, 0, []), (2, 248, 7, 0, 1, 0, []), (0, 250, 0, 0, 0, 0, []), (2, 251, 3, 0, 0, 0, []), (2, 252, 8, 0, 1, 0, []), (32, 254, 4, 0, 25, 5, [0, 0]), (0, 257, 0, 0, 0, 1, []), (5, 258, 0, 0, 1, 0, []), (34, 259, 0, 0, 0, 0, []), (2, 260, 0, 2, 0, 0, []), (2, 261, 7, 0, 1, 0, []), (0, 263, 0, 0, 0, 1, []), (2, 264, 3, 0, 0, 0, []), (2, 265, 8, 0, 1, 0, []), (32, 267, 4, 0, 25, 5, [0, 0]), (2, 270, 0, 2, 0, 0, []), (2, 271, 0, 2, 0, 0, []), (22, 272, 0, 2, 19, 0, [2]), (0, 275, 0, 0, 0, 0, []), (0, 276, 0, 0, 0, 2, []), (2, 277, 8, 0, 1, 0, []), (32, 279, 4, 0, 25, 5, [0, 0]), (5, 282, 0, 0, 0, 0, []), (34, 283, 0, 0, 0, 0, []), (2, 284, 0, 2, 0, 0, []), (2, 285, 7, 0, 1, 0, []), (0, 287, 0, 0, 0, 2, []), (2, 288, 3, 0, 0, 0, []), (2, 289, 8, 0, 1, 0, []), (32, 291, 4, 0, 25, 5, [0, 0]), (0, 294, 0, 0, 0, 3, []), (5, 295, 0, 0, 2, 0, []), (34, 296, 0, 0, 0, 0, []), (2, 297, 0, 2, 0, 0, []), (2, 298, 7, 0, 1, 0, []), (0, 300, 0, 0, 0, 3, []), (2, 301, 3, 0, 0, 0, []), (2, 302, 8, 0, 1, 0, []), (32, 304, 4, 0, 25, 5, [0, 0]), (0, 307, 0, 0, 0, 5, []), (5, 308, 0, 0, 5, 0, []), (34, 309, 0, 0, 0, 0, []), (2, 310, 0, 2, 0, 0, []), (2, 311, 7, 0, 1, 0, []), (0, 313, 0, 0, 0, 1, []), (2, 314, 3, 0, 0, 0, []), (2, 315, 8, 0, 1, 0, []), (32, 317, 4, 0, 25, 5, [0, 0]), (10, 320, 0, 0, 0, 0, []), (34, 321, 0, 0, 0, 0, []), (2, 322, 0, 2, 0, 0, []), (2, 323, 7, 0, 1, 0, []), (0, 325, 0, 0, 0, 2, []), (2, 326, 3, 0, 0, 0, []), (0, 327, 0, 0, 0, 1, []), (5, 328, 0, 0, 0, 0, []), (2, 329, 8, 0, 1, 0, []), (32, 331, 4, 0, 25, 5, [0, 0]), (34, 334, 0, 0, 0, 0, []), (2, 335, 0, 2, 0, 0, []), (2, 336, 7, 0, 1, 0, []), (0, 338, 0, 0, 0, 1, []), (2, 339, 3, 0, 0, 0, []), (2, 340, 8, 0, 1, 0, []), (32, 342, 4, 0, 25, 5, [0, 0]), (2, 345, 0, 2, 0, 0, []), (2, 346, 7, 0, 1, 0, []), (0, 348, 0, 0, 0, 2, []), (2, 349, 3, 0, 0, 0, []), (2, 350, 8, 0, 1, 0, []), (32, 352, 4, 0, 25, 5, [0, 0]), (5, 355, 0, 0, 1, 0, []), (34, 356, 0, 0, 0, 0, []), (0, 357, 0, 0, 0, 0, []), (34, 358, 0, 0, 0, 0, [])]
noncomputable def i_Acts_begin : MI := (⟨"TakenInTurns$Acts", "begin", "(LTakenInTurns$Acts;IIII)I"⟩, prog_2_method_5_code, 9, Option.some Jvm.ClassFile.FieldType.int, 0, 5, t_Acts_begin)
set_option maxRecDepth 100000 in
noncomputable def t_Eating_init : List AI := [(2, 0, 0, 2, 0, 0, []), (41, 1, 0, 0, 3, 0, [1]), (2, 4, 0, 2, 0, 0, []), (0, 5, 0, 0, 1, 8, []), (38, 7, 101, 0, 0, 0, []), (23, 9, 1, 0, 9, 0, [4]), (2, 12, 0, 2, 0, 0, []), (0, 13, 0, 0, 1, 7, []), (38, 15, 100, 0, 0, 0, []), (23, 17, 1, 1, 15, 0, [5]), (2, 20, 0, 2, 0, 0, []), (0, 21, 0, 0, 1, 8, []), (38, 23, 100, 0, 0, 0, []), (23, 25, 1, 2, 19, 0, [6]), (34, 28, 0, 0, 0, 0, [])]
noncomputable def i_Eating_init : MI := (⟨"TakenInTurns$Eating", "<init>", "()V"⟩, prog_3_method_1_code, 1, none, 1, 0, t_Eating_init)
set_option maxRecDepth 100000 in
noncomputable def t_Eating_eat : List AI := [(0, 0, 0, 0, 0, 0, []), (3, 1, 3, 0, 0, 0, []), (2, 2, 3, 0, 0, 0, []), (2, 3, 1, 2, 0, 0, []), (22, 4, 3, 0, 22, 0, [7]), (16, 7, 17, 0, 3, 0, []), (2, 10, 0, 2, 0, 0, []), (22, 11, 1, 0, 9, 0, [4]), (2, 14, 3, 0, 0, 0, []), (2, 15, 1, 2, 0, 0, []), (22, 16, 3, 3, 28, 0, [8]), (2, 19, 3, 0, 0, 0, []), (25, 20, 100, 0, 0, 0, []), (11, 21, 0, 0, 0, 0, []), (26, 22, 101, 0, 0, 0, []), (4, 23, 3, 0, 0, 1, []), (19, 26, 2, 0, 0, 0, []), (2, 29, 0, 2, 0, 0, []), (1, 30, 0, 0, 0, 0, []), (23, 31, 1, 3, 31, 0, [9]), (0, 34, 0, 0, 0, 0, []), (3, 35, 3, 0, 0, 0, []), (2, 36, 3, 0, 0, 0, []), (0, 37, 0, 0, 1, 8, []), (16, 39, 101, 0, 4, 0, []), (2, 42, 0, 2, 0, 0, []), (22, 43, 1, 3, 31, 0, [9]), (2, 46, 1, 2, 0, 0, []), (22, 47, 3, 2, 35, 0, [10]), (11, 50, 0, 0, 0, 0, []), (2, 51, 2, 2, 0, 0, []), (22, 52, 7, 1, 38, 0, [11]), (7, 55, 0, 0, 2, 0, []), (14, 56, 101, 0, 3, 0, []), (15, 57, 101, 0, 3, 0, []), (2, 60, 0, 2, 0, 0, []), (2, 61, 1, 2, 0, 0, []), (31, 62, 7, 1, 43, 1, [2, 1]), (15, 65, 101, 0, 0, 0, []), (2, 68, 0, 2, 0, 0, []), (2, 69, 1, 2, 0, 0, []), (2, 70, 2, 2, 0, 0, []), (31, 71, 8, 1, 47, 2, [3, 2]), (3, 74, 4, 0, 1, 0, []), (2, 76, 4, 0, 1, 0, []), (15, 78, 48, 0, 3, 0, []), (1, 81, 0, 0, 0, 1, []), (19, 82, 53, 0, 0, 0, []), (2, 85, 0, 2, 0, 0, []), (22, 86, 1, 2, 19, 0, [6]), (2, 89, 4, 0, 1, 0, []), (25, 91, 100, 0, 0, 0, []), (11, 92, 0, 0, 0, 0, []), (3, 93, 5, 1, 1, 0, []), (2, 95, 2, 2, 0, 0, []), (22, 96, 7, 1, 38, 0, [11]), (1, 99, 51, 0, 1, 1000000000000, [0]), (1, 102, 0, 0, 0, 1, []), (2, 103, 5, 1, 1, 0, []), (42, 105, 252, 2, 53, 0, [4]), (8, 108, 0, 0, 0, 0, []), (14, 109, 67, 0, 5, 0, []), (15, 110, 67, 0, 5, 0, []), (2, 113, 2, 2, 0, 0, []), (0, 114, 0, 0, 0, 1, []), (23, 115, 7, 3, 59, 0, [12]), (34, 118, 0, 0, 0, 0, []), (2, 119, 4, 0, 1, 0, []), (15, 121, 79, 0, 3, 0, []), (2, 124, 1, 2, 0, 0, []), (22, 125, 3, 2, 35, 0, [10]), (11, 128, 0, 0, 0, 0, []), (2, 129, 2, 2, 0, 0, []), (22, 130, 7, 1, 38, 0, [11]), (7, 133, 0, 0, 2, 0, []), (2, 134, 0, 2, 0, 0, []), (22, 135, 1, 3, 31, 0, [9]), (7, 138, 0, 0, 1, 0, []), (19, 139, 83, 0, 0, 0, []), (2, 142, 0, 2, 0, 0, []), (22, 143, 1, 0, 9, 0, [4]), (2, 146, 4, 0, 1, 0, []), (25, 148, 101, 0, 0, 0, []), (3, 149, 7, 1, 1, 0, []), (2, 151, 0, 2, 0, 0, []), (2, 152, 2, 2, 0, 0, []), (2, 153, 5, 1, 1, 0, []), (31, 155, 9, 1, 63, 2, [5, 3]), (2, 158, 0, 2, 0, 0, []), (2, 159, 1, 2, 0, 0, []), (2, 160, 2, 2, 0, 0, []), (2, 161, 7, 1, 1, 0, []), (31, 163, 10, 1, 67, 3, [6, 4]), (2, 166, 2, 2, 0, 0, []), (28, 167, 0, 0, 0, 0, []), (22, 168, 7, 4, 71, 0, [13]), (0, 171, 0, 0, 0, 1, []), (5, 172, 0, 0, 0, 0, []), (23, 173, 7, 4, 71, 0, [13]), (4, 176, 3, 0, 0, 1, []), (19, 179, 22, 0, 0, 0, []), (34, 182, 0, 0, 0, 0, [])]
noncomputable def i_Eating_eat : MI := (⟨"TakenInTurns$Eating", "eat", "(LTakenInTurns$Giving;LTakenInTurns$Shares;)V"⟩, prog_3_method_2_code, 9, none, 1, 2, t_Eating_eat)
set_option maxRecDepth 100000 in
noncomputable def t_Eating_choose : List AI := [(0, 0, 0, 0, 0, 0, []), (3, 1, 2, 0, 0, 0, []), (0, 2, 0, 0, 0, 0, []), (3, 3, 3, 0, 0, 0, []), (2, 4, 3, 0, 0, 0, []), (2, 5, 1, 2, 0, 0, []), (22, 6, 3, 0, 22, 0, [7]), (16, 9, 28, 0, 3, 0, []), (2, 12, 0, 2, 0, 0, []), (22, 13, 1, 2, 19, 0, [6]), (2, 16, 3, 0, 0, 0, []), (0, 17, 0, 0, 0, 0, []), (26, 18, 100, 0, 0, 0, []), (2, 19, 0, 2, 0, 0, []), (22, 20, 1, 0, 9, 0, [4]), (2, 23, 3, 0, 0, 0, []), (25, 24, 101, 0, 0, 0, []), (1, 25, 0, 0, 0, 0, []), (14, 26, 26, 0, 5, 0, []), (15, 27, 26, 0, 5, 0, []), (2, 30, 2, 0, 0, 0, []), (0, 31, 0, 0, 0, 1, []), (2, 32, 3, 0, 0, 0, []), (5, 33, 0, 0, 6, 0, []), (5, 34, 0, 0, 4, 0, []), (3, 35, 2, 0, 0, 0, []), (4, 36, 3, 0, 0, 1, []), (19, 39, 4, 0, 0, 0, []), (0, 42, 0, 0, 0, 0, []), (3, 43, 3, 0, 0, 0, []), (0, 44, 0, 0, 0, 0, []), (3, 45, 4, 0, 1, 0, []), (2, 47, 4, 0, 1, 0, []), (2, 49, 1, 2, 0, 0, []), (22, 50, 3, 1, 74, 0, [14]), (16, 53, 60, 0, 3, 0, []), (2, 56, 1, 2, 0, 0, []), (2, 57, 4, 0, 1, 0, []), (2, 59, 2, 0, 0, 0, []), (31, 60, 26, 3, 77, 2, [7, 5]), (3, 63, 5, 0, 1, 0, []), (2, 65, 0, 2, 0, 0, []), (22, 66, 1, 1, 15, 0, [5]), (2, 69, 4, 0, 1, 0, []), (2, 71, 5, 0, 1, 0, []), (26, 73, 100, 0, 0, 0, []), (2, 74, 5, 0, 1, 0, []), (15, 76, 58, 0, 2, 0, []), (2, 79, 0, 2, 0, 0, []), (22, 80, 1, 2, 19, 0, [6]), (2, 83, 5, 0, 1, 0, []), (29, 85, 0, 0, 0, 0, []), (25, 86, 100, 0, 0, 0, []), (0, 87, 0, 0, 0, 1, []), (5, 88, 0, 0, 0, 0, []), (26, 89, 100, 0, 0, 0, []), (0, 90, 0, 0, 0, 1, []), (3, 91, 3, 0, 0, 0, []), (4, 92, 4, 0, 0, 1, []), (19, 95, 32, 0, 0, 0, []), (2, 98, 3, 0, 0, 0, []), (34, 99, 0, 0, 0, 0, [])]
noncomputable def i_Eating_choose : MI := (⟨"TakenInTurns$Eating", "choose", "(LTakenInTurns$Giving;)Z"⟩, prog_3_method_3_code, 6, Option.some Jvm.ClassFile.FieldType.boolean, 1, 1, t_Eating_choose)
set_option maxRecDepth 100000 in
noncomputable def t_Eating_nextEaten : List AI := [(0, 0, 0, 0, 0, (-1), []), (3, 1, 3, 0, 0, 0, []), (2, 2, 1, 2, 0, 0, []), (22, 3, 3, 2, 35, 0, [10]), (11, 6, 0, 0, 0, 0, []), (2, 7, 2, 2, 0, 0, []), (22, 8, 7, 1, 38, 0, [11]), (7, 11, 0, 0, 2, 0, []), (2, 12, 0, 2, 0, 0, []), (22, 13, 1, 3, 31, 0, [9]), (7, 16, 0, 0, 1, 0, []), (3, 17, 4, 1, 1, 0, []), (1, 19, 0, 0, 0, 1, []), (3, 20, 6, 1, 1, 0, []), (0, 22, 0, 0, 0, 0, []), (3, 23, 8, 0, 1, 0, []), (2, 25, 8, 0, 1, 0, []), (2, 27, 1, 2, 0, 0, []), (22, 28, 3, 0, 22, 0, [7]), (16, 31, 55, 0, 3, 0, []), (2, 34, 0, 2, 0, 0, []), (22, 35, 1, 2, 19, 0, [6]), (2, 38, 8, 0, 1, 0, []), (25, 40, 100, 0, 0, 0, []), (15, 41, 53, 0, 5, 0, []), (2, 44, 0, 2, 0, 0, []), (22, 45, 1, 0, 9, 0, [4]), (2, 48, 8, 0, 1, 0, []), (25, 50, 101, 0, 0, 0, []), (2, 51, 6, 1, 1, 0, []), (7, 53, 0, 0, 2, 0, []), (2, 54, 4, 1, 1, 0, []), (2, 56, 0, 2, 0, 0, []), (22, 57, 1, 2, 19, 0, [6]), (2, 60, 8, 0, 1, 0, []), (25, 62, 100, 0, 0, 0, []), (11, 63, 0, 0, 0, 0, []), (7, 64, 0, 0, 2, 0, []), (14, 65, 53, 0, 3, 0, []), (15, 66, 53, 0, 3, 0, []), (2, 69, 8, 0, 1, 0, []), (3, 71, 3, 0, 0, 0, []), (2, 72, 0, 2, 0, 0, []), (22, 73, 1, 0, 9, 0, [4]), (2, 76, 8, 0, 1, 0, []), (25, 78, 101, 0, 0, 0, []), (3, 79, 4, 1, 1, 0, []), (2, 81, 0, 2, 0, 0, []), (22, 82, 1, 2, 19, 0, [6]), (2, 85, 8, 0, 1, 0, []), (25, 87, 100, 0, 0, 0, []), (11, 88, 0, 0, 0, 0, []), (3, 89, 6, 1, 1, 0, []), (4, 91, 8, 0, 0, 1, []), (19, 94, 16, 0, 0, 0, []), (2, 97, 3, 0, 0, 0, []), (34, 98, 0, 0, 0, 0, [])]
noncomputable def i_Eating_nextEaten : MI := (⟨"TakenInTurns$Eating", "nextEaten", "(LTakenInTurns$Giving;LTakenInTurns$Shares;)I"⟩, prog_3_method_4_code, 9, Option.some Jvm.ClassFile.FieldType.int, 1, 2, t_Eating_nextEaten)
set_option maxRecDepth 100000 in
noncomputable def t_Eating_widen : List AI := [(0, 0, 0, 0, 0, 0, []), (3, 1, 4, 0, 1, 0, []), (2, 3, 4, 0, 1, 0, []), (0, 5, 0, 0, 1, 56, []), (16, 7, 15, 0, 3, 0, []), (2, 10, 1, 2, 0, 0, []), (22, 11, 7, 0, 81, 0, [15]), (2, 14, 4, 0, 1, 0, []), (29, 16, 0, 0, 0, 0, []), (25, 17, 101, 0, 0, 0, []), (2, 18, 2, 1, 0, 0, []), (7, 19, 0, 0, 2, 0, []), (26, 20, 101, 0, 0, 0, []), (4, 21, 4, 0, 0, 1, []), (19, 24, 2, 0, 0, 0, []), (0, 27, 0, 0, 0, 0, []), (3, 28, 4, 0, 1, 0, []), (2, 30, 4, 0, 1, 0, []), (0, 32, 0, 0, 1, 8, []), (16, 34, 30, 0, 3, 0, []), (2, 37, 0, 2, 0, 0, []), (22, 38, 1, 0, 9, 0, [4]), (2, 41, 4, 0, 1, 0, []), (29, 43, 0, 0, 0, 0, []), (25, 44, 101, 0, 0, 0, []), (2, 45, 2, 1, 0, 0, []), (7, 46, 0, 0, 2, 0, []), (26, 47, 101, 0, 0, 0, []), (4, 48, 4, 0, 0, 1, []), (19, 51, 17, 0, 0, 0, []), (2, 54, 1, 2, 0, 0, []), (28, 55, 0, 0, 0, 0, []), (22, 56, 7, 1, 38, 0, [11]), (2, 59, 2, 1, 0, 0, []), (7, 60, 0, 0, 2, 0, []), (23, 61, 7, 1, 38, 0, [11]), (2, 64, 0, 2, 0, 0, []), (28, 65, 0, 0, 0, 0, []), (22, 66, 1, 3, 31, 0, [9]), (2, 69, 2, 1, 0, 0, []), (7, 70, 0, 0, 2, 0, []), (23, 71, 1, 3, 31, 0, [9]), (34, 74, 0, 0, 0, 0, [])]
noncomputable def i_Eating_widen : MI := (⟨"TakenInTurns$Eating", "widen", "(LTakenInTurns$Shares;J)V"⟩, prog_3_method_5_code, 5, none, 1, 2, t_Eating_widen)
set_option maxRecDepth 100000 in
noncomputable def t_Eating_pass : List AI := [(0, 0, 0, 0, 0, 0, []), (3, 1, 5, 0, 1, 0, []), (2, 3, 5, 0, 1, 0, []), (2, 5, 1, 2, 0, 0, []), (22, 6, 3, 1, 74, 0, [14]), (16, 9, 39, 0, 3, 0, []), (2, 12, 0, 2, 0, 0, []), (22, 13, 1, 1, 15, 0, [5]), (2, 16, 5, 0, 1, 0, []), (25, 18, 100, 0, 0, 0, []), (15, 19, 37, 0, 2, 0, []), (2, 22, 2, 2, 0, 0, []), (22, 23, 7, 0, 81, 0, [15]), (2, 26, 5, 0, 1, 0, []), (0, 28, 0, 0, 1, 8, []), (5, 30, 0, 0, 2, 0, []), (2, 31, 0, 2, 0, 0, []), (22, 32, 1, 1, 15, 0, [5]), (2, 35, 5, 0, 1, 0, []), (25, 37, 100, 0, 0, 0, []), (5, 38, 0, 0, 0, 0, []), (29, 39, 0, 0, 0, 0, []), (25, 40, 101, 0, 0, 0, []), (2, 41, 3, 1, 0, 0, []), (7, 42, 0, 0, 0, 0, []), (26, 43, 101, 0, 0, 0, []), (2, 44, 0, 2, 0, 0, []), (22, 45, 1, 0, 9, 0, [4]), (2, 48, 0, 2, 0, 0, []), (22, 49, 1, 1, 15, 0, [5]), (2, 52, 5, 0, 1, 0, []), (25, 54, 100, 0, 0, 0, []), (29, 55, 0, 0, 0, 0, []), (25, 56, 101, 0, 0, 0, []), (2, 57, 3, 1, 0, 0, []), (7, 58, 0, 0, 1, 0, []), (26, 59, 101, 0, 0, 0, []), (4, 60, 5, 0, 0, 1, []), (19, 63, 2, 0, 0, 0, []), (2, 66, 0, 2, 0, 0, []), (28, 67, 0, 0, 0, 0, []), (22, 68, 1, 3, 31, 0, [9]), (2, 71, 3, 1, 0, 0, []), (7, 72, 0, 0, 0, 0, []), (23, 73, 1, 3, 31, 0, [9]), (34, 76, 0, 0, 0, 0, [])]
noncomputable def i_Eating_pass : MI := (⟨"TakenInTurns$Eating", "pass", "(LTakenInTurns$Giving;LTakenInTurns$Shares;J)V"⟩, prog_3_method_6_code, 6, none, 1, 3, t_Eating_pass)
set_option maxRecDepth 100000 in
noncomputable def t_Evens_init : List AI := [(2, 0, 0, 2, 0, 0, []), (41, 1, 0, 0, 3, 0, [2]), (2, 4, 0, 2, 0, 0, []), (0, 5, 0, 0, 1, 6, []), (38, 7, 100, 0, 0, 0, []), (23, 9, 2, 0, 11, 0, [16]), (2, 12, 0, 2, 0, 0, []), (0, 13, 0, 0, 1, 6, []), (0, 15, 0, 0, 1, 7, []), (40, 17, 0, 0, 15, 0, [0]), (23, 21, 2, 5, 17, 0, [17]), (34, 24, 0, 0, 0, 0, [])]
noncomputable def i_Evens_init : MI := (⟨"TakenInTurns$Evens", "<init>", "()V"⟩, prog_4_method_1_code, 1, none, 2, 0, t_Evens_init)
set_option maxRecDepth 100000 in
noncomputable def t_Evens_isTold : List AI := [(0, 0, 0, 0, 0, 0, []), (3, 1, 2, 0, 0, 0, []), (2, 2, 2, 0, 0, 0, []), (2, 3, 0, 2, 0, 0, []), (22, 4, 2, 1, 20, 0, [18]), (16, 7, 16, 0, 3, 0, []), (2, 10, 0, 2, 0, 0, []), (22, 11, 2, 0, 11, 0, [16]), (2, 14, 2, 0, 0, 0, []), (25, 15, 100, 0, 0, 0, []), (2, 16, 1, 0, 0, 0, []), (16, 17, 14, 0, 1, 0, []), (0, 20, 0, 0, 0, 1, []), (34, 21, 0, 0, 0, 0, []), (4, 22, 2, 0, 0, 1, []), (19, 25, 2, 0, 0, 0, []), (0, 28, 0, 0, 0, 0, []), (34, 29, 0, 0, 0, 0, [])]
noncomputable def i_Evens_isTold : MI := (⟨"TakenInTurns$Evens", "isTold", "(I)Z"⟩, prog_4_method_2_code, 3, Option.some Jvm.ClassFile.FieldType.boolean, 2, 1, t_Evens_isTold)
set_option maxRecDepth 100000 in
noncomputable def t_Evens_add : List AI := [(2, 0, 0, 2, 0, 0, []), (22, 1, 2, 1, 20, 0, [18]), (0, 4, 0, 0, 1, 6, []), (16, 6, 19, 0, 3, 0, []), (2, 9, 0, 2, 0, 0, []), (2, 10, 1, 0, 0, 0, []), (23, 11, 2, 2, 24, 0, [19]), (2, 14, 0, 2, 0, 0, []), (22, 15, 2, 0, 11, 0, [16]), (2, 18, 0, 2, 0, 0, []), (22, 19, 2, 1, 20, 0, [18]), (2, 22, 2, 0, 0, 0, []), (26, 23, 100, 0, 0, 0, []), (2, 24, 0, 2, 0, 0, []), (28, 25, 0, 0, 0, 0, []), (22, 26, 2, 1, 20, 0, [18]), (0, 29, 0, 0, 0, 1, []), (5, 30, 0, 0, 0, 0, []), (23, 31, 2, 1, 20, 0, [18]), (34, 34, 0, 0, 0, 0, [])]
noncomputable def i_Evens_add : MI := (⟨"TakenInTurns$Evens", "add", "(II)V"⟩, prog_4_method_3_code, 3, none, 2, 2, t_Evens_add)
set_option maxRecDepth 100000 in
noncomputable def t_Evens_keepPoints : List AI := [(0, 0, 0, 0, 0, 0, []), (3, 1, 4, 0, 1, 0, []), (2, 3, 4, 0, 1, 0, []), (2, 5, 2, 2, 0, 0, []), (22, 6, 3, 1, 27, 0, [20]), (16, 9, 18, 0, 3, 0, []), (2, 12, 0, 2, 0, 0, []), (22, 13, 2, 5, 17, 0, [17]), (2, 16, 1, 0, 0, 0, []), (25, 17, 106, 0, 0, 0, []), (2, 18, 4, 0, 1, 0, []), (2, 20, 3, 2, 0, 0, []), (2, 21, 2, 2, 0, 0, []), (2, 22, 4, 0, 1, 0, []), (31, 24, 36, 4, 32, 2, [8, 6]), (26, 27, 100, 0, 0, 0, []), (4, 28, 4, 0, 0, 1, []), (19, 31, 2, 0, 0, 0, []), (34, 34, 0, 0, 0, 0, [])]
noncomputable def i_Evens_keepPoints : MI := (⟨"TakenInTurns$Evens", "keepPoints", "(ILTakenInTurns$Giving;LTakenInTurns$Hand;)V"⟩, prog_4_method_4_code, 5, none, 2, 3, t_Evens_keepPoints)
set_option maxRecDepth 100000 in
noncomputable def t_Evens_choose : List AI := [(0, 0, 0, 0, 0, 0, []), (3, 1, 2, 0, 0, 0, []), (0, 2, 0, 0, 0, 0, []), (3, 3, 3, 0, 0, 0, []), (0, 4, 0, 0, 0, 1, []), (3, 5, 4, 0, 1, 0, []), (0, 7, 0, 0, 0, 1, []), (3, 8, 5, 0, 1, 0, []), (2, 10, 5, 0, 1, 0, []), (0, 12, 0, 0, 0, 1, []), (2, 13, 0, 2, 0, 0, []), (22, 14, 2, 1, 20, 0, [18]), (5, 17, 0, 0, 6, 0, []), (16, 18, 47, 0, 3, 0, []), (2, 21, 0, 2, 0, 0, []), (2, 22, 5, 0, 1, 0, []), (2, 24, 1, 0, 0, 0, []), (31, 25, 16, 2, 38, 2, [9, 7]), (3, 28, 6, 0, 1, 0, []), (2, 30, 5, 0, 1, 0, []), (32, 32, 247, 0, 42, 1, [10, 1]), (3, 35, 7, 0, 1, 0, []), (2, 37, 6, 0, 1, 0, []), (2, 39, 4, 0, 1, 0, []), (5, 41, 0, 0, 2, 0, []), (2, 42, 3, 0, 0, 0, []), (2, 43, 7, 0, 1, 0, []), (5, 45, 0, 0, 2, 0, []), (5, 46, 0, 0, 1, 0, []), (3, 47, 8, 0, 1, 0, []), (2, 49, 2, 0, 0, 0, []), (15, 50, 39, 0, 0, 0, []), (2, 53, 8, 0, 1, 0, []), (15, 55, 39, 0, 4, 0, []), (2, 58, 8, 0, 1, 0, []), (15, 60, 45, 0, 1, 0, []), (2, 63, 7, 0, 1, 0, []), (2, 65, 4, 0, 1, 0, []), (16, 67, 45, 0, 3, 0, []), (2, 70, 5, 0, 1, 0, []), (3, 72, 2, 0, 0, 0, []), (2, 73, 6, 0, 1, 0, []), (3, 75, 3, 0, 0, 0, []), (2, 76, 7, 0, 1, 0, []), (3, 78, 4, 0, 1, 0, []), (4, 80, 5, 0, 0, 1, []), (19, 83, 8, 0, 0, 0, []), (2, 86, 3, 0, 0, 0, []), (11, 87, 0, 0, 0, 0, []), (2, 88, 4, 0, 1, 0, []), (11, 90, 0, 0, 0, 0, []), (32, 91, 146, 1, 48, 2, [0, 2]), (12, 94, 0, 0, 0, 0, []), (3, 95, 5, 0, 1, 0, []), (2, 97, 0, 2, 0, 0, []), (2, 98, 3, 0, 0, 0, []), (2, 99, 5, 0, 1, 0, []), (6, 101, 0, 0, 0, 0, []), (23, 102, 2, 3, 52, 0, [21]), (2, 105, 0, 2, 0, 0, []), (2, 106, 4, 0, 1, 0, []), (2, 108, 5, 0, 1, 0, []), (6, 110, 0, 0, 0, 0, []), (23, 111, 2, 4, 55, 0, [22]), (2, 114, 0, 2, 0, 0, []), (0, 115, 0, 0, 0, 0, []), (23, 116, 2, 1, 20, 0, [18]), (2, 119, 2, 0, 0, 0, []), (34, 120, 0, 0, 0, 0, [])]
noncomputable def i_Evens_choose : MI := (⟨"TakenInTurns$Evens", "choose", "(I)I"⟩, prog_4_method_5_code, 9, Option.some Jvm.ClassFile.FieldType.int, 2, 1, t_Evens_choose)
set_option maxRecDepth 100000 in
noncomputable def t_Evens_leastOf : List AI := [(0, 0, 58, 0, 3, 1000000, [0]), (3, 2, 3, 0, 0, 0, []), (0, 3, 0, 0, 0, 0, []), (3, 4, 4, 0, 1, 0, []), (2, 6, 4, 0, 1, 0, []), (2, 8, 2, 0, 0, 0, []), (16, 9, 40, 0, 3, 0, []), (0, 12, 0, 0, 0, 0, []), (3, 13, 5, 0, 1, 0, []), (0, 15, 0, 0, 0, 0, []), (3, 16, 6, 0, 1, 0, []), (2, 18, 6, 0, 1, 0, []), (2, 20, 0, 2, 0, 0, []), (22, 21, 2, 1, 20, 0, [18]), (16, 24, 34, 0, 3, 0, []), (2, 27, 5, 0, 1, 0, []), (2, 29, 1, 0, 0, 0, []), (2, 30, 6, 0, 1, 0, []), (5, 32, 0, 0, 7, 0, []), (0, 33, 0, 0, 0, 1, []), (5, 34, 0, 0, 3, 0, []), (15, 35, 29, 0, 0, 0, []), (2, 38, 0, 2, 0, 0, []), (22, 39, 2, 5, 17, 0, [17]), (2, 42, 6, 0, 1, 0, []), (25, 44, 106, 0, 0, 0, []), (2, 45, 4, 0, 1, 0, []), (25, 47, 100, 0, 0, 0, []), (19, 48, 30, 0, 0, 0, []), (0, 51, 0, 0, 0, 0, []), (5, 52, 0, 0, 0, 0, []), (3, 53, 5, 0, 1, 0, []), (4, 55, 6, 0, 0, 1, []), (19, 58, 11, 0, 0, 0, []), (2, 61, 3, 0, 0, 0, []), (2, 62, 5, 0, 1, 0, []), (42, 64, 253, 1, 59, 0, [11]), (3, 67, 3, 0, 0, 0, []), (4, 68, 4, 0, 0, 1, []), (19, 71, 4, 0, 0, 0, []), (2, 74, 3, 0, 0, 0, []), (34, 75, 0, 0, 0, 0, [])]
noncomputable def i_Evens_leastOf : MI := (⟨"TakenInTurns$Evens", "leastOf", "(II)I"⟩, prog_4_method_6_code, 7, Option.some Jvm.ClassFile.FieldType.int, 2, 2, t_Evens_leastOf)
set_option maxRecDepth 100000 in
noncomputable def t_Giving_init : List AI := [(2, 0, 0, 2, 0, 0, []), (41, 1, 0, 0, 3, 0, [3]), (2, 4, 0, 2, 0, 0, []), (0, 5, 0, 0, 1, 8, []), (38, 7, 100, 0, 0, 0, []), (23, 9, 3, 3, 9, 0, [23]), (2, 12, 0, 2, 0, 0, []), (0, 13, 0, 0, 1, 7, []), (38, 15, 100, 0, 0, 0, []), (23, 17, 3, 4, 15, 0, [24]), (2, 20, 0, 2, 0, 0, []), (0, 21, 0, 0, 1, 7, []), (38, 23, 100, 0, 0, 0, []), (23, 25, 3, 5, 18, 0, [25]), (2, 28, 0, 2, 0, 0, []), (0, 29, 0, 0, 1, 7, []), (0, 31, 0, 0, 1, 8, []), (40, 33, 0, 0, 21, 0, [1]), (23, 37, 3, 6, 23, 0, [26]), (2, 40, 0, 2, 0, 0, []), (0, 41, 0, 0, 1, 7, []), (0, 43, 0, 0, 1, 8, []), (40, 45, 0, 0, 21, 0, [1]), (23, 49, 3, 7, 26, 0, [27]), (2, 52, 0, 2, 0, 0, []), (0, 53, 0, 0, 1, 7, []), (0, 55, 0, 0, 1, 8, []), (40, 57, 0, 0, 21, 0, [1]), (23, 61, 3, 8, 29, 0, [28]), (2, 64, 0, 2, 0, 0, []), (0, 65, 0, 0, 1, 7, []), (39, 67, 105, 0, 32, 0, [2]), (23, 70, 3, 9, 34, 0, [29]), (0, 73, 0, 0, 0, 0, []), (3, 74, 1, 0, 0, 0, []), (2, 75, 1, 0, 0, 0, []), (0, 76, 0, 0, 1, 7, []), (16, 78, 47, 0, 3, 0, []), (2, 81, 0, 2, 0, 0, []), (22, 82, 3, 9, 34, 0, [29]), (2, 85, 1, 0, 0, 0, []), (37, 86, 7, 0, 32, 0, [3]), (28, 89, 0, 0, 0, 0, []), (33, 90, 55, 1, 38, 0, [1, 0]), (26, 93, 105, 0, 0, 0, []), (4, 94, 1, 0, 0, 1, []), (19, 97, 35, 0, 0, 0, []), (34, 100, 0, 0, 0, 0, [])]
noncomputable def i_Giving_init : MI := (⟨"TakenInTurns$Giving", "<init>", "()V"⟩, prog_5_method_1_code, 2, none, 3, 0, t_Giving_init)
set_option maxRecDepth 100000 in
noncomputable def t_Giving_isPart : List AI := [(2, 0, 0, 1, 0, 0, []), (1, 1, 0, 0, 0, 0, []), (14, 2, 10, 0, 2, 0, []), (15, 3, 10, 0, 2, 0, []), (2, 6, 0, 1, 0, 0, []), (1, 7, 39, 0, 1, 60, [1]), (14, 10, 10, 0, 4, 0, []), (15, 11, 10, 0, 4, 0, []), (0, 14, 0, 0, 0, 1, []), (19, 15, 11, 0, 0, 0, []), (0, 18, 0, 0, 0, 0, []), (34, 19, 0, 0, 0, 0, [])]
noncomputable def i_Giving_isPart : MI := (⟨"TakenInTurns$Giving", "isPart", "(J)Z"⟩, prog_5_method_2_code, 2, Option.some Jvm.ClassFile.FieldType.boolean, 3, 1, t_Giving_isPart)
set_option maxRecDepth 100000 in
noncomputable def t_Giving_clear : List AI := [(2, 0, 0, 2, 0, 0, []), (0, 1, 0, 0, 0, 0, []), (23, 2, 3, 0, 41, 0, [30]), (2, 5, 0, 2, 0, 0, []), (0, 6, 0, 0, 0, 0, []), (23, 7, 3, 1, 45, 0, [31]), (2, 10, 0, 2, 0, 0, []), (0, 11, 0, 0, 0, 1, []), (23, 12, 3, 2, 48, 0, [32]), (0, 15, 0, 0, 0, 0, []), (3, 16, 1, 0, 0, 0, []), (2, 17, 1, 0, 0, 0, []), (0, 18, 0, 0, 1, 7, []), (16, 20, 22, 0, 3, 0, []), (2, 23, 0, 2, 0, 0, []), (22, 24, 3, 8, 29, 0, [28]), (2, 27, 1, 0, 0, 0, []), (25, 28, 106, 0, 0, 0, []), (0, 29, 0, 0, 0, 0, []), (32, 30, 249, 0, 51, 2, [12, 3]), (4, 33, 1, 0, 0, 1, []), (19, 36, 11, 0, 0, 0, []), (2, 39, 0, 2, 0, 0, []), (31, 40, 21, 3, 57, 0, [13, 8]), (34, 43, 0, 0, 0, 0, [])]
noncomputable def i_Giving_clear : MI := (⟨"TakenInTurns$Giving", "clear", "()V"⟩, prog_5_method_3_code, 2, none, 3, 0, t_Giving_clear)
set_option maxRecDepth 100000 in
noncomputable def t_Giving_become : List AI := [(2, 0, 0, 2, 0, 0, []), (2, 1, 1, 2, 0, 0, []), (22, 2, 3, 0, 41, 0, [30]), (23, 5, 3, 0, 41, 0, [30]), (2, 8, 0, 2, 0, 0, []), (2, 9, 1, 2, 0, 0, []), (22, 10, 3, 1, 45, 0, [31]), (23, 13, 3, 1, 45, 0, [31]), (2, 16, 0, 2, 0, 0, []), (2, 17, 1, 2, 0, 0, []), (22, 18, 3, 2, 48, 0, [32]), (23, 21, 3, 2, 48, 0, [32]), (2, 24, 1, 2, 0, 0, []), (22, 25, 3, 3, 9, 0, [23]), (0, 28, 0, 0, 0, 0, []), (2, 29, 0, 2, 0, 0, []), (22, 30, 3, 3, 9, 0, [23]), (0, 33, 0, 0, 0, 0, []), (0, 34, 0, 0, 1, 8, []), (35, 36, 100, 0, 60, 0, [4]), (2, 39, 1, 2, 0, 0, []), (22, 40, 3, 4, 15, 0, [24]), (0, 43, 0, 0, 0, 0, []), (2, 44, 0, 2, 0, 0, []), (22, 45, 3, 4, 15, 0, [24]), (0, 48, 0, 0, 0, 0, []), (0, 49, 0, 0, 1, 7, []), (35, 51, 100, 0, 60, 0, [4]), (2, 54, 1, 2, 0, 0, []), (22, 55, 3, 5, 18, 0, [25]), (0, 58, 0, 0, 0, 0, []), (2, 59, 0, 2, 0, 0, []), (22, 60, 3, 5, 18, 0, [25]), (0, 63, 0, 0, 0, 0, []), (0, 64, 0, 0, 1, 7, []), (35, 66, 100, 0, 60, 0, [4]), (0, 69, 0, 0, 0, 0, []), (3, 70, 2, 0, 0, 0, []), (2, 71, 2, 0, 0, 0, []), (0, 72, 0, 0, 1, 7, []), (16, 74, 79, 0, 3, 0, []), (2, 77, 1, 2, 0, 0, []), (22, 78, 3, 6, 23, 0, [26]), (2, 81, 2, 0, 0, 0, []), (25, 82, 106, 0, 0, 0, []), (0, 83, 0, 0, 0, 0, []), (2, 84, 0, 2, 0, 0, []), (22, 85, 3, 6, 23, 0, [26]), (2, 88, 2, 0, 0, 0, []), (25, 89, 106, 0, 0, 0, []), (0, 90, 0, 0, 0, 0, []), (0, 91, 0, 0, 1, 8, []), (35, 93, 100, 0, 60, 0, [4]), (2, 96, 1, 2, 0, 0, []), (22, 97, 3, 7, 26, 0, [27]), (2, 100, 2, 0, 0, 0, []), (25, 101, 106, 0, 0, 0, []), (0, 102, 0, 0, 0, 0, []), (2, 103, 0, 2, 0, 0, []), (22, 104, 3, 7, 26, 0, [27]), (2, 107, 2, 0, 0, 0, []), (25, 108, 106, 0, 0, 0, []), (0, 109, 0, 0, 0, 0, []), (0, 110, 0, 0, 1, 8, []), (35, 112, 100, 0, 60, 0, [4]), (2, 115, 1, 2, 0, 0, []), (22, 116, 3, 8, 29, 0, [28]), (2, 119, 2, 0, 0, 0, []), (25, 120, 106, 0, 0, 0, []), (0, 121, 0, 0, 0, 0, []), (2, 122, 0, 2, 0, 0, []), (22, 123, 3, 8, 29, 0, [28]), (2, 126, 2, 0, 0, 0, []), (25, 127, 106, 0, 0, 0, []), (0, 128, 0, 0, 0, 0, []), (0, 129, 0, 0, 1, 8, []), (35, 131, 100, 0, 60, 0, [4]), (4, 134, 2, 0, 0, 1, []), (19, 137, 38, 0, 0, 0, []), (2, 140, 0, 2, 0, 0, []), (31, 141, 21, 3, 57, 0, [13, 8]), (34, 144, 0, 0, 0, 0, [])]
noncomputable def i_Giving_become : MI := (⟨"TakenInTurns$Giving", "become", "(LTakenInTurns$Giving;)V"⟩, prog_5_method_4_code, 3, none, 3, 1, t_Giving_become)
set_option maxRecDepth 100000 in
noncomputable def t_Giving_forgetAll : List AI := [(0, 0, 0, 0, 0, 0, []), (3, 1, 1, 0, 0, 0, []), (2, 2, 1, 0, 0, 0, []), (0, 3, 0, 0, 1, 7, []), (16, 5, 13, 0, 3, 0, []), (2, 8, 0, 2, 0, 0, []), (22, 9, 3, 9, 34, 0, [29]), (2, 12, 1, 0, 0, 0, []), (25, 13, 105, 0, 0, 0, []), (0, 14, 0, 0, 0, 0, []), (23, 15, 7, 2, 66, 0, [33]), (4, 18, 1, 0, 0, 1, []), (19, 21, 2, 0, 0, 0, []), (2, 24, 0, 2, 0, 0, []), (0, 25, 0, 0, 0, 0, []), (23, 26, 3, 10, 70, 0, [34]), (34, 29, 0, 0, 0, 0, [])]
noncomputable def i_Giving_forgetAll : MI := (⟨"TakenInTurns$Giving", "forgetAll", "()V"⟩, prog_5_method_5_code, 2, none, 3, 0, t_Giving_forgetAll)
set_option maxRecDepth 100000 in
noncomputable def t_Giving_unlist : List AI := [(2, 0, 0, 2, 0, 0, []), (22, 1, 3, 4, 15, 0, [24]), (2, 4, 1, 0, 0, 0, []), (0, 5, 0, 0, 0, (-1), []), (26, 6, 100, 0, 0, 0, []), (2, 7, 0, 2, 0, 0, []), (22, 8, 3, 5, 18, 0, [25]), (2, 11, 1, 0, 0, 0, []), (0, 12, 0, 0, 0, 0, []), (26, 13, 100, 0, 0, 0, []), (2, 14, 0, 2, 0, 0, []), (22, 15, 3, 7, 26, 0, [27]), (2, 18, 1, 0, 0, 0, []), (25, 19, 106, 0, 0, 0, []), (0, 20, 0, 0, 0, (-1), []), (32, 21, 249, 0, 51, 2, [12, 3]), (34, 24, 0, 0, 0, 0, [])]
noncomputable def i_Giving_unlist : MI := (⟨"TakenInTurns$Giving", "unlist", "(I)V"⟩, prog_5_method_6_code, 2, none, 3, 1, t_Giving_unlist)
set_option maxRecDepth 100000 in
noncomputable def t_Giving_append : List AI := [(2, 0, 0, 2, 0, 0, []), (22, 1, 3, 5, 18, 0, [25]), (2, 4, 1, 0, 0, 0, []), (25, 5, 100, 0, 0, 0, []), (0, 6, 0, 0, 1, 8, []), (16, 8, 31, 0, 3, 0, []), (2, 11, 0, 2, 0, 0, []), (22, 12, 3, 6, 23, 0, [26]), (2, 15, 1, 0, 0, 0, []), (25, 16, 106, 0, 0, 0, []), (2, 17, 0, 2, 0, 0, []), (22, 18, 3, 5, 18, 0, [25]), (2, 21, 1, 0, 0, 0, []), (25, 22, 100, 0, 0, 0, []), (2, 23, 2, 0, 0, 0, []), (26, 24, 100, 0, 0, 0, []), (2, 25, 0, 2, 0, 0, []), (22, 26, 3, 7, 26, 0, [27]), (2, 29, 1, 0, 0, 0, []), (25, 30, 106, 0, 0, 0, []), (2, 31, 2, 0, 0, 0, []), (2, 32, 3, 0, 0, 0, []), (26, 33, 100, 0, 0, 0, []), (2, 34, 0, 2, 0, 0, []), (22, 35, 3, 5, 18, 0, [25]), (2, 38, 1, 0, 0, 0, []), (29, 39, 0, 0, 0, 0, []), (25, 40, 100, 0, 0, 0, []), (0, 41, 0, 0, 0, 1, []), (5, 42, 0, 0, 0, 0, []), (26, 43, 100, 0, 0, 0, []), (34, 44, 0, 0, 0, 0, [])]
noncomputable def i_Giving_append : MI := (⟨"TakenInTurns$Giving", "append", "(III)V"⟩, prog_5_method_7_code, 4, none, 3, 3, t_Giving_append)
set_option maxRecDepth 100000 in
noncomputable def t_Giving_relist : List AI := [(2, 0, 0, 2, 0, 0, []), (22, 1, 3, 4, 15, 0, [24]), (2, 4, 1, 0, 0, 0, []), (25, 5, 100, 0, 0, 0, []), (3, 6, 4, 0, 1, 0, []), (2, 8, 0, 2, 0, 0, []), (2, 9, 1, 0, 0, 0, []), (31, 10, 22, 3, 73, 1, [14, 9]), (2, 13, 0, 2, 0, 0, []), (22, 14, 3, 4, 15, 0, [24]), (2, 17, 1, 0, 0, 0, []), (2, 18, 4, 0, 1, 0, []), (26, 20, 100, 0, 0, 0, []), (0, 21, 0, 0, 0, 0, []), (3, 22, 5, 0, 1, 0, []), (2, 24, 5, 0, 1, 0, []), (2, 26, 2, 2, 0, 0, []), (22, 27, 3, 5, 18, 0, [25]), (2, 30, 1, 0, 0, 0, []), (25, 31, 100, 0, 0, 0, []), (16, 32, 35, 0, 3, 0, []), (2, 35, 0, 2, 0, 0, []), (2, 36, 1, 0, 0, 0, []), (2, 37, 2, 2, 0, 0, []), (22, 38, 3, 6, 23, 0, [26]), (2, 41, 1, 0, 0, 0, []), (25, 42, 106, 0, 0, 0, []), (2, 43, 3, 2, 0, 0, []), (2, 44, 5, 0, 1, 0, []), (25, 46, 100, 0, 0, 0, []), (25, 47, 100, 0, 0, 0, []), (2, 48, 5, 0, 1, 0, []), (31, 50, 23, 3, 77, 3, [15, 10]), (4, 53, 5, 0, 0, 1, []), (19, 56, 15, 0, 0, 0, []), (34, 59, 0, 0, 0, 0, [])]
noncomputable def i_Giving_relist : MI := (⟨"TakenInTurns$Giving", "relist", "(ILTakenInTurns$Giving;[I)V"⟩, prog_5_method_8_code, 6, none, 3, 3, t_Giving_relist)
set_option maxRecDepth 100000 in
noncomputable def t_Giving_heldOf : List AI := [(0, 0, 0, 0, 0, 0, []), (3, 1, 2, 0, 0, 0, []), (0, 2, 0, 0, 0, 0, []), (3, 3, 3, 0, 0, 0, []), (2, 4, 3, 0, 0, 0, []), (2, 5, 0, 2, 0, 0, []), (22, 6, 3, 1, 45, 0, [31]), (16, 9, 17, 0, 3, 0, []), (2, 12, 0, 2, 0, 0, []), (22, 13, 3, 4, 15, 0, [24]), (2, 16, 3, 0, 0, 0, []), (25, 17, 100, 0, 0, 0, []), (2, 18, 1, 0, 0, 0, []), (16, 19, 15, 0, 1, 0, []), (4, 22, 2, 0, 0, 1, []), (4, 25, 3, 0, 0, 1, []), (19, 28, 4, 0, 0, 0, []), (2, 31, 2, 0, 0, 0, []), (34, 32, 0, 0, 0, 0, [])]
noncomputable def i_Giving_heldOf : MI := (⟨"TakenInTurns$Giving", "heldOf", "(I)I"⟩, prog_5_method_9_code, 4, Option.some Jvm.ClassFile.FieldType.int, 3, 1, t_Giving_heldOf)
set_option maxRecDepth 100000 in
noncomputable def t_Giving_firstOf : List AI := [(2, 0, 0, 2, 0, 0, []), (22, 1, 3, 6, 23, 0, [26]), (2, 4, 1, 0, 0, 0, []), (25, 5, 106, 0, 0, 0, []), (3, 6, 3, 2, 0, 0, []), (2, 7, 0, 2, 0, 0, []), (22, 8, 3, 5, 18, 0, [25]), (2, 11, 1, 0, 0, 0, []), (25, 12, 100, 0, 0, 0, []), (3, 13, 4, 0, 1, 0, []), (0, 15, 0, 0, 0, 0, []), (3, 16, 5, 0, 1, 0, []), (2, 18, 5, 0, 1, 0, []), (2, 20, 4, 0, 1, 0, []), (16, 22, 29, 0, 3, 0, []), (2, 25, 2, 0, 0, 0, []), (2, 26, 3, 2, 0, 0, []), (2, 27, 5, 0, 1, 0, []), (25, 29, 100, 0, 0, 0, []), (5, 30, 0, 0, 7, 0, []), (0, 31, 0, 0, 0, 1, []), (5, 32, 0, 0, 3, 0, []), (15, 33, 27, 0, 0, 0, []), (2, 36, 3, 2, 0, 0, []), (2, 37, 5, 0, 1, 0, []), (25, 39, 100, 0, 0, 0, []), (34, 40, 0, 0, 0, 0, []), (4, 41, 5, 0, 0, 1, []), (19, 44, 12, 0, 0, 0, []), (0, 47, 0, 0, 0, (-1), []), (34, 48, 0, 0, 0, 0, [])]
noncomputable def i_Giving_firstOf : MI := (⟨"TakenInTurns$Giving", "firstOf", "(II)I"⟩, prog_5_method_10_code, 6, Option.some Jvm.ClassFile.FieldType.int, 3, 2, t_Giving_firstOf)
set_option maxRecDepth 100000 in
noncomputable def t_Giving_partsOfPerson : List AI := [(0, 0, 0, 0, 0, 0, []), (3, 1, 2, 0, 0, 0, []), (0, 2, 0, 0, 0, 0, []), (3, 3, 3, 0, 0, 0, []), (2, 4, 3, 0, 0, 0, []), (2, 5, 0, 2, 0, 0, []), (22, 6, 3, 0, 41, 0, [30]), (16, 9, 19, 0, 3, 0, []), (2, 12, 2, 0, 0, 0, []), (2, 13, 0, 2, 0, 0, []), (22, 14, 3, 8, 29, 0, [28]), (2, 17, 1, 0, 0, 0, []), (25, 18, 106, 0, 0, 0, []), (2, 19, 3, 0, 0, 0, []), (25, 20, 100, 0, 0, 0, []), (5, 21, 0, 0, 0, 0, []), (3, 22, 2, 0, 0, 0, []), (4, 23, 3, 0, 0, 1, []), (19, 26, 4, 0, 0, 0, []), (2, 29, 2, 0, 0, 0, []), (34, 30, 0, 0, 0, 0, [])]
noncomputable def i_Giving_partsOfPerson : MI := (⟨"TakenInTurns$Giving", "partsOfPerson", "(I)I"⟩, prog_5_method_11_code, 4, Option.some Jvm.ClassFile.FieldType.int, 3, 1, t_Giving_partsOfPerson)
set_option maxRecDepth 100000 in
noncomputable def t_Giving_partsOfThing : List AI := [(0, 0, 0, 0, 0, 0, []), (3, 1, 2, 0, 0, 0, []), (0, 2, 0, 0, 0, 0, []), (3, 3, 3, 0, 0, 0, []), (2, 4, 3, 0, 0, 0, []), (2, 5, 0, 2, 0, 0, []), (22, 6, 3, 1, 45, 0, [31]), (16, 9, 19, 0, 3, 0, []), (2, 12, 2, 0, 0, 0, []), (2, 13, 0, 2, 0, 0, []), (22, 14, 3, 8, 29, 0, [28]), (2, 17, 3, 0, 0, 0, []), (25, 18, 106, 0, 0, 0, []), (2, 19, 1, 0, 0, 0, []), (25, 20, 100, 0, 0, 0, []), (5, 21, 0, 0, 0, 0, []), (3, 22, 2, 0, 0, 0, []), (4, 23, 3, 0, 0, 1, []), (19, 26, 4, 0, 0, 0, []), (2, 29, 2, 0, 0, 0, []), (34, 30, 0, 0, 0, 0, [])]
noncomputable def i_Giving_partsOfThing : MI := (⟨"TakenInTurns$Giving", "partsOfThing", "(I)I"⟩, prog_5_method_12_code, 4, Option.some Jvm.ClassFile.FieldType.int, 3, 1, t_Giving_partsOfThing)
set_option maxRecDepth 100000 in
noncomputable def t_Giving_barring : List AI := [(0, 0, 0, 0, 0, 0, []), (3, 1, 1, 0, 0, 0, []), (2, 2, 1, 0, 0, 0, []), (2, 3, 0, 2, 0, 0, []), (22, 4, 3, 1, 45, 0, [31]), (16, 7, 22, 0, 3, 0, []), (2, 10, 0, 2, 0, 0, []), (2, 11, 1, 0, 0, 0, []), (31, 12, 27, 3, 81, 1, [16, 11]), (0, 15, 0, 0, 1, 60, []), (2, 17, 0, 2, 0, 0, []), (22, 18, 3, 2, 48, 0, [32]), (5, 21, 0, 0, 2, 0, []), (16, 22, 18, 0, 4, 0, []), (2, 25, 0, 2, 0, 0, []), (2, 26, 1, 0, 0, 0, []), (31, 27, 30, 3, 85, 1, [17, 12]), (15, 30, 20, 0, 0, 0, []), (2, 33, 1, 0, 0, 0, []), (34, 34, 0, 0, 0, 0, []), (4, 35, 1, 0, 0, 1, []), (19, 38, 2, 0, 0, 0, []), (0, 41, 0, 0, 0, 0, []), (3, 42, 1, 0, 0, 0, []), (2, 43, 1, 0, 0, 0, []), (2, 44, 0, 2, 0, 0, []), (22, 45, 3, 0, 41, 0, [30]), (16, 48, 44, 0, 3, 0, []), (2, 51, 0, 2, 0, 0, []), (2, 52, 1, 0, 0, 0, []), (31, 53, 28, 3, 89, 1, [18, 13]), (0, 56, 0, 0, 1, 60, []), (2, 58, 0, 2, 0, 0, []), (22, 59, 3, 3, 9, 0, [23]), (2, 62, 1, 0, 0, 0, []), (25, 63, 100, 0, 0, 0, []), (5, 64, 0, 0, 2, 0, []), (16, 65, 42, 0, 5, 0, []), (0, 68, 0, 0, 1, 10, []), (2, 70, 1, 0, 0, 0, []), (5, 71, 0, 0, 0, 0, []), (34, 72, 0, 0, 0, 0, []), (4, 73, 1, 0, 0, 1, []), (19, 76, 24, 0, 0, 0, []), (0, 79, 0, 0, 1, (-2), []), (34, 81, 0, 0, 0, 0, [])]
noncomputable def i_Giving_barring : MI := (⟨"TakenInTurns$Giving", "barring", "()I"⟩, prog_5_method_13_code, 2, Option.some Jvm.ClassFile.FieldType.int, 3, 0, t_Giving_barring)
set_option maxRecDepth 100000 in
noncomputable def t_Giving_hasUnlisted : List AI := [(0, 0, 0, 0, 0, 0, []), (3, 1, 2, 0, 0, 0, []), (2, 2, 2, 0, 0, 0, []), (2, 3, 0, 2, 0, 0, []), (22, 4, 3, 0, 41, 0, [30]), (16, 7, 24, 0, 3, 0, []), (2, 10, 0, 2, 0, 0, []), (22, 11, 3, 8, 29, 0, [28]), (2, 14, 1, 0, 0, 0, []), (25, 15, 106, 0, 0, 0, []), (2, 16, 2, 0, 0, 0, []), (25, 17, 100, 0, 0, 0, []), (15, 18, 22, 0, 5, 0, []), (2, 21, 0, 2, 0, 0, []), (22, 22, 3, 7, 26, 0, [27]), (2, 25, 1, 0, 0, 0, []), (25, 26, 106, 0, 0, 0, []), (2, 27, 2, 0, 0, 0, []), (25, 28, 100, 0, 0, 0, []), (15, 29, 22, 0, 3, 0, []), (0, 32, 0, 0, 0, 1, []), (34, 33, 0, 0, 0, 0, []), (4, 34, 2, 0, 0, 1, []), (19, 37, 2, 0, 0, 0, []), (0, 40, 0, 0, 0, 0, []), (34, 41, 0, 0, 0, 0, [])]
noncomputable def i_Giving_hasUnlisted : MI := (⟨"TakenInTurns$Giving", "hasUnlisted", "(I)Z"⟩, prog_5_method_14_code, 3, Option.some Jvm.ClassFile.FieldType.boolean, 3, 1, t_Giving_hasUnlisted)
set_option maxRecDepth 100000 in
noncomputable def t_Giving_canBeParted : List AI := [(2, 0, 0, 2, 0, 0, []), (22, 1, 3, 2, 48, 0, [32]), (0, 4, 0, 0, 0, 1, []), (16, 5, 8, 0, 1, 0, []), (2, 8, 0, 2, 0, 0, []), (31, 9, 29, 3, 92, 0, [19, 14]), (0, 12, 0, 0, 1, (-2), []), (16, 14, 10, 0, 0, 0, []), (0, 17, 0, 0, 0, 0, []), (34, 18, 0, 0, 0, 0, []), (0, 19, 0, 0, 0, 0, []), (3, 20, 1, 0, 0, 0, []), (2, 21, 1, 0, 0, 0, []), (2, 22, 0, 2, 0, 0, []), (22, 23, 3, 1, 45, 0, [31]), (16, 26, 25, 0, 3, 0, []), (2, 29, 0, 2, 0, 0, []), (2, 30, 1, 0, 0, 0, []), (31, 31, 27, 3, 81, 1, [16, 11]), (0, 34, 0, 0, 1, 60, []), (16, 36, 23, 0, 0, 0, []), (0, 39, 0, 0, 0, 0, []), (34, 40, 0, 0, 0, 0, []), (4, 41, 1, 0, 0, 1, []), (19, 44, 12, 0, 0, 0, []), (0, 47, 0, 0, 0, 1, []), (34, 48, 0, 0, 0, 0, [])]
noncomputable def i_Giving_canBeParted : MI := (⟨"TakenInTurns$Giving", "canBeParted", "()Z"⟩, prog_5_method_15_code, 2, Option.some Jvm.ClassFile.FieldType.boolean, 3, 0, t_Giving_canBeParted)
set_option maxRecDepth 100000 in
noncomputable def t_Hand_init : List AI := [(2, 0, 0, 2, 0, 0, []), (41, 1, 0, 0, 3, 0, [5]), (2, 4, 0, 2, 0, 0, []), (0, 5, 0, 0, 1, 8, []), (38, 7, 100, 0, 0, 0, []), (23, 9, 4, 0, 9, 0, [35]), (2, 12, 0, 2, 0, 0, []), (0, 13, 0, 0, 1, 7, []), (38, 15, 100, 0, 0, 0, []), (23, 17, 4, 1, 15, 0, [36]), (2, 20, 0, 2, 0, 0, []), (0, 21, 0, 0, 1, 7, []), (0, 23, 0, 0, 0, 3, []), (40, 24, 0, 0, 18, 0, [4]), (23, 28, 4, 2, 20, 0, [37]), (2, 31, 0, 2, 0, 0, []), (0, 32, 0, 0, 1, 7, []), (0, 34, 0, 0, 0, 3, []), (40, 35, 0, 0, 18, 0, [4]), (23, 39, 4, 3, 23, 0, [38]), (34, 42, 0, 0, 0, 0, [])]
noncomputable def i_Hand_init : MI := (⟨"TakenInTurns$Hand", "<init>", "()V"⟩, prog_6_method_1_code, 1, none, 4, 0, t_Hand_init)
set_option maxRecDepth 100000 in
noncomputable def t_Hand_deal : List AI := [(2, 0, 1, 2, 0, 0, []), (22, 1, 3, 3, 26, 0, [39]), (0, 4, 0, 0, 0, 0, []), (2, 5, 0, 2, 0, 0, []), (22, 6, 4, 0, 9, 0, [35]), (0, 9, 0, 0, 0, 0, []), (0, 10, 0, 0, 1, 8, []), (35, 12, 100, 0, 31, 0, [6]), (2, 15, 0, 2, 0, 0, []), (22, 16, 4, 1, 15, 0, [36]), (0, 19, 0, 0, 0, 0, []), (32, 20, 249, 0, 37, 2, [20, 3]), (2, 23, 0, 2, 0, 0, []), (0, 24, 0, 0, 0, 1, []), (2, 25, 1, 2, 0, 0, []), (22, 26, 3, 0, 43, 0, [40]), (5, 29, 0, 0, 6, 0, []), (0, 30, 0, 0, 0, 1, []), (5, 31, 0, 0, 1, 0, []), (23, 32, 4, 4, 47, 0, [41]), (0, 35, 0, 0, 0, 0, []), (3, 36, 4, 0, 1, 0, []), (0, 38, 0, 0, 0, 0, []), (3, 39, 5, 0, 1, 0, []), (2, 41, 5, 0, 1, 0, []), (2, 43, 1, 2, 0, 0, []), (22, 44, 3, 2, 50, 0, [42]), (16, 47, 68, 0, 3, 0, []), (2, 50, 3, 0, 0, 0, []), (15, 51, 37, 0, 0, 0, []), (2, 54, 5, 0, 1, 0, []), (0, 56, 0, 0, 0, 2, []), (6, 57, 0, 0, 1, 0, []), (0, 58, 0, 0, 0, 1, []), (16, 59, 37, 0, 1, 0, []), (0, 62, 0, 0, 0, 1, []), (19, 63, 38, 0, 0, 0, []), (0, 66, 0, 0, 0, 0, []), (3, 67, 6, 0, 1, 0, []), (0, 69, 0, 0, 0, 0, []), (3, 70, 7, 0, 1, 0, []), (2, 72, 7, 0, 1, 0, []), (2, 74, 1, 2, 0, 0, []), (22, 75, 3, 1, 53, 0, [43]), (16, 78, 66, 0, 3, 0, []), (2, 81, 0, 2, 0, 0, []), (2, 82, 1, 2, 0, 0, []), (2, 83, 6, 0, 1, 0, []), (15, 85, 58, 0, 0, 0, []), (2, 88, 2, 2, 0, 0, []), (2, 89, 1, 2, 0, 0, []), (22, 90, 3, 1, 53, 0, [43]), (0, 93, 0, 0, 0, 1, []), (5, 94, 0, 0, 1, 0, []), (2, 95, 7, 0, 1, 0, []), (5, 97, 0, 0, 1, 0, []), (25, 98, 100, 0, 0, 0, []), (19, 99, 61, 0, 0, 0, []), (2, 102, 2, 2, 0, 0, []), (2, 103, 7, 0, 1, 0, []), (25, 105, 100, 0, 0, 0, []), (2, 106, 4, 0, 1, 0, []), (31, 108, 34, 4, 56, 3, [21, 15]), (4, 111, 4, 0, 0, 1, []), (4, 114, 7, 0, 0, 1, []), (19, 117, 41, 0, 0, 0, []), (4, 120, 5, 0, 0, 1, []), (19, 123, 24, 0, 0, 0, []), (34, 126, 0, 0, 0, 0, [])]
noncomputable def i_Hand_deal : MI := (⟨"TakenInTurns$Hand", "deal", "(LTakenInTurns$Giving;[IZ)V"⟩, prog_6_method_2_code, 8, none, 4, 3, t_Hand_deal)
set_option maxRecDepth 100000 in
noncomputable def t_Hand_take : List AI := [(2, 0, 1, 2, 0, 0, []), (2, 1, 2, 0, 0, 0, []), (2, 2, 0, 2, 0, 0, []), (22, 3, 4, 4, 47, 0, [41]), (31, 6, 26, 3, 60, 2, [22, 5]), (3, 9, 4, 0, 1, 0, []), (2, 11, 0, 2, 0, 0, []), (22, 12, 4, 1, 15, 0, [36]), (2, 15, 2, 0, 0, 0, []), (25, 16, 100, 0, 0, 0, []), (3, 17, 5, 0, 1, 0, []), (2, 19, 4, 0, 1, 0, []), (15, 21, 16, 0, 2, 0, []), (2, 24, 5, 0, 1, 0, []), (0, 26, 0, 0, 0, 3, []), (16, 27, 17, 0, 2, 0, []), (34, 30, 0, 0, 0, 0, []), (2, 31, 0, 2, 0, 0, []), (22, 32, 4, 0, 9, 0, [35]), (2, 35, 4, 0, 1, 0, []), (29, 37, 0, 0, 0, 0, []), (25, 38, 100, 0, 0, 0, []), (0, 39, 0, 0, 0, 1, []), (5, 40, 0, 0, 1, 0, []), (26, 41, 100, 0, 0, 0, []), (2, 42, 0, 2, 0, 0, []), (22, 43, 4, 0, 9, 0, [35]), (2, 46, 4, 0, 1, 0, []), (25, 48, 100, 0, 0, 0, []), (15, 49, 40, 0, 1, 0, []), (2, 52, 0, 2, 0, 0, []), (28, 53, 0, 0, 0, 0, []), (22, 54, 4, 4, 47, 0, [41]), (0, 57, 0, 0, 0, 1, []), (2, 58, 4, 0, 1, 0, []), (5, 60, 0, 0, 6, 0, []), (0, 61, 0, 0, 0, (-1), []), (5, 62, 0, 0, 5, 0, []), (5, 63, 0, 0, 3, 0, []), (23, 64, 4, 4, 47, 0, [41]), (2, 67, 0, 2, 0, 0, []), (22, 68, 4, 3, 23, 0, [38]), (2, 71, 2, 0, 0, 0, []), (25, 72, 106, 0, 0, 0, []), (2, 73, 5, 0, 1, 0, []), (2, 75, 4, 0, 1, 0, []), (26, 77, 100, 0, 0, 0, []), (2, 78, 0, 2, 0, 0, []), (22, 79, 4, 2, 20, 0, [37]), (2, 82, 2, 0, 0, 0, []), (25, 83, 106, 0, 0, 0, []), (2, 84, 5, 0, 1, 0, []), (2, 86, 3, 0, 0, 0, []), (26, 87, 100, 0, 0, 0, []), (2, 88, 0, 2, 0, 0, []), (22, 89, 4, 1, 15, 0, [36]), (2, 92, 2, 0, 0, 0, []), (2, 93, 5, 0, 1, 0, []), (0, 95, 0, 0, 0, 1, []), (5, 96, 0, 0, 0, 0, []), (26, 97, 100, 0, 0, 0, []), (34, 98, 0, 0, 0, 0, [])]
noncomputable def i_Hand_take : MI := (⟨"TakenInTurns$Hand", "take", "(LTakenInTurns$Giving;II)V"⟩, prog_6_method_3_code, 6, none, 4, 3, t_Hand_take)
set_option maxRecDepth 100000 in
noncomputable def t_Hand_countOf : List AI := [(0, 0, 0, 0, 0, 0, []), (3, 1, 3, 0, 0, 0, []), (0, 2, 0, 0, 0, 0, []), (3, 3, 4, 0, 1, 0, []), (2, 5, 4, 0, 1, 0, []), (2, 7, 0, 2, 0, 0, []), (22, 8, 4, 1, 15, 0, [36]), (2, 11, 1, 0, 0, 0, []), (25, 12, 100, 0, 0, 0, []), (16, 13, 21, 0, 3, 0, []), (2, 16, 0, 2, 0, 0, []), (22, 17, 4, 3, 23, 0, [38]), (2, 20, 1, 0, 0, 0, []), (25, 21, 106, 0, 0, 0, []), (2, 22, 4, 0, 1, 0, []), (25, 24, 100, 0, 0, 0, []), (2, 25, 2, 0, 0, 0, []), (16, 26, 19, 0, 1, 0, []), (4, 29, 3, 0, 0, 1, []), (4, 32, 4, 0, 0, 1, []), (19, 35, 4, 0, 0, 0, []), (2, 38, 3, 0, 0, 0, []), (34, 39, 0, 0, 0, 0, [])]
noncomputable def i_Hand_countOf : MI := (⟨"TakenInTurns$Hand", "countOf", "(II)I"⟩, prog_6_method_4_code, 5, Option.some Jvm.ClassFile.FieldType.int, 4, 2, t_Hand_countOf)
set_option maxRecDepth 100000 in
noncomputable def t_Hand_pointsOf : List AI := [(0, 0, 0, 0, 0, 0, []), (3, 1, 3, 0, 0, 0, []), (0, 2, 0, 0, 0, 0, []), (3, 3, 4, 0, 1, 0, []), (2, 5, 4, 0, 1, 0, []), (2, 7, 0, 2, 0, 0, []), (22, 8, 4, 1, 15, 0, [36]), (2, 11, 2, 0, 0, 0, []), (25, 12, 100, 0, 0, 0, []), (16, 13, 28, 0, 3, 0, []), (2, 16, 3, 0, 0, 0, []), (0, 17, 0, 0, 1, 8, []), (2, 19, 1, 2, 0, 0, []), (22, 20, 3, 7, 64, 0, [44]), (2, 23, 2, 0, 0, 0, []), (25, 24, 106, 0, 0, 0, []), (2, 25, 0, 2, 0, 0, []), (22, 26, 4, 3, 23, 0, [38]), (2, 29, 2, 0, 0, 0, []), (25, 30, 106, 0, 0, 0, []), (2, 31, 4, 0, 1, 0, []), (25, 33, 100, 0, 0, 0, []), (25, 34, 100, 0, 0, 0, []), (5, 35, 0, 0, 1, 0, []), (5, 36, 0, 0, 0, 0, []), (3, 37, 3, 0, 0, 0, []), (4, 38, 4, 0, 0, 1, []), (19, 41, 4, 0, 0, 0, []), (2, 44, 3, 0, 0, 0, []), (34, 45, 0, 0, 0, 0, [])]
noncomputable def i_Hand_pointsOf : MI := (⟨"TakenInTurns$Hand", "pointsOf", "(LTakenInTurns$Giving;I)I"⟩, prog_6_method_5_code, 5, Option.some Jvm.ClassFile.FieldType.int, 4, 2, t_Hand_pointsOf)
set_option maxRecDepth 100000 in
noncomputable def t_Hand_gapOf : List AI := [(0, 0, 0, 0, 0, 0, []), (3, 1, 2, 0, 0, 0, []), (0, 2, 67, 0, 3, 1000000, [1]), (3, 4, 3, 0, 0, 0, []), (0, 5, 0, 0, 0, 0, []), (3, 6, 4, 0, 1, 0, []), (2, 8, 4, 0, 1, 0, []), (2, 10, 1, 2, 0, 0, []), (22, 11, 3, 1, 53, 0, [43]), (16, 14, 25, 0, 3, 0, []), (2, 17, 0, 2, 0, 0, []), (2, 18, 1, 2, 0, 0, []), (2, 19, 4, 0, 1, 0, []), (31, 21, 36, 4, 68, 2, [23, 6]), (3, 24, 5, 0, 1, 0, []), (2, 26, 2, 0, 0, 0, []), (2, 27, 5, 0, 1, 0, []), (42, 29, 251, 0, 72, 0, [24]), (3, 32, 2, 0, 0, 0, []), (2, 33, 3, 0, 0, 0, []), (2, 34, 5, 0, 1, 0, []), (42, 36, 253, 1, 77, 0, [25]), (3, 39, 3, 0, 0, 0, []), (4, 40, 4, 0, 0, 1, []), (19, 43, 6, 0, 0, 0, []), (2, 46, 2, 0, 0, 0, []), (2, 47, 3, 0, 0, 0, []), (5, 48, 0, 0, 1, 0, []), (34, 49, 0, 0, 0, 0, [])]
noncomputable def i_Hand_gapOf : MI := (⟨"TakenInTurns$Hand", "gapOf", "(LTakenInTurns$Giving;)I"⟩, prog_6_method_6_code, 6, Option.some Jvm.ClassFile.FieldType.int, 4, 1, t_Hand_gapOf)
set_option maxRecDepth 100000 in
noncomputable def t_Parting_init : List AI := [(2, 0, 0, 2, 0, 0, []), (41, 1, 0, 0, 3, 0, [7]), (2, 4, 0, 2, 0, 0, []), (0, 5, 0, 0, 1, 60, []), (38, 7, 100, 0, 0, 0, []), (23, 9, 5, 0, 9, 0, [45]), (2, 12, 0, 2, 0, 0, []), (0, 13, 0, 0, 1, 60, []), (38, 15, 100, 0, 0, 0, []), (23, 17, 5, 1, 15, 0, [46]), (2, 20, 0, 2, 0, 0, []), (0, 21, 0, 0, 1, 7, []), (0, 23, 0, 0, 1, 8, []), (40, 25, 0, 0, 18, 0, [5]), (23, 29, 5, 4, 20, 0, [47]), (2, 32, 0, 2, 0, 0, []), (0, 33, 0, 0, 1, 7, []), (38, 35, 100, 0, 0, 0, []), (23, 37, 5, 5, 23, 0, [48]), (2, 40, 0, 2, 0, 0, []), (0, 41, 0, 0, 1, 7, []), (38, 43, 100, 0, 0, 0, []), (23, 45, 5, 6, 26, 0, [49]), (2, 48, 0, 2, 0, 0, []), (0, 49, 0, 0, 1, 8, []), (38, 51, 100, 0, 0, 0, []), (23, 53, 5, 7, 29, 0, [50]), (2, 56, 0, 2, 0, 0, []), (0, 57, 0, 0, 1, 8, []), (38, 59, 100, 0, 0, 0, []), (23, 61, 5, 8, 32, 0, [51]), (2, 64, 0, 2, 0, 0, []), (0, 65, 0, 0, 1, 8, []), (38, 67, 100, 0, 0, 0, []), (23, 69, 5, 9, 35, 0, [52]), (34, 72, 0, 0, 0, 0, [])]
noncomputable def i_Parting_init : MI := (⟨"TakenInTurns$Parting", "<init>", "()V"⟩, prog_7_method_1_code, 1, none, 5, 0, t_Parting_init)
set_option maxRecDepth 100000 in
noncomputable def t_Parting_forget : List AI := [(2, 0, 0, 2, 0, 0, []), (36, 1, 0, 0, 0, 0, []), (23, 2, 5, 3, 38, 0, [53]), (34, 5, 0, 0, 0, 0, [])]
noncomputable def i_Parting_forget : MI := (⟨"TakenInTurns$Parting", "forget", "()V"⟩, prog_7_method_2_code, 1, none, 5, 0, t_Parting_forget)
set_option maxRecDepth 100000 in
noncomputable def t_Parting_split : List AI := [(2, 0, 0, 2, 0, 0, []), (22, 1, 5, 3, 38, 0, [53]), (2, 4, 1, 2, 0, 0, []), (18, 5, 5, 0, 0, 0, []), (34, 8, 0, 0, 0, 0, []), (0, 9, 0, 0, 0, 0, []), (3, 10, 2, 0, 0, 0, []), (2, 11, 2, 0, 0, 0, []), (2, 12, 1, 2, 0, 0, []), (22, 13, 3, 1, 42, 0, [54]), (16, 16, 25, 0, 3, 0, []), (2, 19, 1, 2, 0, 0, []), (22, 20, 3, 8, 48, 0, [55]), (2, 23, 2, 0, 0, 0, []), (25, 24, 106, 0, 0, 0, []), (0, 25, 0, 0, 0, 0, []), (2, 26, 0, 2, 0, 0, []), (22, 27, 5, 4, 20, 0, [47]), (2, 30, 2, 0, 0, 0, []), (25, 31, 106, 0, 0, 0, []), (0, 32, 0, 0, 0, 0, []), (0, 33, 0, 0, 1, 8, []), (35, 35, 100, 0, 49, 0, [8]), (4, 38, 2, 0, 0, 1, []), (19, 41, 7, 0, 0, 0, []), (2, 44, 0, 2, 0, 0, []), (0, 45, 0, 0, 0, 0, []), (23, 46, 5, 2, 55, 0, [56]), (0, 49, 0, 0, 1, 60, []), (3, 51, 2, 0, 0, 0, []), (0, 52, 0, 0, 0, 0, []), (3, 53, 3, 0, 0, 0, []), (2, 54, 3, 0, 0, 0, []), (0, 55, 0, 0, 1, 60, []), (16, 57, 102, 0, 3, 0, []), (2, 60, 2, 0, 0, 0, []), (15, 61, 102, 0, 5, 0, []), (2, 64, 0, 2, 0, 0, []), (2, 65, 1, 2, 0, 0, []), (2, 66, 2, 0, 0, 0, []), (31, 67, 41, 5, 58, 2, [26, 16]), (2, 70, 0, 2, 0, 0, []), (2, 71, 1, 2, 0, 0, []), (31, 72, 42, 5, 62, 1, [27, 17]), (15, 75, 46, 0, 1, 0, []), (19, 78, 102, 0, 0, 0, []), (2, 81, 2, 0, 0, 0, []), (2, 82, 0, 2, 0, 0, []), (2, 83, 1, 2, 0, 0, []), (31, 84, 45, 5, 66, 1, [28, 18]), (42, 87, 253, 1, 70, 0, [29]), (3, 90, 4, 0, 1, 0, []), (0, 92, 0, 0, 0, 0, []), (3, 93, 5, 0, 1, 0, []), (2, 95, 5, 0, 1, 0, []), (2, 97, 1, 2, 0, 0, []), (22, 98, 3, 1, 42, 0, [54]), (16, 101, 73, 0, 3, 0, []), (2, 104, 0, 2, 0, 0, []), (22, 105, 5, 4, 20, 0, [47]), (2, 108, 5, 0, 1, 0, []), (25, 110, 106, 0, 0, 0, []), (2, 111, 0, 2, 0, 0, []), (22, 112, 5, 6, 26, 0, [49]), (2, 115, 5, 0, 1, 0, []), (25, 117, 100, 0, 0, 0, []), (29, 118, 0, 0, 0, 0, []), (25, 119, 100, 0, 0, 0, []), (2, 120, 4, 0, 1, 0, []), (5, 122, 0, 0, 1, 0, []), (26, 123, 100, 0, 0, 0, []), (4, 124, 5, 0, 0, 1, []), (19, 127, 54, 0, 0, 0, []), (2, 130, 0, 2, 0, 0, []), (22, 131, 5, 0, 9, 0, [45]), (2, 134, 0, 2, 0, 0, []), (22, 135, 5, 2, 55, 0, [56]), (2, 138, 0, 2, 0, 0, []), (22, 139, 5, 6, 26, 0, [49]), (2, 142, 1, 2, 0, 0, []), (22, 143, 3, 1, 42, 0, [54]), (0, 146, 0, 0, 0, 0, []), (32, 147, 142, 1, 76, 3, [2, 4]), (26, 150, 100, 0, 0, 0, []), (2, 151, 0, 2, 0, 0, []), (22, 152, 5, 1, 15, 0, [46]), (2, 155, 0, 2, 0, 0, []), (22, 156, 5, 2, 55, 0, [56]), (2, 159, 4, 0, 1, 0, []), (26, 161, 100, 0, 0, 0, []), (2, 162, 0, 2, 0, 0, []), (28, 163, 0, 0, 0, 0, []), (22, 164, 5, 2, 55, 0, [56]), (0, 167, 0, 0, 0, 1, []), (5, 168, 0, 0, 0, 0, []), (23, 169, 5, 2, 55, 0, [56]), (2, 172, 2, 0, 0, 0, []), (2, 173, 4, 0, 1, 0, []), (5, 175, 0, 0, 1, 0, []), (3, 176, 2, 0, 0, 0, []), (4, 177, 3, 0, 0, 1, []), (19, 180, 32, 0, 0, 0, []), (2, 183, 0, 2, 0, 0, []), (2, 184, 1, 2, 0, 0, []), (23, 185, 5, 3, 38, 0, [53]), (34, 188, 0, 0, 0, 0, [])]
noncomputable def i_Parting_split : MI := (⟨"TakenInTurns$Parting", "split", "(LTakenInTurns$Giving;)V"⟩, prog_7_method_3_code, 6, none, 5, 1, t_Parting_split)
set_option maxRecDepth 100000 in
noncomputable def t_Parting_measure : List AI := [(0, 0, 0, 0, 0, 0, []), (3, 1, 3, 0, 0, 0, []), (2, 2, 3, 0, 0, 0, []), (2, 3, 1, 2, 0, 0, []), (22, 4, 3, 0, 80, 0, [57]), (16, 7, 62, 0, 3, 0, []), (0, 10, 0, 0, 0, 0, []), (3, 11, 4, 0, 1, 0, []), (0, 13, 0, 0, 0, 0, []), (3, 14, 5, 0, 1, 0, []), (2, 16, 5, 0, 1, 0, []), (2, 18, 1, 2, 0, 0, []), (22, 19, 3, 1, 42, 0, [54]), (16, 22, 25, 0, 3, 0, []), (2, 25, 4, 0, 1, 0, []), (2, 27, 0, 2, 0, 0, []), (22, 28, 5, 4, 20, 0, [47]), (2, 31, 5, 0, 1, 0, []), (25, 33, 106, 0, 0, 0, []), (2, 34, 3, 0, 0, 0, []), (25, 35, 100, 0, 0, 0, []), (5, 36, 0, 0, 0, 0, []), (3, 37, 4, 0, 1, 0, []), (4, 39, 5, 0, 0, 1, []), (19, 42, 10, 0, 0, 0, []), (2, 45, 0, 2, 0, 0, []), (22, 46, 5, 9, 35, 0, [52]), (2, 49, 3, 0, 0, 0, []), (2, 50, 1, 2, 0, 0, []), (22, 51, 3, 3, 83, 0, [58]), (2, 54, 3, 0, 0, 0, []), (25, 55, 100, 0, 0, 0, []), (2, 56, 2, 0, 0, 0, []), (5, 57, 0, 0, 2, 0, []), (2, 58, 4, 0, 1, 0, []), (5, 60, 0, 0, 1, 0, []), (26, 61, 100, 0, 0, 0, []), (2, 62, 0, 2, 0, 0, []), (22, 63, 5, 7, 29, 0, [50]), (2, 66, 3, 0, 0, 0, []), (2, 67, 1, 2, 0, 0, []), (22, 68, 3, 3, 83, 0, [58]), (2, 71, 3, 0, 0, 0, []), (25, 72, 100, 0, 0, 0, []), (26, 73, 100, 0, 0, 0, []), (2, 74, 0, 2, 0, 0, []), (22, 75, 5, 8, 32, 0, [51]), (2, 78, 3, 0, 0, 0, []), (0, 79, 0, 0, 0, 0, []), (2, 80, 1, 2, 0, 0, []), (22, 81, 3, 3, 83, 0, [58]), (2, 84, 3, 0, 0, 0, []), (25, 85, 100, 0, 0, 0, []), (2, 86, 0, 2, 0, 0, []), (22, 87, 5, 9, 35, 0, [52]), (2, 90, 3, 0, 0, 0, []), (25, 91, 100, 0, 0, 0, []), (5, 92, 0, 0, 1, 0, []), (42, 93, 251, 0, 86, 0, [30]), (26, 96, 100, 0, 0, 0, []), (4, 97, 3, 0, 0, 1, []), (19, 100, 2, 0, 0, 0, []), (0, 103, 0, 0, 0, 0, []), (3, 104, 3, 0, 0, 0, []), (2, 105, 3, 0, 0, 0, []), (2, 106, 1, 2, 0, 0, []), (22, 107, 3, 1, 42, 0, [54]), (16, 110, 100, 0, 3, 0, []), (0, 113, 0, 0, 0, 0, []), (3, 114, 4, 0, 1, 0, []), (0, 116, 0, 0, 0, 0, []), (3, 117, 5, 0, 1, 0, []), (2, 119, 5, 0, 1, 0, []), (2, 121, 1, 2, 0, 0, []), (22, 122, 3, 0, 80, 0, [57]), (16, 125, 93, 0, 3, 0, []), (2, 128, 4, 0, 1, 0, []), (2, 130, 0, 2, 0, 0, []), (22, 131, 5, 4, 20, 0, [47]), (2, 134, 3, 0, 0, 0, []), (25, 135, 106, 0, 0, 0, []), (2, 136, 5, 0, 1, 0, []), (25, 138, 100, 0, 0, 0, []), (15, 139, 88, 0, 5, 0, []), (0, 142, 0, 0, 0, 1, []), (2, 143, 5, 0, 1, 0, []), (5, 145, 0, 0, 6, 0, []), (19, 146, 89, 0, 0, 0, []), (0, 149, 0, 0, 0, 0, []), (5, 150, 0, 0, 4, 0, []), (3, 151, 4, 0, 1, 0, []), (4, 153, 5, 0, 0, 1, []), (19, 156, 72, 0, 0, 0, []), (2, 159, 0, 2, 0, 0, []), (22, 160, 5, 5, 23, 0, [48]), (2, 163, 3, 0, 0, 0, []), (2, 164, 4, 0, 1, 0, []), (26, 166, 100, 0, 0, 0, []), (4, 167, 3, 0, 0, 1, []), (19, 170, 64, 0, 0, 0, []), (34, 173, 0, 0, 0, 0, [])]
noncomputable def i_Parting_measure : MI := (⟨"TakenInTurns$Parting", "measure", "(LTakenInTurns$Giving;I)V"⟩, prog_7_method_4_code, 6, none, 5, 2, t_Parting_measure)
set_option maxRecDepth 100000 in
noncomputable def t_Parting_pickFirst : List AI := [(0, 0, 0, 0, 0, 0, []), (3, 1, 2, 0, 0, 0, []), (2, 2, 2, 0, 0, 0, []), (2, 3, 1, 2, 0, 0, []), (22, 4, 3, 1, 42, 0, [54]), (16, 7, 15, 0, 3, 0, []), (2, 10, 0, 2, 0, 0, []), (2, 11, 1, 2, 0, 0, []), (2, 12, 2, 0, 0, 0, []), (31, 13, 43, 5, 89, 2, [31, 19]), (15, 16, 13, 0, 1, 0, []), (0, 19, 0, 0, 0, 0, []), (34, 20, 0, 0, 0, 0, []), (4, 21, 2, 0, 0, 1, []), (19, 24, 2, 0, 0, 0, []), (0, 27, 0, 0, 0, 1, []), (34, 28, 0, 0, 0, 0, [])]
noncomputable def i_Parting_pickFirst : MI := (⟨"TakenInTurns$Parting", "pickFirst", "(LTakenInTurns$Giving;)Z"⟩, prog_7_method_5_code, 3, Option.some Jvm.ClassFile.FieldType.boolean, 5, 1, t_Parting_pickFirst)
set_option maxRecDepth 100000 in
noncomputable def t_Parting_pickFor : List AI := [(0, 0, 0, 0, 0, 0, []), (3, 1, 3, 0, 0, 0, []), (2, 2, 3, 0, 0, 0, []), (2, 3, 1, 2, 0, 0, []), (22, 4, 3, 0, 80, 0, [57]), (16, 7, 68, 0, 3, 0, []), (2, 10, 0, 2, 0, 0, []), (22, 11, 5, 5, 23, 0, [48]), (2, 14, 2, 0, 0, 0, []), (25, 15, 100, 0, 0, 0, []), (2, 16, 3, 0, 0, 0, []), (5, 17, 0, 0, 7, 0, []), (0, 18, 0, 0, 0, 1, []), (5, 19, 0, 0, 3, 0, []), (15, 20, 66, 0, 0, 0, []), (2, 23, 0, 2, 0, 0, []), (22, 24, 5, 7, 29, 0, [50]), (2, 27, 3, 0, 0, 0, []), (25, 28, 100, 0, 0, 0, []), (15, 29, 66, 0, 5, 0, []), (2, 32, 0, 2, 0, 0, []), (22, 33, 5, 7, 29, 0, [50]), (2, 36, 3, 0, 0, 0, []), (29, 37, 0, 0, 0, 0, []), (25, 38, 100, 0, 0, 0, []), (0, 39, 0, 0, 0, 1, []), (5, 40, 0, 0, 1, 0, []), (26, 41, 100, 0, 0, 0, []), (2, 42, 0, 2, 0, 0, []), (22, 43, 5, 8, 32, 0, [51]), (2, 46, 3, 0, 0, 0, []), (29, 47, 0, 0, 0, 0, []), (25, 48, 100, 0, 0, 0, []), (0, 49, 0, 0, 0, 1, []), (5, 50, 0, 0, 1, 0, []), (26, 51, 100, 0, 0, 0, []), (2, 52, 0, 2, 0, 0, []), (2, 53, 1, 2, 0, 0, []), (2, 54, 2, 0, 0, 0, []), (0, 55, 0, 0, 0, 1, []), (5, 56, 0, 0, 0, 0, []), (31, 57, 44, 5, 93, 2, [32, 20]), (15, 60, 50, 0, 0, 0, []), (2, 63, 0, 2, 0, 0, []), (22, 64, 5, 6, 26, 0, [49]), (2, 67, 2, 0, 0, 0, []), (2, 68, 3, 0, 0, 0, []), (26, 69, 100, 0, 0, 0, []), (0, 70, 0, 0, 0, 1, []), (34, 71, 0, 0, 0, 0, []), (2, 72, 0, 2, 0, 0, []), (22, 73, 5, 7, 29, 0, [50]), (2, 76, 3, 0, 0, 0, []), (29, 77, 0, 0, 0, 0, []), (25, 78, 100, 0, 0, 0, []), (0, 79, 0, 0, 0, 1, []), (5, 80, 0, 0, 0, 0, []), (26, 81, 100, 0, 0, 0, []), (2, 82, 0, 2, 0, 0, []), (22, 83, 5, 8, 32, 0, [51]), (2, 86, 3, 0, 0, 0, []), (29, 87, 0, 0, 0, 0, []), (25, 88, 100, 0, 0, 0, []), (0, 89, 0, 0, 0, 1, []), (5, 90, 0, 0, 0, 0, []), (26, 91, 100, 0, 0, 0, []), (4, 92, 3, 0, 0, 1, []), (19, 95, 2, 0, 0, 0, []), (0, 98, 0, 0, 0, 0, []), (34, 99, 0, 0, 0, 0, [])]
noncomputable def i_Parting_pickFor : MI := (⟨"TakenInTurns$Parting", "pickFor", "(LTakenInTurns$Giving;I)Z"⟩, prog_7_method_6_code, 4, Option.some Jvm.ClassFile.FieldType.boolean, 5, 2, t_Parting_pickFor)
set_option maxRecDepth 100000 in
noncomputable def t_Parting_canGoOn : List AI := [(0, 0, 0, 0, 0, 0, []), (3, 1, 3, 0, 0, 0, []), (2, 2, 3, 0, 0, 0, []), (0, 3, 0, 0, 0, 1, []), (2, 4, 1, 2, 0, 0, []), (22, 5, 3, 0, 80, 0, [57]), (5, 8, 0, 0, 6, 0, []), (16, 9, 86, 0, 3, 0, []), (0, 12, 0, 0, 0, 0, []), (3, 13, 4, 0, 1, 0, []), (0, 15, 0, 0, 0, 0, []), (3, 16, 5, 0, 1, 0, []), (0, 18, 0, 0, 0, 0, []), (3, 19, 6, 0, 1, 0, []), (2, 21, 6, 0, 1, 0, []), (2, 23, 1, 2, 0, 0, []), (22, 24, 3, 0, 80, 0, [57]), (16, 27, 42, 0, 3, 0, []), (2, 30, 3, 0, 0, 0, []), (2, 31, 6, 0, 1, 0, []), (5, 33, 0, 0, 7, 0, []), (0, 34, 0, 0, 0, 1, []), (5, 35, 0, 0, 3, 0, []), (15, 36, 40, 0, 0, 0, []), (2, 39, 4, 0, 1, 0, []), (2, 41, 0, 2, 0, 0, []), (22, 42, 5, 7, 29, 0, [50]), (2, 45, 6, 0, 1, 0, []), (25, 47, 100, 0, 0, 0, []), (5, 48, 0, 0, 0, 0, []), (3, 49, 4, 0, 1, 0, []), (2, 51, 5, 0, 1, 0, []), (0, 53, 0, 0, 0, 0, []), (2, 54, 0, 2, 0, 0, []), (22, 55, 5, 8, 32, 0, [51]), (2, 58, 6, 0, 1, 0, []), (25, 60, 100, 0, 0, 0, []), (42, 61, 251, 0, 86, 0, [30]), (5, 64, 0, 0, 0, 0, []), (3, 65, 5, 0, 1, 0, []), (4, 67, 6, 0, 0, 1, []), (19, 70, 14, 0, 0, 0, []), (2, 73, 2, 0, 0, 0, []), (3, 74, 6, 0, 1, 0, []), (2, 76, 6, 0, 1, 0, []), (2, 78, 1, 2, 0, 0, []), (22, 79, 3, 1, 42, 0, [54]), (16, 82, 78, 0, 3, 0, []), (2, 85, 4, 0, 1, 0, []), (2, 87, 0, 2, 0, 0, []), (22, 88, 5, 5, 23, 0, [48]), (2, 91, 6, 0, 1, 0, []), (25, 93, 100, 0, 0, 0, []), (2, 94, 3, 0, 0, 0, []), (0, 95, 0, 0, 0, (-1), []), (5, 96, 0, 0, 5, 0, []), (5, 97, 0, 0, 3, 0, []), (15, 98, 60, 0, 1, 0, []), (0, 101, 0, 0, 0, 1, []), (19, 102, 61, 0, 0, 0, []), (0, 105, 0, 0, 0, 0, []), (5, 106, 0, 0, 1, 0, []), (3, 107, 4, 0, 1, 0, []), (2, 109, 5, 0, 1, 0, []), (2, 111, 0, 2, 0, 0, []), (22, 112, 5, 5, 23, 0, [48]), (2, 115, 6, 0, 1, 0, []), (25, 117, 100, 0, 0, 0, []), (2, 118, 3, 0, 0, 0, []), (5, 119, 0, 0, 3, 0, []), (15, 120, 73, 0, 0, 0, []), (0, 123, 0, 0, 0, 1, []), (19, 124, 74, 0, 0, 0, []), (0, 127, 0, 0, 0, 0, []), (5, 128, 0, 0, 1, 0, []), (3, 129, 5, 0, 1, 0, []), (4, 131, 6, 0, 0, 1, []), (19, 134, 44, 0, 0, 0, []), (2, 137, 4, 0, 1, 0, []), (15, 139, 82, 0, 2, 0, []), (2, 142, 5, 0, 1, 0, []), (15, 144, 84, 0, 5, 0, []), (0, 147, 0, 0, 0, 0, []), (34, 148, 0, 0, 0, 0, []), (4, 149, 3, 0, 0, 1, []), (19, 152, 2, 0, 0, 0, []), (0, 155, 0, 0, 0, 1, []), (34, 156, 0, 0, 0, 0, [])]
noncomputable def i_Parting_canGoOn : MI := (⟨"TakenInTurns$Parting", "canGoOn", "(LTakenInTurns$Giving;I)Z"⟩, prog_7_method_7_code, 7, Option.some Jvm.ClassFile.FieldType.boolean, 5, 2, t_Parting_canGoOn)
set_option maxRecDepth 100000 in
noncomputable def t_Parting_mostOff : List AI := [(0, 0, 0, 0, 1, 60, []), (3, 2, 2, 0, 0, 0, []), (0, 3, 0, 0, 0, 0, []), (3, 4, 3, 0, 0, 0, []), (2, 5, 3, 0, 0, 0, []), (2, 6, 1, 2, 0, 0, []), (22, 7, 3, 1, 42, 0, [54]), (16, 10, 22, 0, 3, 0, []), (2, 13, 2, 0, 0, 0, []), (2, 14, 0, 2, 0, 0, []), (22, 15, 5, 4, 20, 0, [47]), (2, 18, 3, 0, 0, 0, []), (25, 19, 106, 0, 0, 0, []), (2, 20, 0, 2, 0, 0, []), (22, 21, 5, 6, 26, 0, [49]), (2, 24, 3, 0, 0, 0, []), (25, 25, 100, 0, 0, 0, []), (25, 26, 100, 0, 0, 0, []), (42, 27, 253, 1, 70, 0, [29]), (3, 30, 2, 0, 0, 0, []), (4, 31, 3, 0, 0, 1, []), (19, 34, 4, 0, 0, 0, []), (0, 37, 0, 0, 0, 0, []), (3, 38, 3, 0, 0, 0, []), (2, 39, 3, 0, 0, 0, []), (2, 40, 1, 2, 0, 0, []), (22, 41, 3, 0, 80, 0, [57]), (16, 44, 47, 0, 3, 0, []), (2, 47, 0, 2, 0, 0, []), (22, 48, 5, 7, 29, 0, [50]), (2, 51, 3, 0, 0, 0, []), (25, 52, 100, 0, 0, 0, []), (15, 53, 45, 0, 5, 0, []), (2, 56, 2, 0, 0, 0, []), (2, 57, 0, 2, 0, 0, []), (22, 58, 5, 9, 35, 0, [52]), (2, 61, 3, 0, 0, 0, []), (25, 62, 100, 0, 0, 0, []), (2, 63, 0, 2, 0, 0, []), (22, 64, 5, 7, 29, 0, [50]), (2, 67, 3, 0, 0, 0, []), (25, 68, 100, 0, 0, 0, []), (6, 69, 0, 0, 0, 0, []), (42, 70, 253, 1, 70, 0, [29]), (3, 73, 2, 0, 0, 0, []), (4, 74, 3, 0, 0, 1, []), (19, 77, 24, 0, 0, 0, []), (2, 80, 2, 0, 0, 0, []), (34, 81, 0, 0, 0, 0, [])]
noncomputable def i_Parting_mostOff : MI := (⟨"TakenInTurns$Parting", "mostOff", "(LTakenInTurns$Giving;)I"⟩, prog_7_method_8_code, 4, Option.some Jvm.ClassFile.FieldType.int, 5, 1, t_Parting_mostOff)
set_option maxRecDepth 100000 in
noncomputable def t_Rings_init : List AI := [(2, 0, 0, 2, 0, 0, []), (41, 1, 0, 0, 3, 0, [9]), (2, 4, 0, 2, 0, 0, []), (0, 5, 0, 0, 1, 7, []), (38, 7, 100, 0, 0, 0, []), (23, 9, 6, 0, 9, 0, [59]), (2, 12, 0, 2, 0, 0, []), (0, 13, 0, 0, 1, 7, []), (38, 15, 100, 0, 0, 0, []), (23, 17, 6, 1, 15, 0, [60]), (34, 20, 0, 0, 0, 0, [])]
noncomputable def i_Rings_init : MI := (⟨"TakenInTurns$Rings", "<init>", "()V"⟩, prog_8_method_1_code, 1, none, 6, 0, t_Rings_init)
set_option maxRecDepth 100000 in
noncomputable def t_Rings_forget : List AI := [(2, 0, 0, 2, 0, 0, []), (0, 1, 0, 0, 0, 0, []), (23, 2, 6, 3, 18, 0, [61]), (34, 5, 0, 0, 0, 0, [])]
noncomputable def i_Rings_forget : MI := (⟨"TakenInTurns$Rings", "forget", "()V"⟩, prog_8_method_2_code, 1, none, 6, 0, t_Rings_forget)
set_option maxRecDepth 100000 in
noncomputable def t_Rings_find : List AI := [(2, 0, 0, 2, 0, 0, []), (22, 1, 6, 3, 18, 0, [61]), (15, 4, 4, 0, 0, 0, []), (34, 7, 0, 0, 0, 0, []), (2, 8, 0, 2, 0, 0, []), (0, 9, 0, 0, 0, 1, []), (23, 10, 6, 3, 18, 0, [61]), (2, 13, 0, 2, 0, 0, []), (2, 14, 0, 2, 0, 0, []), (2, 15, 1, 2, 0, 0, []), (2, 16, 2, 2, 0, 0, []), (31, 17, 49, 6, 22, 2, [33, 21]), (15, 20, 15, 0, 0, 0, []), (0, 23, 0, 0, 0, 1, []), (19, 24, 16, 0, 0, 0, []), (0, 27, 0, 0, 0, 0, []), (23, 28, 6, 2, 26, 0, [62]), (0, 31, 0, 0, 0, 2, []), (3, 32, 3, 0, 0, 0, []), (2, 33, 3, 0, 0, 0, []), (2, 34, 1, 2, 0, 0, []), (22, 35, 3, 1, 30, 0, [63]), (16, 38, 38, 0, 4, 0, []), (2, 41, 0, 2, 0, 0, []), (22, 42, 6, 2, 26, 0, [62]), (15, 45, 38, 0, 1, 0, []), (2, 48, 0, 2, 0, 0, []), (2, 49, 1, 2, 0, 0, []), (2, 50, 2, 2, 0, 0, []), (2, 51, 3, 0, 0, 0, []), (0, 52, 0, 0, 0, 0, []), (32, 53, 52, 0, 35, 5, [34, 5]), (15, 56, 36, 0, 0, 0, []), (2, 59, 0, 2, 0, 0, []), (2, 60, 3, 0, 0, 0, []), (23, 61, 6, 2, 26, 0, [62]), (4, 64, 3, 0, 0, 1, []), (19, 67, 19, 0, 0, 0, []), (34, 70, 0, 0, 0, 0, [])]
noncomputable def i_Rings_find : MI := (⟨"TakenInTurns$Rings", "find", "(LTakenInTurns$Giving;LTakenInTurns$Hand;)V"⟩, prog_8_method_3_code, 4, none, 6, 2, t_Rings_find)
set_option maxRecDepth 100000 in
noncomputable def t_Rings_findAlone : List AI := [(0, 0, 0, 0, 0, 0, []), (3, 1, 3, 0, 0, 0, []), (2, 2, 3, 0, 0, 0, []), (2, 3, 1, 2, 0, 0, []), (22, 4, 3, 1, 30, 0, [63]), (16, 7, 39, 0, 3, 0, []), (0, 10, 0, 0, 0, 0, []), (3, 11, 4, 0, 1, 0, []), (2, 13, 4, 0, 1, 0, []), (2, 15, 1, 2, 0, 0, []), (22, 16, 3, 0, 39, 0, [64]), (16, 19, 37, 0, 3, 0, []), (2, 22, 2, 2, 0, 0, []), (2, 23, 3, 0, 0, 0, []), (2, 24, 4, 0, 1, 0, []), (31, 26, 35, 4, 42, 2, [35, 22]), (15, 29, 35, 0, 5, 0, []), (2, 32, 1, 2, 0, 0, []), (2, 33, 2, 2, 0, 0, []), (2, 34, 3, 0, 0, 0, []), (2, 35, 4, 0, 1, 0, []), (32, 37, 50, 0, 48, 4, [36, 6]), (15, 40, 35, 0, 0, 0, []), (2, 43, 0, 2, 0, 0, []), (22, 44, 6, 0, 9, 0, [59]), (0, 47, 0, 0, 0, 0, []), (2, 48, 3, 0, 0, 0, []), (26, 49, 100, 0, 0, 0, []), (2, 50, 0, 2, 0, 0, []), (22, 51, 6, 1, 15, 0, [60]), (0, 54, 0, 0, 0, 0, []), (2, 55, 4, 0, 1, 0, []), (26, 57, 100, 0, 0, 0, []), (0, 58, 0, 0, 0, 1, []), (34, 59, 0, 0, 0, 0, []), (4, 60, 4, 0, 0, 1, []), (19, 63, 8, 0, 0, 0, []), (4, 66, 3, 0, 0, 1, []), (19, 69, 2, 0, 0, 0, []), (0, 72, 0, 0, 0, 0, []), (34, 73, 0, 0, 0, 0, [])]
noncomputable def i_Rings_findAlone : MI := (⟨"TakenInTurns$Rings", "findAlone", "(LTakenInTurns$Giving;LTakenInTurns$Hand;)Z"⟩, prog_8_method_4_code, 5, Option.some Jvm.ClassFile.FieldType.boolean, 6, 2, t_Rings_findAlone)
set_option maxRecDepth 100000 in
noncomputable def t_Rings_findLeft : List AI := [(0, 0, 0, 0, 0, 0, []), (3, 1, 4, 0, 1, 0, []), (2, 3, 4, 0, 1, 0, []), (2, 5, 0, 2, 0, 0, []), (22, 6, 3, 0, 39, 0, [64]), (16, 9, 21, 0, 3, 0, []), (2, 12, 1, 2, 0, 0, []), (22, 13, 4, 0, 52, 0, [65]), (2, 16, 4, 0, 1, 0, []), (25, 18, 100, 0, 0, 0, []), (15, 19, 19, 0, 5, 0, []), (2, 22, 0, 2, 0, 0, []), (2, 23, 2, 0, 0, 0, []), (2, 24, 4, 0, 1, 0, []), (2, 26, 3, 0, 0, 0, []), (32, 27, 51, 0, 55, 4, [37, 7]), (15, 30, 19, 0, 0, 0, []), (0, 33, 0, 0, 0, 1, []), (34, 34, 0, 0, 0, 0, []), (4, 35, 4, 0, 0, 1, []), (19, 38, 2, 0, 0, 0, []), (0, 41, 0, 0, 0, 0, []), (34, 42, 0, 0, 0, 0, [])]
noncomputable def i_Rings_findLeft : MI := (⟨"TakenInTurns$Rings", "findLeft", "(LTakenInTurns$Giving;LTakenInTurns$Hand;II)Z"⟩, prog_8_method_5_code, 5, Option.some Jvm.ClassFile.FieldType.boolean, 6, 4, t_Rings_findLeft)
set_option maxRecDepth 100000 in
noncomputable def t_Rings_isBetter : List AI := [(2, 0, 0, 2, 0, 0, []), (22, 1, 3, 7, 59, 0, [66]), (2, 4, 1, 0, 0, 0, []), (25, 5, 106, 0, 0, 0, []), (2, 6, 2, 0, 0, 0, []), (25, 7, 100, 0, 0, 0, []), (3, 8, 4, 0, 1, 0, []), (2, 10, 4, 0, 1, 0, []), (15, 12, 19, 0, 2, 0, []), (2, 15, 4, 0, 1, 0, []), (2, 17, 0, 2, 0, 0, []), (22, 18, 3, 7, 59, 0, [66]), (2, 21, 1, 0, 0, 0, []), (25, 22, 106, 0, 0, 0, []), (2, 23, 3, 0, 0, 0, []), (25, 24, 100, 0, 0, 0, []), (16, 25, 19, 0, 3, 0, []), (0, 28, 0, 0, 0, 1, []), (19, 29, 20, 0, 0, 0, []), (0, 32, 0, 0, 0, 0, []), (34, 33, 0, 0, 0, 0, [])]
noncomputable def i_Rings_isBetter : MI := (⟨"TakenInTurns$Rings", "isBetter", "(LTakenInTurns$Giving;III)Z"⟩, prog_8_method_6_code, 5, Option.some Jvm.ClassFile.FieldType.boolean, 6, 4, t_Rings_isBetter)
set_option maxRecDepth 100000 in
noncomputable def t_Rings_addPerson : List AI := [(2, 0, 4, 0, 1, 0, []), (2, 2, 3, 0, 0, 0, []), (16, 3, 6, 0, 3, 0, []), (2, 6, 4, 0, 1, 0, []), (0, 8, 0, 0, 1, 7, []), (16, 10, 13, 0, 2, 0, []), (2, 13, 0, 2, 0, 0, []), (2, 14, 1, 2, 0, 0, []), (2, 15, 2, 2, 0, 0, []), (2, 16, 3, 0, 0, 0, []), (0, 17, 0, 0, 0, 0, []), (32, 18, 54, 0, 63, 5, [38, 8]), (34, 21, 0, 0, 0, 0, []), (2, 22, 4, 0, 1, 0, []), (15, 24, 17, 0, 1, 0, []), (0, 27, 0, 0, 0, 0, []), (19, 28, 23, 0, 0, 0, []), (2, 31, 0, 2, 0, 0, []), (22, 32, 6, 0, 9, 0, [59]), (0, 35, 0, 0, 0, 0, []), (25, 36, 100, 0, 0, 0, []), (0, 37, 0, 0, 0, 1, []), (5, 38, 0, 0, 0, 0, []), (3, 39, 5, 0, 1, 0, []), (2, 41, 5, 0, 1, 0, []), (3, 43, 6, 0, 1, 0, []), (2, 45, 6, 0, 1, 0, []), (2, 47, 1, 2, 0, 0, []), (22, 48, 3, 1, 30, 0, [63]), (16, 51, 54, 0, 3, 0, []), (2, 54, 0, 2, 0, 0, []), (22, 55, 6, 0, 9, 0, [59]), (2, 58, 4, 0, 1, 0, []), (2, 60, 6, 0, 1, 0, []), (26, 62, 100, 0, 0, 0, []), (2, 63, 0, 2, 0, 0, []), (22, 64, 6, 0, 9, 0, [59]), (2, 67, 4, 0, 1, 0, []), (2, 69, 6, 0, 1, 0, []), (32, 71, 53, 0, 66, 3, [39, 9]), (15, 74, 52, 0, 1, 0, []), (2, 77, 0, 2, 0, 0, []), (2, 78, 1, 2, 0, 0, []), (2, 79, 2, 2, 0, 0, []), (2, 80, 3, 0, 0, 0, []), (2, 81, 4, 0, 1, 0, []), (0, 83, 0, 0, 0, 1, []), (5, 84, 0, 0, 0, 0, []), (32, 85, 52, 0, 35, 5, [34, 5]), (15, 88, 52, 0, 0, 0, []), (0, 91, 0, 0, 0, 1, []), (34, 92, 0, 0, 0, 0, []), (4, 93, 6, 0, 0, 1, []), (19, 96, 26, 0, 0, 0, []), (0, 99, 0, 0, 0, 0, []), (34, 100, 0, 0, 0, 0, [])]
noncomputable def i_Rings_addPerson : MI := (⟨"TakenInTurns$Rings", "addPerson", "(LTakenInTurns$Rings;LTakenInTurns$Giving;LTakenInTurns$Hand;II)Z"⟩, prog_8_method_7_code, 7, Option.some Jvm.ClassFile.FieldType.boolean, 6, 5, t_Rings_addPerson)
set_option maxRecDepth 100000 in
noncomputable def t_Rings_isAmong : List AI := [(0, 0, 0, 0, 0, 0, []), (3, 1, 3, 0, 0, 0, []), (2, 2, 3, 0, 0, 0, []), (2, 3, 1, 0, 0, 0, []), (16, 4, 14, 0, 3, 0, []), (2, 7, 0, 2, 0, 0, []), (2, 8, 3, 0, 0, 0, []), (25, 9, 100, 0, 0, 0, []), (2, 10, 2, 0, 0, 0, []), (16, 11, 12, 0, 1, 0, []), (0, 14, 0, 0, 0, 1, []), (34, 15, 0, 0, 0, 0, []), (4, 16, 3, 0, 0, 1, []), (19, 19, 2, 0, 0, 0, []), (0, 22, 0, 0, 0, 0, []), (34, 23, 0, 0, 0, 0, [])]
noncomputable def i_Rings_isAmong : MI := (⟨"TakenInTurns$Rings", "isAmong", "([III)Z"⟩, prog_8_method_8_code, 4, Option.some Jvm.ClassFile.FieldType.boolean, 6, 3, t_Rings_isAmong)
set_option maxRecDepth 100000 in
noncomputable def t_Rings_addThing : List AI := [(2, 0, 4, 0, 1, 0, []), (2, 2, 3, 0, 0, 0, []), (16, 3, 6, 0, 3, 0, []), (2, 6, 4, 0, 1, 0, []), (0, 8, 0, 0, 1, 7, []), (16, 10, 23, 0, 2, 0, []), (2, 13, 1, 2, 0, 0, []), (2, 14, 0, 2, 0, 0, []), (22, 15, 6, 0, 9, 0, [59]), (0, 18, 0, 0, 0, 0, []), (25, 19, 100, 0, 0, 0, []), (2, 20, 0, 2, 0, 0, []), (22, 21, 6, 1, 15, 0, [60]), (2, 24, 3, 0, 0, 0, []), (0, 25, 0, 0, 0, 1, []), (5, 26, 0, 0, 1, 0, []), (25, 27, 100, 0, 0, 0, []), (2, 28, 0, 2, 0, 0, []), (22, 29, 6, 1, 15, 0, [60]), (0, 32, 0, 0, 0, 0, []), (25, 33, 100, 0, 0, 0, []), (32, 34, 51, 0, 55, 4, [37, 7]), (34, 37, 0, 0, 0, 0, []), (0, 38, 0, 0, 0, 0, []), (3, 39, 5, 0, 1, 0, []), (2, 41, 5, 0, 1, 0, []), (2, 43, 1, 2, 0, 0, []), (22, 44, 3, 0, 39, 0, [64]), (16, 47, 77, 0, 3, 0, []), (2, 50, 2, 2, 0, 0, []), (2, 51, 0, 2, 0, 0, []), (22, 52, 6, 0, 9, 0, [59]), (2, 55, 4, 0, 1, 0, []), (25, 57, 100, 0, 0, 0, []), (2, 58, 5, 0, 1, 0, []), (31, 60, 35, 4, 42, 2, [35, 22]), (15, 63, 39, 0, 5, 0, []), (0, 66, 0, 0, 0, 1, []), (19, 67, 40, 0, 0, 0, []), (0, 70, 0, 0, 0, 0, []), (3, 71, 6, 0, 1, 0, []), (2, 73, 6, 0, 1, 0, []), (15, 75, 75, 0, 0, 0, []), (2, 78, 4, 0, 1, 0, []), (15, 80, 59, 0, 0, 0, []), (2, 83, 1, 2, 0, 0, []), (2, 84, 0, 2, 0, 0, []), (22, 85, 6, 0, 9, 0, [59]), (2, 88, 4, 0, 1, 0, []), (25, 90, 100, 0, 0, 0, []), (2, 91, 0, 2, 0, 0, []), (22, 92, 6, 1, 15, 0, [60]), (2, 95, 4, 0, 1, 0, []), (0, 97, 0, 0, 0, 1, []), (5, 98, 0, 0, 1, 0, []), (25, 99, 100, 0, 0, 0, []), (2, 100, 5, 0, 1, 0, []), (32, 102, 51, 0, 55, 4, [37, 7]), (15, 105, 75, 0, 0, 0, []), (2, 108, 0, 2, 0, 0, []), (22, 109, 6, 1, 15, 0, [60]), (2, 112, 4, 0, 1, 0, []), (2, 114, 5, 0, 1, 0, []), (26, 116, 100, 0, 0, 0, []), (2, 117, 0, 2, 0, 0, []), (2, 118, 1, 2, 0, 0, []), (2, 119, 2, 2, 0, 0, []), (2, 120, 3, 0, 0, 0, []), (2, 121, 4, 0, 1, 0, []), (0, 123, 0, 0, 0, 1, []), (5, 124, 0, 0, 0, 0, []), (32, 125, 54, 0, 63, 5, [38, 8]), (15, 128, 75, 0, 0, 0, []), (0, 131, 0, 0, 0, 1, []), (34, 132, 0, 0, 0, 0, []), (4, 133, 5, 0, 0, 1, []), (19, 136, 25, 0, 0, 0, []), (0, 139, 0, 0, 0, 0, []), (34, 140, 0, 0, 0, 0, [])]
noncomputable def i_Rings_addThing : MI := (⟨"TakenInTurns$Rings", "addThing", "(LTakenInTurns$Rings;LTakenInTurns$Giving;LTakenInTurns$Hand;II)Z"⟩, prog_8_method_9_code, 7, Option.some Jvm.ClassFile.FieldType.boolean, 6, 5, t_Rings_addThing)
set_option maxRecDepth 100000 in
noncomputable def t_Shares_init : List AI := [(2, 0, 0, 2, 0, 0, []), (41, 1, 0, 0, 3, 0, [10]), (2, 4, 0, 2, 0, 0, []), (0, 5, 0, 0, 1, 56, []), (38, 7, 101, 0, 0, 0, []), (23, 9, 7, 0, 9, 0, [67]), (2, 12, 0, 2, 0, 0, []), (1, 13, 0, 0, 0, 1, []), (23, 14, 7, 1, 15, 0, [68]), (34, 17, 0, 0, 0, 0, [])]
noncomputable def i_Shares_init : MI := (⟨"TakenInTurns$Shares", "<init>", "()V"⟩, prog_9_method_1_code, 1, none, 7, 0, t_Shares_init)
set_option maxRecDepth 100000 in
noncomputable def t_Shares_clear : List AI := [(2, 0, 0, 2, 0, 0, []), (22, 1, 7, 0, 9, 0, [67]), (1, 4, 0, 0, 0, 0, []), (32, 5, 248, 0, 19, 2, [40, 10]), (2, 8, 0, 2, 0, 0, []), (1, 9, 0, 0, 0, 1, []), (23, 10, 7, 1, 15, 0, [68]), (2, 13, 0, 2, 0, 0, []), (0, 14, 0, 0, 0, 0, []), (23, 15, 7, 3, 25, 0, [69]), (2, 18, 0, 2, 0, 0, []), (0, 19, 0, 0, 0, 0, []), (23, 20, 7, 4, 29, 0, [70]), (34, 23, 0, 0, 0, 0, [])]
noncomputable def i_Shares_clear : MI := (⟨"TakenInTurns$Shares", "clear", "()V"⟩, prog_9_method_2_code, 1, none, 7, 0, t_Shares_clear)
set_option maxRecDepth 100000 in
noncomputable def t_Shares_addOrders : List AI := [(2, 0, 3, 2, 0, 0, []), (2, 1, 1, 2, 0, 0, []), (22, 2, 3, 1, 33, 0, [71]), (32, 5, 143, 1, 38, 2, [3, 11]), (0, 8, 0, 0, 0, 0, []), (3, 9, 5, 0, 1, 0, []), (0, 11, 0, 0, 0, 0, []), (3, 12, 6, 0, 1, 0, []), (2, 14, 6, 0, 1, 0, []), (0, 16, 42, 0, 3, 40320, [2]), (16, 18, 29, 0, 3, 0, []), (2, 21, 2, 2, 0, 0, []), (2, 22, 1, 2, 0, 0, []), (2, 23, 3, 2, 0, 0, []), (2, 24, 4, 0, 1, 0, []), (31, 26, 33, 4, 43, 3, [41, 23]), (4, 29, 5, 0, 0, 1, []), (2, 32, 0, 2, 0, 0, []), (2, 33, 1, 2, 0, 0, []), (2, 34, 2, 2, 0, 0, []), (31, 35, 58, 7, 49, 2, [42, 24]), (2, 38, 3, 2, 0, 0, []), (2, 39, 1, 2, 0, 0, []), (22, 40, 3, 1, 33, 0, [71]), (32, 43, 144, 1, 53, 2, [4, 12]), (15, 46, 27, 0, 1, 0, []), (19, 49, 29, 0, 0, 0, []), (4, 52, 6, 0, 0, 1, []), (19, 55, 8, 0, 0, 0, []), (2, 58, 0, 2, 0, 0, []), (2, 59, 5, 0, 1, 0, []), (11, 61, 0, 0, 0, 0, []), (23, 62, 7, 1, 15, 0, [68]), (34, 65, 0, 0, 0, 0, [])]
noncomputable def i_Shares_addOrders : MI := (⟨"TakenInTurns$Shares", "addOrders", "(LTakenInTurns$Giving;LTakenInTurns$Hand;[IZ)V"⟩, prog_9_method_3_code, 7, none, 7, 4, t_Shares_addOrders)
set_option maxRecDepth 100000 in
noncomputable def t_Shares_addHand : List AI := [(0, 0, 0, 0, 0, 0, []), (3, 1, 3, 0, 0, 0, []), (2, 2, 3, 0, 0, 0, []), (2, 3, 1, 2, 0, 0, []), (22, 4, 3, 1, 33, 0, [71]), (16, 7, 35, 0, 3, 0, []), (0, 10, 0, 0, 0, 0, []), (3, 11, 4, 0, 1, 0, []), (2, 13, 4, 0, 1, 0, []), (2, 15, 2, 2, 0, 0, []), (22, 16, 4, 1, 57, 0, [72]), (2, 19, 3, 0, 0, 0, []), (25, 20, 100, 0, 0, 0, []), (16, 21, 33, 0, 3, 0, []), (2, 24, 0, 2, 0, 0, []), (22, 25, 7, 0, 9, 0, [67]), (2, 28, 3, 0, 0, 0, []), (0, 29, 0, 0, 1, 8, []), (5, 31, 0, 0, 2, 0, []), (2, 32, 2, 2, 0, 0, []), (22, 33, 4, 3, 61, 0, [73]), (2, 36, 3, 0, 0, 0, []), (25, 37, 106, 0, 0, 0, []), (2, 38, 4, 0, 1, 0, []), (25, 40, 100, 0, 0, 0, []), (5, 41, 0, 0, 0, 0, []), (29, 42, 0, 0, 0, 0, []), (25, 43, 101, 0, 0, 0, []), (1, 44, 0, 0, 0, 1, []), (7, 45, 0, 0, 0, 0, []), (26, 46, 101, 0, 0, 0, []), (4, 47, 4, 0, 0, 1, []), (19, 50, 8, 0, 0, 0, []), (4, 53, 3, 0, 0, 1, []), (19, 56, 2, 0, 0, 0, []), (34, 59, 0, 0, 0, 0, [])]
noncomputable def i_Shares_addHand : MI := (⟨"TakenInTurns$Shares", "addHand", "(LTakenInTurns$Giving;LTakenInTurns$Hand;)V"⟩, prog_9_method_4_code, 5, none, 7, 2, t_Shares_addHand)
set_option maxRecDepth 100000 in
noncomputable def t_Shares_copyTable : List AI := [(2, 0, 0, 2, 0, 0, []), (1, 1, 65, 0, 1, 60, [2]), (23, 4, 7, 1, 15, 0, [68]), (0, 7, 0, 0, 0, 0, []), (3, 8, 2, 0, 0, 0, []), (2, 9, 2, 0, 0, 0, []), (2, 10, 1, 2, 0, 0, []), (22, 11, 3, 1, 33, 0, [71]), (16, 14, 34, 0, 3, 0, []), (0, 17, 0, 0, 0, 0, []), (3, 18, 3, 0, 0, 0, []), (2, 19, 3, 0, 0, 0, []), (2, 20, 1, 2, 0, 0, []), (22, 21, 3, 0, 67, 0, [74]), (16, 24, 32, 0, 3, 0, []), (2, 27, 0, 2, 0, 0, []), (22, 28, 7, 0, 9, 0, [67]), (2, 31, 2, 0, 0, 0, []), (0, 32, 0, 0, 1, 8, []), (5, 34, 0, 0, 2, 0, []), (2, 35, 3, 0, 0, 0, []), (5, 36, 0, 0, 0, 0, []), (2, 37, 1, 2, 0, 0, []), (22, 38, 3, 8, 70, 0, [75]), (2, 41, 2, 0, 0, 0, []), (25, 42, 106, 0, 0, 0, []), (2, 43, 3, 0, 0, 0, []), (25, 44, 100, 0, 0, 0, []), (11, 45, 0, 0, 0, 0, []), (26, 46, 101, 0, 0, 0, []), (4, 47, 3, 0, 0, 1, []), (19, 50, 11, 0, 0, 0, []), (4, 53, 2, 0, 0, 1, []), (19, 56, 5, 0, 0, 0, []), (34, 59, 0, 0, 0, 0, [])]
noncomputable def i_Shares_copyTable : MI := (⟨"TakenInTurns$Shares", "copyTable", "(LTakenInTurns$Giving;)V"⟩, prog_9_method_5_code, 4, none, 7, 1, t_Shares_copyTable)
set_option maxRecDepth 100000 in
noncomputable def t_Shares_mend : List AI := [(0, 0, 0, 0, 0, 0, []), (3, 1, 2, 0, 0, 0, []), (2, 2, 2, 0, 0, 0, []), (2, 3, 1, 2, 0, 0, []), (22, 4, 3, 1, 33, 0, [71]), (16, 7, 47, 0, 3, 0, []), (2, 10, 0, 2, 0, 0, []), (2, 11, 1, 2, 0, 0, []), (2, 12, 2, 0, 0, 0, []), (31, 13, 61, 7, 73, 2, [43, 25]), (0, 16, 0, 0, 1, 60, []), (2, 18, 1, 2, 0, 0, []), (22, 19, 3, 2, 77, 0, [76]), (5, 22, 0, 0, 2, 0, []), (11, 23, 0, 0, 0, 0, []), (7, 24, 0, 0, 1, 0, []), (3, 25, 3, 1, 0, 0, []), (2, 26, 1, 2, 0, 0, []), (22, 27, 3, 5, 80, 0, [77]), (2, 30, 2, 0, 0, 0, []), (25, 31, 100, 0, 0, 0, []), (0, 32, 0, 0, 0, 1, []), (5, 33, 0, 0, 1, 0, []), (3, 34, 5, 0, 1, 0, []), (2, 36, 5, 0, 1, 0, []), (15, 38, 45, 0, 2, 0, []), (2, 41, 3, 1, 0, 0, []), (1, 42, 0, 0, 0, 0, []), (14, 43, 45, 0, 5, 0, []), (15, 44, 45, 0, 5, 0, []), (2, 47, 3, 1, 0, 0, []), (2, 48, 0, 2, 0, 0, []), (2, 49, 2, 0, 0, 0, []), (2, 50, 1, 2, 0, 0, []), (22, 51, 3, 6, 83, 0, [78]), (2, 54, 2, 0, 0, 0, []), (25, 55, 106, 0, 0, 0, []), (2, 56, 5, 0, 1, 0, []), (25, 58, 100, 0, 0, 0, []), (2, 59, 3, 1, 0, 0, []), (31, 60, 62, 7, 86, 3, [44, 26]), (7, 63, 0, 0, 1, 0, []), (3, 64, 3, 1, 0, 0, []), (4, 65, 5, 0, 0, (-1), []), (19, 68, 24, 0, 0, 0, []), (4, 71, 2, 0, 0, 1, []), (19, 74, 2, 0, 0, 0, []), (0, 77, 0, 0, 0, 0, []), (3, 78, 2, 0, 0, 0, []), (2, 79, 2, 0, 0, 0, []), (2, 80, 1, 2, 0, 0, []), (22, 81, 3, 0, 67, 0, [74]), (16, 84, 103, 0, 3, 0, []), (0, 87, 0, 0, 1, (-60), []), (2, 89, 1, 2, 0, 0, []), (22, 90, 3, 3, 90, 0, [79]), (2, 93, 2, 0, 0, 0, []), (25, 94, 100, 0, 0, 0, []), (5, 95, 0, 0, 2, 0, []), (11, 96, 0, 0, 0, 0, []), (3, 97, 3, 1, 0, 0, []), (0, 98, 0, 0, 0, 0, []), (3, 99, 5, 0, 1, 0, []), (2, 101, 5, 0, 1, 0, []), (2, 103, 1, 2, 0, 0, []), (22, 104, 3, 1, 33, 0, [71]), (16, 107, 80, 0, 3, 0, []), (2, 110, 3, 1, 0, 0, []), (2, 111, 0, 2, 0, 0, []), (22, 112, 7, 0, 9, 0, [67]), (2, 115, 5, 0, 1, 0, []), (0, 117, 0, 0, 1, 8, []), (5, 119, 0, 0, 2, 0, []), (2, 120, 2, 0, 0, 0, []), (5, 121, 0, 0, 0, 0, []), (25, 122, 101, 0, 0, 0, []), (7, 123, 0, 0, 0, 0, []), (3, 124, 3, 1, 0, 0, []), (4, 125, 5, 0, 0, 1, []), (19, 128, 63, 0, 0, 0, []), (2, 131, 1, 2, 0, 0, []), (22, 132, 3, 1, 33, 0, [71]), (0, 135, 0, 0, 0, 1, []), (5, 136, 0, 0, 1, 0, []), (3, 137, 5, 0, 1, 0, []), (2, 139, 5, 0, 1, 0, []), (15, 141, 101, 0, 2, 0, []), (2, 144, 3, 1, 0, 0, []), (1, 145, 0, 0, 0, 0, []), (14, 146, 101, 0, 5, 0, []), (15, 147, 101, 0, 5, 0, []), (2, 150, 3, 1, 0, 0, []), (2, 151, 0, 2, 0, 0, []), (2, 152, 5, 0, 1, 0, []), (2, 154, 2, 0, 0, 0, []), (2, 155, 3, 1, 0, 0, []), (31, 156, 62, 7, 86, 3, [44, 26]), (7, 159, 0, 0, 1, 0, []), (3, 160, 3, 1, 0, 0, []), (4, 161, 5, 0, 0, (-1), []), (19, 164, 85, 0, 0, 0, []), (4, 167, 2, 0, 0, 1, []), (19, 170, 49, 0, 0, 0, []), (34, 173, 0, 0, 0, 0, [])]
noncomputable def i_Shares_mend : MI := (⟨"TakenInTurns$Shares", "mend", "(LTakenInTurns$Giving;)V"⟩, prog_9_method_6_code, 6, none, 7, 1, t_Shares_mend)
set_option maxRecDepth 100000 in
noncomputable def t_Shares_dropUnlisted : List AI := [(1, 0, 0, 0, 0, 0, []), (3, 1, 3, 1, 0, 0, []), (0, 2, 0, 0, 0, 0, []), (3, 3, 5, 0, 1, 0, []), (2, 5, 5, 0, 1, 0, []), (2, 7, 1, 2, 0, 0, []), (22, 8, 3, 0, 67, 0, [74]), (16, 11, 37, 0, 3, 0, []), (2, 14, 1, 2, 0, 0, []), (22, 15, 3, 7, 93, 0, [80]), (2, 18, 2, 0, 0, 0, []), (25, 19, 106, 0, 0, 0, []), (2, 20, 5, 0, 1, 0, []), (25, 22, 100, 0, 0, 0, []), (15, 23, 24, 0, 3, 0, []), (2, 26, 0, 2, 0, 0, []), (22, 27, 7, 0, 9, 0, [67]), (2, 30, 2, 0, 0, 0, []), (0, 31, 0, 0, 1, 8, []), (5, 33, 0, 0, 2, 0, []), (2, 34, 5, 0, 1, 0, []), (5, 36, 0, 0, 0, 0, []), (1, 37, 0, 0, 0, 0, []), (26, 38, 101, 0, 0, 0, []), (2, 39, 3, 1, 0, 0, []), (2, 40, 0, 2, 0, 0, []), (22, 41, 7, 0, 9, 0, [67]), (2, 44, 2, 0, 0, 0, []), (0, 45, 0, 0, 1, 8, []), (5, 47, 0, 0, 2, 0, []), (2, 48, 5, 0, 1, 0, []), (5, 50, 0, 0, 0, 0, []), (25, 51, 101, 0, 0, 0, []), (7, 52, 0, 0, 0, 0, []), (3, 53, 3, 1, 0, 0, []), (4, 54, 5, 0, 0, 1, []), (19, 57, 4, 0, 0, 0, []), (2, 60, 3, 1, 0, 0, []), (34, 61, 0, 0, 0, 0, [])]
noncomputable def i_Shares_dropUnlisted : MI := (⟨"TakenInTurns$Shares", "dropUnlisted", "(LTakenInTurns$Giving;I)J"⟩, prog_9_method_7_code, 6, Option.some Jvm.ClassFile.FieldType.long, 7, 2, t_Shares_dropUnlisted)
set_option maxRecDepth 100000 in
noncomputable def t_Shares_cut : List AI := [(2, 0, 3, 1, 0, 0, []), (2, 1, 0, 2, 0, 0, []), (22, 2, 7, 0, 9, 0, [67]), (2, 5, 1, 0, 0, 0, []), (0, 6, 0, 0, 1, 8, []), (5, 8, 0, 0, 2, 0, []), (2, 9, 2, 0, 0, 0, []), (5, 10, 0, 0, 0, 0, []), (25, 11, 101, 0, 0, 0, []), (42, 12, 254, 3, 96, 0, [45]), (3, 15, 5, 1, 1, 0, []), (2, 17, 0, 2, 0, 0, []), (22, 18, 7, 0, 9, 0, [67]), (2, 21, 1, 0, 0, 0, []), (0, 22, 0, 0, 1, 8, []), (5, 24, 0, 0, 2, 0, []), (2, 25, 2, 0, 0, 0, []), (5, 26, 0, 0, 0, 0, []), (29, 27, 0, 0, 0, 0, []), (25, 28, 101, 0, 0, 0, []), (2, 29, 5, 1, 1, 0, []), (7, 31, 0, 0, 1, 0, []), (26, 32, 101, 0, 0, 0, []), (2, 33, 5, 1, 1, 0, []), (34, 35, 0, 0, 0, 0, [])]
noncomputable def i_Shares_cut : MI := (⟨"TakenInTurns$Shares", "cut", "(IIJ)J"⟩, prog_9_method_8_code, 7, Option.some Jvm.ClassFile.FieldType.long, 7, 3, t_Shares_cut)
set_option maxRecDepth 100000 in
noncomputable def t_Shelf_init : List AI := [(2, 0, 0, 2, 0, 0, []), (41, 1, 0, 0, 1, 0, [11]), (2, 4, 0, 2, 0, 0, []), (0, 5, 0, 0, 1, 60, []), (38, 7, 101, 0, 0, 0, []), (23, 9, 8, 0, 9, 0, [81]), (34, 12, 0, 0, 0, 0, [])]
noncomputable def i_Shelf_init : MI := (⟨"TakenInTurns$Shelf", "<init>", "()V"⟩, prog_10_method_1_code, 1, none, 8, 0, t_Shelf_init)
set_option maxRecDepth 100000 in
noncomputable def t_Shelf_keepKind : List AI := [(2, 0, 0, 2, 0, 0, []), (2, 1, 1, 0, 0, 0, []), (15, 2, 5, 0, 3, 0, []), (0, 5, 0, 0, 0, 0, []), (19, 6, 6, 0, 0, 0, []), (0, 9, 0, 0, 0, 1, []), (23, 10, 8, 1, 13, 0, [82]), (2, 13, 0, 2, 0, 0, []), (2, 14, 1, 0, 0, 0, []), (23, 15, 8, 2, 17, 0, [83]), (34, 18, 0, 0, 0, 0, [])]
noncomputable def i_Shelf_keepKind : MI := (⟨"TakenInTurns$Shelf", "keepKind", "(I)V"⟩, prog_10_method_2_code, 2, none, 8, 1, t_Shelf_keepKind)
set_option maxRecDepth 100000 in
noncomputable def t_Shelf_keepRow : List AI := [(2, 0, 0, 2, 0, 0, []), (0, 1, 0, 0, 0, 2, []), (23, 2, 8, 1, 13, 0, [82]), (2, 5, 0, 2, 0, 0, []), (2, 6, 1, 0, 0, 0, []), (23, 7, 8, 3, 20, 0, [84]), (2, 10, 0, 2, 0, 0, []), (2, 11, 2, 0, 0, 0, []), (23, 12, 8, 4, 23, 0, [85]), (2, 15, 0, 2, 0, 0, []), (22, 16, 8, 0, 9, 0, [81]), (1, 19, 0, 0, 0, 0, []), (32, 20, 248, 0, 26, 2, [46, 10]), (34, 23, 0, 0, 0, 0, [])]
noncomputable def i_Shelf_keepRow : MI := (⟨"TakenInTurns$Shelf", "keepRow", "(II)V"⟩, prog_10_method_3_code, 3, none, 8, 2, t_Shelf_keepRow)
set_option maxRecDepth 100000 in
noncomputable def t_Shelf_hasRoom : List AI := [(2, 0, 1, 1, 0, 0, []), (1, 1, 0, 0, 0, 0, []), (14, 2, 18, 0, 2, 0, []), (15, 3, 18, 0, 2, 0, []), (2, 6, 3, 1, 0, 0, []), (1, 7, 0, 0, 0, 0, []), (14, 8, 18, 0, 2, 0, []), (15, 9, 18, 0, 2, 0, []), (2, 12, 1, 1, 0, 0, []), (2, 13, 3, 1, 0, 0, []), (7, 14, 0, 0, 0, 0, []), (2, 15, 0, 2, 0, 0, []), (22, 16, 8, 4, 23, 0, [85]), (11, 19, 0, 0, 0, 0, []), (14, 20, 18, 0, 4, 0, []), (15, 21, 18, 0, 4, 0, []), (0, 24, 0, 0, 0, 1, []), (19, 25, 19, 0, 0, 0, []), (0, 28, 0, 0, 0, 0, []), (34, 29, 0, 0, 0, 0, [])]
noncomputable def i_Shelf_hasRoom : MI := (⟨"TakenInTurns$Shelf", "hasRoom", "(JJ)Z"⟩, prog_10_method_4_code, 5, Option.some Jvm.ClassFile.FieldType.boolean, 8, 2, t_Shelf_hasRoom)
set_option maxRecDepth 100000 in
noncomputable def t_Shelf_write : List AI := [(2, 0, 0, 2, 0, 0, []), (22, 1, 8, 3, 20, 0, [84]), (20, 4, 41, 36, 0, 0, [3, 12, 21, 41, 29]), (2, 40, 0, 2, 0, 0, []), (22, 41, 8, 0, 9, 0, [81]), (2, 44, 1, 0, 0, 0, []), (2, 45, 2, 1, 0, 0, []), (12, 46, 0, 0, 0, 0, []), (10, 47, 0, 0, 1, 0, []), (11, 48, 0, 0, 0, 0, []), (26, 49, 101, 0, 0, 0, []), (19, 50, 46, 0, 0, 0, []), (2, 53, 0, 2, 0, 0, []), (22, 54, 8, 0, 9, 0, [81]), (2, 57, 1, 0, 0, 0, []), (2, 58, 2, 1, 0, 0, []), (12, 59, 0, 0, 0, 0, []), (10, 60, 0, 0, 2, 0, []), (11, 61, 0, 0, 0, 0, []), (26, 62, 101, 0, 0, 0, []), (19, 63, 46, 0, 0, 0, []), (2, 66, 0, 2, 0, 0, []), (22, 67, 8, 0, 9, 0, [81]), (2, 70, 1, 0, 0, 0, []), (2, 71, 2, 1, 0, 0, []), (12, 72, 0, 0, 0, 0, []), (11, 73, 0, 0, 0, 0, []), (26, 74, 101, 0, 0, 0, []), (19, 75, 46, 0, 0, 0, []), (2, 78, 0, 2, 0, 0, []), (22, 79, 8, 0, 9, 0, [81]), (2, 82, 1, 0, 0, 0, []), (2, 83, 2, 1, 0, 0, []), (1, 84, 0, 0, 0, 0, []), (14, 85, 38, 0, 0, 0, []), (15, 86, 38, 0, 0, 0, []), (1, 89, 0, 0, 0, 1, []), (19, 90, 39, 0, 0, 0, []), (1, 93, 0, 0, 0, 0, []), (26, 94, 101, 0, 0, 0, []), (19, 95, 46, 0, 0, 0, []), (2, 98, 0, 2, 0, 0, []), (22, 99, 8, 0, 9, 0, [81]), (2, 102, 1, 0, 0, 0, []), (2, 103, 2, 1, 0, 0, []), (26, 104, 101, 0, 0, 0, []), (34, 105, 0, 0, 0, 0, [])]
noncomputable def i_Shelf_write : MI := (⟨"TakenInTurns$Shelf", "write", "(IJ)V"⟩, prog_10_method_5_code, 4, none, 8, 2, t_Shelf_write)
set_option maxRecDepth 100000 in
noncomputable def t_Tape_init : List AI := [(2, 0, 0, 2, 0, 0, []), (41, 1, 0, 0, 3, 0, [12]), (2, 4, 0, 2, 0, 0, []), (0, 5, 0, 0, 1, 120, []), (38, 7, 100, 0, 0, 0, []), (23, 9, 9, 0, 11, 0, [86]), (34, 12, 0, 0, 0, 0, [])]
noncomputable def i_Tape_init : MI := (⟨"TakenInTurns$Tape", "<init>", "()V"⟩, prog_11_method_1_code, 1, none, 9, 0, t_Tape_init)
set_option maxRecDepth 100000 in
noncomputable def t_Tape_add : List AI := [(2, 0, 0, 2, 0, 0, []), (22, 1, 9, 1, 15, 0, [87]), (0, 4, 0, 0, 1, 120, []), (16, 6, 16, 0, 3, 0, []), (2, 9, 0, 2, 0, 0, []), (22, 10, 9, 0, 11, 0, [86]), (2, 13, 0, 2, 0, 0, []), (22, 14, 9, 1, 15, 0, [87]), (2, 17, 1, 0, 0, 0, []), (26, 18, 100, 0, 0, 0, []), (2, 19, 0, 2, 0, 0, []), (28, 20, 0, 0, 0, 0, []), (22, 21, 9, 1, 15, 0, [87]), (0, 24, 0, 0, 0, 1, []), (5, 25, 0, 0, 0, 0, []), (23, 26, 9, 1, 15, 0, [87]), (34, 29, 0, 0, 0, 0, [])]
noncomputable def i_Tape_add : MI := (⟨"TakenInTurns$Tape", "add", "(I)V"⟩, prog_11_method_2_code, 2, none, 9, 1, t_Tape_add)
set_option maxRecDepth 100000 in
noncomputable def t_Tape_readGiving : List AI := [(2, 0, 0, 2, 0, 0, []), (0, 1, 0, 0, 0, 0, []), (23, 2, 9, 2, 19, 0, [88]), (2, 5, 1, 2, 0, 0, []), (31, 6, 19, 3, 22, 0, [47, 27]), (2, 9, 0, 2, 0, 0, []), (2, 10, 1, 2, 0, 0, []), (31, 11, 73, 9, 27, 1, [48, 28]), (15, 14, 15, 0, 0, 0, []), (2, 17, 0, 2, 0, 0, []), (2, 18, 1, 2, 0, 0, []), (31, 19, 74, 9, 31, 1, [49, 29]), (15, 22, 15, 0, 0, 0, []), (0, 25, 0, 0, 0, 1, []), (19, 26, 16, 0, 0, 0, []), (0, 29, 0, 0, 0, 0, []), (34, 30, 0, 0, 0, 0, [])]
noncomputable def i_Tape_readGiving : MI := (⟨"TakenInTurns$Tape", "readGiving", "(LTakenInTurns$Giving;)Z"⟩, prog_11_method_3_code, 2, Option.some Jvm.ClassFile.FieldType.boolean, 9, 1, t_Tape_readGiving)
set_option maxRecDepth 100000 in
noncomputable def t_Tape_readInstead : List AI := [(2, 0, 0, 2, 0, 0, []), (0, 1, 0, 0, 0, 0, []), (23, 2, 9, 2, 19, 0, [88]), (2, 5, 0, 2, 0, 0, []), (2, 6, 1, 2, 0, 0, []), (2, 7, 2, 0, 0, 0, []), (31, 8, 75, 9, 34, 2, [50, 30]), (15, 11, 15, 0, 0, 0, []), (2, 14, 0, 2, 0, 0, []), (22, 15, 9, 2, 19, 0, [88]), (2, 18, 0, 2, 0, 0, []), (22, 19, 9, 1, 15, 0, [87]), (16, 22, 15, 0, 1, 0, []), (0, 25, 0, 0, 0, 1, []), (19, 26, 16, 0, 0, 0, []), (0, 29, 0, 0, 0, 0, []), (34, 30, 0, 0, 0, 0, [])]
noncomputable def i_Tape_readInstead : MI := (⟨"TakenInTurns$Tape", "readInstead", "(LTakenInTurns$Giving;I)Z"⟩, prog_11_method_4_code, 3, Option.some Jvm.ClassFile.FieldType.boolean, 9, 2, t_Tape_readInstead)
set_option maxRecDepth 100000 in
noncomputable def t_Tape_next : List AI := [(2, 0, 0, 2, 0, 0, []), (22, 1, 9, 2, 19, 0, [88]), (2, 4, 0, 2, 0, 0, []), (22, 5, 9, 1, 15, 0, [87]), (16, 8, 11, 0, 3, 0, []), (2, 11, 0, 2, 0, 0, []), (22, 12, 9, 0, 11, 0, [86]), (2, 15, 0, 2, 0, 0, []), (22, 16, 9, 2, 19, 0, [88]), (25, 19, 100, 0, 0, 0, []), (19, 20, 12, 0, 0, 0, []), (0, 23, 0, 0, 0, (-1), []), (34, 24, 0, 0, 0, 0, [])]
noncomputable def i_Tape_next : MI := (⟨"TakenInTurns$Tape", "next", "()I"⟩, prog_11_method_5_code, 1, Option.some Jvm.ClassFile.FieldType.int, 9, 0, t_Tape_next)
set_option maxRecDepth 100000 in
noncomputable def t_Tape_readThings : List AI := [(0, 0, 0, 0, 0, 0, []), (3, 1, 2, 0, 0, 0, []), (2, 2, 2, 0, 0, 0, []), (0, 3, 0, 0, 1, 8, []), (16, 5, 54, 0, 3, 0, []), (2, 8, 0, 2, 0, 0, []), (31, 9, 72, 9, 38, 0, [51, 31]), (0, 12, 0, 0, 1, 97, []), (2, 14, 2, 0, 0, 0, []), (5, 15, 0, 0, 0, 0, []), (16, 16, 17, 0, 0, 0, []), (2, 19, 2, 0, 0, 0, []), (15, 20, 15, 0, 5, 0, []), (0, 23, 0, 0, 0, 1, []), (19, 24, 16, 0, 0, 0, []), (0, 27, 0, 0, 0, 0, []), (34, 28, 0, 0, 0, 0, []), (2, 29, 0, 2, 0, 0, []), (28, 30, 0, 0, 0, 0, []), (22, 31, 9, 2, 19, 0, [88]), (0, 34, 0, 0, 0, 1, []), (5, 35, 0, 0, 0, 0, []), (23, 36, 9, 2, 19, 0, [88]), (2, 39, 0, 2, 0, 0, []), (31, 40, 72, 9, 38, 0, [51, 31]), (0, 43, 0, 0, 1, 48, []), (5, 45, 0, 0, 1, 0, []), (3, 46, 3, 0, 0, 0, []), (2, 47, 3, 0, 0, 0, []), (0, 48, 0, 0, 0, 1, []), (16, 49, 34, 0, 2, 0, []), (2, 52, 3, 0, 0, 0, []), (0, 53, 0, 0, 1, 9, []), (16, 55, 36, 0, 5, 0, []), (0, 58, 0, 0, 0, 0, []), (34, 59, 0, 0, 0, 0, []), (2, 60, 0, 2, 0, 0, []), (28, 61, 0, 0, 0, 0, []), (22, 62, 9, 2, 19, 0, [88]), (0, 65, 0, 0, 0, 1, []), (5, 66, 0, 0, 0, 0, []), (23, 67, 9, 2, 19, 0, [88]), (2, 70, 1, 2, 0, 0, []), (22, 71, 3, 3, 42, 0, [89]), (2, 74, 2, 0, 0, 0, []), (2, 75, 3, 0, 0, 0, []), (26, 76, 100, 0, 0, 0, []), (2, 77, 1, 2, 0, 0, []), (2, 78, 2, 0, 0, 0, []), (0, 79, 0, 0, 0, 1, []), (5, 80, 0, 0, 0, 0, []), (23, 81, 3, 0, 45, 0, [90]), (4, 84, 2, 0, 0, 1, []), (19, 87, 2, 0, 0, 0, []), (0, 90, 0, 0, 0, 1, []), (34, 91, 0, 0, 0, 0, [])]
noncomputable def i_Tape_readThings : MI := (⟨"TakenInTurns$Tape", "readThings", "(LTakenInTurns$Giving;)Z"⟩, prog_11_method_6_code, 4, Option.some Jvm.ClassFile.FieldType.boolean, 9, 1, t_Tape_readThings)
set_option maxRecDepth 100000 in
noncomputable def t_Tape_readLists : List AI := [(0, 0, 0, 0, 0, 0, []), (3, 1, 2, 0, 0, 0, []), (2, 2, 2, 0, 0, 0, []), (0, 3, 0, 0, 1, 7, []), (16, 5, 40, 0, 3, 0, []), (2, 8, 2, 0, 0, 0, []), (15, 9, 14, 0, 5, 0, []), (2, 12, 0, 2, 0, 0, []), (22, 13, 9, 2, 19, 0, [88]), (2, 16, 0, 2, 0, 0, []), (22, 17, 9, 1, 15, 0, [87]), (16, 20, 14, 0, 1, 0, []), (0, 23, 0, 0, 0, 1, []), (34, 24, 0, 0, 0, 0, []), (2, 25, 0, 2, 0, 0, []), (31, 26, 72, 9, 38, 0, [51, 31]), (0, 29, 0, 0, 1, 59, []), (16, 31, 20, 0, 0, 0, []), (0, 34, 0, 0, 0, 0, []), (34, 35, 0, 0, 0, 0, []), (2, 36, 0, 2, 0, 0, []), (28, 37, 0, 0, 0, 0, []), (22, 38, 9, 2, 19, 0, [88]), (0, 41, 0, 0, 0, 1, []), (5, 42, 0, 0, 0, 0, []), (23, 43, 9, 2, 19, 0, [88]), (2, 46, 1, 2, 0, 0, []), (2, 47, 2, 0, 0, 0, []), (0, 48, 0, 0, 0, 1, []), (5, 49, 0, 0, 0, 0, []), (23, 50, 3, 1, 48, 0, [91]), (2, 53, 0, 2, 0, 0, []), (2, 54, 1, 2, 0, 0, []), (2, 55, 2, 0, 0, 0, []), (31, 56, 75, 9, 34, 2, [50, 30]), (15, 59, 38, 0, 1, 0, []), (0, 62, 0, 0, 0, 0, []), (34, 63, 0, 0, 0, 0, []), (4, 64, 2, 0, 0, 1, []), (19, 67, 2, 0, 0, 0, []), (2, 70, 0, 2, 0, 0, []), (22, 71, 9, 2, 19, 0, [88]), (2, 74, 0, 2, 0, 0, []), (22, 75, 9, 1, 15, 0, [87]), (16, 78, 47, 0, 1, 0, []), (0, 81, 0, 0, 0, 1, []), (19, 82, 48, 0, 0, 0, []), (0, 85, 0, 0, 0, 0, []), (34, 86, 0, 0, 0, 0, [])]
noncomputable def i_Tape_readLists : MI := (⟨"TakenInTurns$Tape", "readLists", "(LTakenInTurns$Giving;)Z"⟩, prog_11_method_7_code, 3, Option.some Jvm.ClassFile.FieldType.boolean, 9, 1, t_Tape_readLists)
set_option maxRecDepth 100000 in
noncomputable def t_Tape_readList : List AI := [(2, 0, 1, 2, 0, 0, []), (2, 1, 2, 0, 0, 0, []), (31, 2, 22, 3, 51, 1, [52, 9]), (2, 5, 0, 2, 0, 0, []), (31, 6, 72, 9, 38, 0, [51, 31]), (0, 9, 0, 0, 1, 42, []), (16, 11, 14, 0, 1, 0, []), (2, 14, 0, 2, 0, 0, []), (2, 15, 1, 2, 0, 0, []), (2, 16, 2, 0, 0, 0, []), (31, 17, 76, 9, 55, 2, [53, 32]), (15, 20, 14, 0, 1, 0, []), (0, 23, 0, 0, 0, 0, []), (34, 24, 0, 0, 0, 0, []), (2, 25, 0, 2, 0, 0, []), (31, 26, 72, 9, 38, 0, [51, 31]), (0, 29, 0, 0, 1, 45, []), (16, 31, 26, 0, 1, 0, []), (2, 34, 0, 2, 0, 0, []), (28, 35, 0, 0, 0, 0, []), (22, 36, 9, 2, 19, 0, [88]), (0, 39, 0, 0, 0, 1, []), (5, 40, 0, 0, 0, 0, []), (23, 41, 9, 2, 19, 0, [88]), (0, 44, 0, 0, 0, 1, []), (34, 45, 0, 0, 0, 0, []), (0, 46, 0, 0, 0, 0, []), (3, 47, 3, 0, 0, 0, []), (0, 48, 0, 0, 0, 0, []), (3, 49, 4, 0, 1, 0, []), (2, 51, 4, 0, 1, 0, []), (0, 53, 0, 0, 1, 8, []), (16, 55, 82, 0, 3, 0, []), (2, 58, 0, 2, 0, 0, []), (31, 59, 72, 9, 38, 0, [51, 31]), (0, 62, 0, 0, 1, 97, []), (5, 64, 0, 0, 1, 0, []), (3, 65, 5, 0, 1, 0, []), (2, 67, 1, 2, 0, 0, []), (2, 68, 5, 0, 1, 0, []), (32, 70, 127, 1, 58, 2, [5, 13]), (15, 73, 49, 0, 0, 0, []), (2, 76, 1, 2, 0, 0, []), (22, 77, 3, 7, 61, 0, [92]), (2, 80, 2, 0, 0, 0, []), (25, 81, 106, 0, 0, 0, []), (2, 82, 5, 0, 1, 0, []), (25, 84, 100, 0, 0, 0, []), (15, 85, 51, 0, 2, 0, []), (0, 88, 0, 0, 0, 0, []), (34, 89, 0, 0, 0, 0, []), (2, 90, 1, 2, 0, 0, []), (2, 91, 2, 0, 0, 0, []), (2, 92, 5, 0, 1, 0, []), (2, 94, 3, 0, 0, 0, []), (31, 95, 23, 3, 65, 3, [54, 10]), (2, 98, 0, 2, 0, 0, []), (28, 99, 0, 0, 0, 0, []), (22, 100, 9, 2, 19, 0, [88]), (0, 103, 0, 0, 0, 1, []), (5, 104, 0, 0, 0, 0, []), (23, 105, 9, 2, 19, 0, [88]), (2, 108, 0, 2, 0, 0, []), (31, 109, 72, 9, 38, 0, [51, 31]), (0, 112, 0, 0, 1, 62, []), (16, 114, 68, 0, 1, 0, []), (4, 117, 3, 0, 0, 1, []), (19, 120, 74, 0, 0, 0, []), (2, 123, 0, 2, 0, 0, []), (31, 124, 72, 9, 38, 0, [51, 31]), (0, 127, 0, 0, 1, 61, []), (16, 129, 74, 0, 0, 0, []), (0, 132, 0, 0, 0, 1, []), (34, 133, 0, 0, 0, 0, []), (2, 134, 0, 2, 0, 0, []), (28, 135, 0, 0, 0, 0, []), (22, 136, 9, 2, 19, 0, [88]), (0, 139, 0, 0, 0, 1, []), (5, 140, 0, 0, 0, 0, []), (23, 141, 9, 2, 19, 0, [88]), (4, 144, 4, 0, 0, 1, []), (19, 147, 30, 0, 0, 0, []), (0, 150, 0, 0, 0, 0, []), (34, 151, 0, 0, 0, 0, [])]
noncomputable def i_Tape_readList : MI := (⟨"TakenInTurns$Tape", "readList", "(LTakenInTurns$Giving;I)Z"⟩, prog_11_method_8_code, 6, Option.some Jvm.ClassFile.FieldType.boolean, 9, 2, t_Tape_readList)
set_option maxRecDepth 100000 in
noncomputable def t_Tape_readHeld : List AI := [(2, 0, 0, 2, 0, 0, []), (28, 1, 0, 0, 0, 0, []), (22, 2, 9, 2, 19, 0, [88]), (0, 5, 0, 0, 0, 1, []), (5, 6, 0, 0, 0, 0, []), (23, 7, 9, 2, 19, 0, [88]), (2, 10, 0, 2, 0, 0, []), (31, 11, 72, 9, 38, 0, [51, 31]), (0, 14, 0, 0, 1, 97, []), (5, 16, 0, 0, 1, 0, []), (3, 17, 3, 0, 0, 0, []), (2, 18, 1, 2, 0, 0, []), (2, 19, 3, 0, 0, 0, []), (32, 20, 127, 1, 58, 2, [5, 13]), (15, 23, 23, 0, 0, 0, []), (2, 26, 1, 2, 0, 0, []), (2, 27, 3, 0, 0, 0, []), (31, 28, 25, 3, 69, 1, [55, 33]), (2, 31, 1, 2, 0, 0, []), (22, 32, 3, 3, 42, 0, [89]), (2, 35, 3, 0, 0, 0, []), (25, 36, 100, 0, 0, 0, []), (16, 37, 25, 0, 2, 0, []), (0, 40, 0, 0, 0, 0, []), (34, 41, 0, 0, 0, 0, []), (2, 42, 1, 2, 0, 0, []), (22, 43, 3, 4, 73, 0, [93]), (2, 46, 2, 0, 0, 0, []), (2, 47, 3, 0, 0, 0, []), (26, 48, 100, 0, 0, 0, []), (2, 49, 0, 2, 0, 0, []), (28, 50, 0, 0, 0, 0, []), (22, 51, 9, 2, 19, 0, [88]), (0, 54, 0, 0, 0, 1, []), (5, 55, 0, 0, 0, 0, []), (23, 56, 9, 2, 19, 0, [88]), (0, 59, 0, 0, 0, 1, []), (34, 60, 0, 0, 0, 0, [])]
noncomputable def i_Tape_readHeld : MI := (⟨"TakenInTurns$Tape", "readHeld", "(LTakenInTurns$Giving;I)Z"⟩, prog_11_method_9_code, 4, Option.some Jvm.ClassFile.FieldType.boolean, 9, 2, t_Tape_readHeld)
set_option maxRecDepth 100000 in
noncomputable def t_Trade_init : List AI := [(2, 0, 0, 2, 0, 0, []), (41, 1, 0, 0, 3, 0, [13]), (2, 4, 0, 2, 0, 0, []), (0, 5, 0, 0, 1, 7, []), (38, 7, 100, 0, 0, 0, []), (23, 9, 10, 0, 9, 0, [94]), (2, 12, 0, 2, 0, 0, []), (0, 13, 0, 0, 1, 7, []), (38, 15, 100, 0, 0, 0, []), (23, 17, 10, 1, 15, 0, [95]), (2, 20, 0, 2, 0, 0, []), (0, 21, 0, 0, 1, 7, []), (38, 23, 100, 0, 0, 0, []), (23, 25, 10, 2, 18, 0, [96]), (2, 28, 0, 2, 0, 0, []), (0, 29, 0, 0, 1, 7, []), (38, 31, 102, 0, 0, 0, []), (23, 33, 10, 3, 21, 0, [97]), (34, 36, 0, 0, 0, 0, [])]
noncomputable def i_Trade_init : MI := (⟨"TakenInTurns$Trade", "<init>", "()V"⟩, prog_12_method_1_code, 1, none, 10, 0, t_Trade_init)
set_option maxRecDepth 100000 in
noncomputable def t_Trade_exchange : List AI := [(0, 0, 0, 0, 0, 0, []), (3, 1, 3, 0, 0, 0, []), (2, 2, 3, 0, 0, 0, []), (2, 3, 1, 2, 0, 0, []), (22, 4, 3, 1, 25, 0, [98]), (16, 7, 36, 0, 3, 0, []), (2, 10, 0, 2, 0, 0, []), (22, 11, 10, 0, 9, 0, [94]), (2, 14, 3, 0, 0, 0, []), (2, 15, 1, 2, 0, 0, []), (22, 16, 3, 4, 31, 0, [99]), (2, 19, 3, 0, 0, 0, []), (25, 20, 100, 0, 0, 0, []), (26, 21, 100, 0, 0, 0, []), (2, 22, 0, 2, 0, 0, []), (22, 23, 10, 1, 15, 0, [95]), (2, 26, 3, 0, 0, 0, []), (2, 27, 0, 2, 0, 0, []), (22, 28, 10, 0, 9, 0, [94]), (2, 31, 3, 0, 0, 0, []), (25, 32, 100, 0, 0, 0, []), (26, 33, 100, 0, 0, 0, []), (2, 34, 0, 2, 0, 0, []), (22, 35, 10, 3, 21, 0, [97]), (2, 38, 3, 0, 0, 0, []), (2, 39, 0, 2, 0, 0, []), (22, 40, 10, 0, 9, 0, [94]), (2, 43, 3, 0, 0, 0, []), (25, 44, 100, 0, 0, 0, []), (15, 45, 32, 0, 3, 0, []), (0, 48, 0, 0, 0, 1, []), (19, 49, 33, 0, 0, 0, []), (0, 52, 0, 0, 0, 0, []), (26, 53, 102, 0, 0, 0, []), (4, 54, 3, 0, 0, 1, []), (19, 57, 2, 0, 0, 0, []), (0, 60, 0, 0, 0, 0, []), (3, 61, 3, 0, 0, 0, []), (2, 62, 3, 0, 0, 0, []), (0, 63, 0, 0, 1, 7, []), (16, 65, 50, 0, 3, 0, []), (2, 68, 0, 2, 0, 0, []), (2, 69, 1, 2, 0, 0, []), (31, 70, 79, 10, 34, 1, [56, 34]), (15, 73, 48, 0, 0, 0, []), (2, 76, 0, 2, 0, 0, []), (2, 77, 1, 2, 0, 0, []), (31, 78, 81, 10, 38, 1, [57, 35]), (4, 81, 3, 0, 0, 1, []), (19, 84, 38, 0, 0, 0, []), (2, 87, 0, 2, 0, 0, []), (2, 88, 1, 2, 0, 0, []), (31, 89, 83, 10, 42, 1, [58, 36]), (0, 92, 0, 0, 0, 0, []), (3, 93, 3, 0, 0, 0, []), (2, 94, 3, 0, 0, 0, []), (2, 95, 1, 2, 0, 0, []), (22, 96, 3, 1, 25, 0, [98]), (16, 99, 78, 0, 3, 0, []), (2, 102, 0, 2, 0, 0, []), (22, 103, 10, 1, 15, 0, [95]), (2, 106, 3, 0, 0, 0, []), (25, 107, 100, 0, 0, 0, []), (15, 108, 76, 0, 2, 0, []), (2, 111, 2, 2, 0, 0, []), (22, 112, 7, 0, 45, 0, [100]), (2, 115, 3, 0, 0, 0, []), (0, 116, 0, 0, 1, 8, []), (5, 118, 0, 0, 2, 0, []), (2, 119, 0, 2, 0, 0, []), (22, 120, 10, 1, 15, 0, [95]), (2, 123, 3, 0, 0, 0, []), (25, 124, 100, 0, 0, 0, []), (5, 125, 0, 0, 0, 0, []), (1, 126, 0, 0, 0, 1, []), (26, 127, 101, 0, 0, 0, []), (4, 128, 3, 0, 0, 1, []), (19, 131, 55, 0, 0, 0, []), (34, 134, 0, 0, 0, 0, [])]
noncomputable def i_Trade_exchange : MI := (⟨"TakenInTurns$Trade", "exchange", "(LTakenInTurns$Giving;LTakenInTurns$Shares;)V"⟩, prog_12_method_2_code, 4, none, 10, 2, t_Trade_exchange)
set_option maxRecDepth 100000 in
noncomputable def t_Trade_pointAll : List AI := [(0, 0, 0, 0, 0, 0, []), (3, 1, 2, 0, 0, 0, []), (0, 2, 0, 0, 0, 0, []), (3, 3, 3, 0, 0, 0, []), (2, 4, 3, 0, 0, 0, []), (2, 5, 1, 2, 0, 0, []), (22, 6, 3, 1, 25, 0, [98]), (16, 9, 24, 0, 3, 0, []), (2, 12, 0, 2, 0, 0, []), (22, 13, 10, 3, 21, 0, [97]), (2, 16, 3, 0, 0, 0, []), (25, 17, 102, 0, 0, 0, []), (15, 18, 22, 0, 1, 0, []), (2, 21, 2, 0, 0, 0, []), (0, 22, 0, 0, 0, 1, []), (2, 23, 0, 2, 0, 0, []), (22, 24, 10, 0, 9, 0, [94]), (2, 27, 3, 0, 0, 0, []), (25, 28, 100, 0, 0, 0, []), (5, 29, 0, 0, 6, 0, []), (5, 30, 0, 0, 4, 0, []), (3, 31, 2, 0, 0, 0, []), (4, 32, 3, 0, 0, 1, []), (19, 35, 4, 0, 0, 0, []), (0, 38, 0, 0, 0, 1, []), (3, 39, 3, 0, 0, 0, []), (0, 40, 0, 0, 0, 0, []), (3, 41, 4, 0, 1, 0, []), (2, 43, 4, 0, 1, 0, []), (2, 45, 1, 2, 0, 0, []), (22, 46, 3, 1, 25, 0, [98]), (16, 49, 68, 0, 3, 0, []), (2, 52, 0, 2, 0, 0, []), (22, 53, 10, 3, 21, 0, [97]), (2, 56, 4, 0, 1, 0, []), (25, 58, 102, 0, 0, 0, []), (15, 59, 66, 0, 1, 0, []), (2, 62, 1, 2, 0, 0, []), (2, 63, 4, 0, 1, 0, []), (2, 65, 2, 0, 0, 0, []), (31, 66, 26, 3, 51, 2, [59, 5]), (3, 69, 5, 0, 1, 0, []), (2, 71, 0, 2, 0, 0, []), (22, 72, 10, 2, 18, 0, [96]), (2, 75, 4, 0, 1, 0, []), (2, 77, 5, 0, 1, 0, []), (15, 79, 49, 0, 3, 0, []), (0, 82, 0, 0, 0, (-1), []), (19, 83, 54, 0, 0, 0, []), (2, 86, 0, 2, 0, 0, []), (2, 87, 1, 2, 0, 0, []), (2, 88, 5, 0, 1, 0, []), (2, 90, 4, 0, 1, 0, []), (31, 92, 80, 10, 55, 3, [60, 37]), (26, 95, 100, 0, 0, 0, []), (2, 96, 3, 0, 0, 0, []), (15, 97, 64, 0, 0, 0, []), (2, 100, 0, 2, 0, 0, []), (22, 101, 10, 2, 18, 0, [96]), (2, 104, 4, 0, 1, 0, []), (25, 106, 100, 0, 0, 0, []), (15, 107, 64, 0, 2, 0, []), (0, 110, 0, 0, 0, 1, []), (19, 111, 65, 0, 0, 0, []), (0, 114, 0, 0, 0, 0, []), (3, 115, 3, 0, 0, 0, []), (4, 116, 4, 0, 0, 1, []), (19, 119, 28, 0, 0, 0, []), (0, 122, 0, 0, 0, 0, []), (3, 123, 4, 0, 1, 0, []), (2, 125, 4, 0, 1, 0, []), (2, 127, 1, 2, 0, 0, []), (22, 128, 3, 1, 25, 0, [98]), (16, 131, 95, 0, 3, 0, []), (2, 134, 3, 0, 0, 0, []), (15, 135, 95, 0, 1, 0, []), (2, 138, 0, 2, 0, 0, []), (22, 139, 10, 3, 21, 0, [97]), (2, 142, 4, 0, 1, 0, []), (2, 144, 0, 2, 0, 0, []), (22, 145, 10, 3, 21, 0, [97]), (2, 148, 4, 0, 1, 0, []), (25, 150, 102, 0, 0, 0, []), (15, 151, 89, 0, 1, 0, []), (2, 154, 0, 2, 0, 0, []), (22, 155, 10, 2, 18, 0, [96]), (2, 158, 4, 0, 1, 0, []), (25, 160, 100, 0, 0, 0, []), (15, 161, 91, 0, 3, 0, []), (0, 164, 0, 0, 0, 1, []), (19, 165, 92, 0, 0, 0, []), (0, 168, 0, 0, 0, 0, []), (26, 169, 102, 0, 0, 0, []), (4, 170, 4, 0, 0, 1, []), (19, 173, 70, 0, 0, 0, []), (2, 176, 3, 0, 0, 0, []), (34, 177, 0, 0, 0, 0, [])]
noncomputable def i_Trade_pointAll : MI := (⟨"TakenInTurns$Trade", "pointAll", "(LTakenInTurns$Giving;)Z"⟩, prog_12_method_3_code, 6, Option.some Jvm.ClassFile.FieldType.boolean, 10, 1, t_Trade_pointAll)
set_option maxRecDepth 100000 in
noncomputable def t_Trade_holderOf : List AI := [(2, 0, 0, 2, 0, 0, []), (22, 1, 10, 0, 9, 0, [94]), (2, 4, 3, 0, 0, 0, []), (25, 5, 100, 0, 0, 0, []), (2, 6, 2, 0, 0, 0, []), (16, 7, 8, 0, 1, 0, []), (2, 10, 3, 0, 0, 0, []), (34, 11, 0, 0, 0, 0, []), (0, 12, 0, 0, 0, 0, []), (3, 13, 4, 0, 1, 0, []), (2, 15, 4, 0, 1, 0, []), (2, 17, 1, 2, 0, 0, []), (22, 18, 3, 1, 25, 0, [98]), (16, 21, 29, 0, 3, 0, []), (2, 24, 0, 2, 0, 0, []), (22, 25, 10, 3, 21, 0, [97]), (2, 28, 4, 0, 1, 0, []), (25, 30, 102, 0, 0, 0, []), (15, 31, 27, 0, 1, 0, []), (2, 34, 0, 2, 0, 0, []), (22, 35, 10, 0, 9, 0, [94]), (2, 38, 4, 0, 1, 0, []), (25, 40, 100, 0, 0, 0, []), (2, 41, 2, 0, 0, 0, []), (16, 42, 27, 0, 1, 0, []), (2, 45, 4, 0, 1, 0, []), (34, 47, 0, 0, 0, 0, []), (4, 48, 4, 0, 0, 1, []), (19, 51, 10, 0, 0, 0, []), (0, 54, 0, 0, 0, (-1), []), (34, 55, 0, 0, 0, 0, [])]
noncomputable def i_Trade_holderOf : MI := (⟨"TakenInTurns$Trade", "holderOf", "(LTakenInTurns$Giving;II)I"⟩, prog_12_method_4_code, 5, Option.some Jvm.ClassFile.FieldType.int, 10, 3, t_Trade_holderOf)
set_option maxRecDepth 100000 in
noncomputable def t_Trade_closeRing : List AI := [(0, 0, 0, 0, 0, 0, []), (3, 1, 2, 0, 0, 0, []), (2, 2, 2, 0, 0, 0, []), (2, 3, 1, 2, 0, 0, []), (22, 4, 3, 1, 25, 0, [98]), (16, 7, 55, 0, 3, 0, []), (2, 10, 0, 2, 0, 0, []), (22, 11, 10, 3, 21, 0, [97]), (2, 14, 2, 0, 0, 0, []), (25, 15, 102, 0, 0, 0, []), (15, 16, 53, 0, 1, 0, []), (2, 19, 0, 2, 0, 0, []), (2, 20, 1, 2, 0, 0, []), (2, 21, 2, 0, 0, 0, []), (31, 22, 82, 10, 59, 2, [61, 38]), (15, 25, 53, 0, 0, 0, []), (2, 28, 2, 0, 0, 0, []), (3, 29, 3, 0, 0, 0, []), (0, 30, 0, 0, 0, 0, []), (3, 31, 4, 0, 1, 0, []), (2, 33, 4, 0, 1, 0, []), (2, 35, 1, 2, 0, 0, []), (22, 36, 3, 1, 25, 0, [98]), (16, 39, 52, 0, 3, 0, []), (2, 42, 0, 2, 0, 0, []), (22, 43, 10, 3, 21, 0, [97]), (2, 46, 3, 0, 0, 0, []), (25, 47, 102, 0, 0, 0, []), (15, 48, 52, 0, 1, 0, []), (2, 51, 0, 2, 0, 0, []), (22, 52, 10, 1, 15, 0, [95]), (2, 55, 3, 0, 0, 0, []), (2, 56, 0, 2, 0, 0, []), (22, 57, 10, 0, 9, 0, [94]), (2, 60, 0, 2, 0, 0, []), (22, 61, 10, 2, 18, 0, [96]), (2, 64, 3, 0, 0, 0, []), (25, 65, 100, 0, 0, 0, []), (25, 66, 100, 0, 0, 0, []), (26, 67, 100, 0, 0, 0, []), (2, 68, 0, 2, 0, 0, []), (22, 69, 10, 3, 21, 0, [97]), (2, 72, 3, 0, 0, 0, []), (0, 73, 0, 0, 0, 1, []), (26, 74, 102, 0, 0, 0, []), (2, 75, 0, 2, 0, 0, []), (22, 76, 10, 2, 18, 0, [96]), (2, 79, 3, 0, 0, 0, []), (25, 80, 100, 0, 0, 0, []), (3, 81, 3, 0, 0, 0, []), (4, 82, 4, 0, 0, 1, []), (19, 85, 20, 0, 0, 0, []), (34, 88, 0, 0, 0, 0, []), (4, 89, 2, 0, 0, 1, []), (19, 92, 2, 0, 0, 0, []), (34, 95, 0, 0, 0, 0, [])]
noncomputable def i_Trade_closeRing : MI := (⟨"TakenInTurns$Trade", "closeRing", "(LTakenInTurns$Giving;)V"⟩, prog_12_method_5_code, 5, none, 10, 1, t_Trade_closeRing)
set_option maxRecDepth 100000 in
noncomputable def t_Trade_isInRing : List AI := [(2, 0, 0, 2, 0, 0, []), (22, 1, 10, 2, 18, 0, [96]), (2, 4, 2, 0, 0, 0, []), (25, 5, 100, 0, 0, 0, []), (3, 6, 3, 0, 0, 0, []), (0, 7, 0, 0, 0, 0, []), (3, 8, 4, 0, 1, 0, []), (2, 10, 4, 0, 1, 0, []), (2, 12, 1, 2, 0, 0, []), (22, 13, 3, 1, 25, 0, [98]), (16, 16, 21, 0, 3, 0, []), (2, 19, 3, 0, 0, 0, []), (2, 20, 2, 0, 0, 0, []), (16, 21, 21, 0, 0, 0, []), (2, 24, 0, 2, 0, 0, []), (22, 25, 10, 2, 18, 0, [96]), (2, 28, 3, 0, 0, 0, []), (25, 29, 100, 0, 0, 0, []), (3, 30, 3, 0, 0, 0, []), (4, 31, 4, 0, 0, 1, []), (19, 34, 7, 0, 0, 0, []), (2, 37, 3, 0, 0, 0, []), (2, 38, 2, 0, 0, 0, []), (16, 39, 26, 0, 1, 0, []), (0, 42, 0, 0, 0, 1, []), (19, 43, 27, 0, 0, 0, []), (0, 46, 0, 0, 0, 0, []), (34, 47, 0, 0, 0, 0, [])]
noncomputable def i_Trade_isInRing : MI := (⟨"TakenInTurns$Trade", "isInRing", "(LTakenInTurns$Giving;I)Z"⟩, prog_12_method_6_code, 5, Option.some Jvm.ClassFile.FieldType.boolean, 10, 2, t_Trade_isInRing)
set_option maxRecDepth 100000 in
noncomputable def t_Trade_takeRest : List AI := [(0, 0, 0, 0, 0, 0, []), (3, 1, 2, 0, 0, 0, []), (2, 2, 2, 0, 0, 0, []), (2, 3, 1, 2, 0, 0, []), (22, 4, 3, 1, 25, 0, [98]), (16, 7, 23, 0, 3, 0, []), (2, 10, 0, 2, 0, 0, []), (22, 11, 10, 1, 15, 0, [95]), (2, 14, 2, 0, 0, 0, []), (25, 15, 100, 0, 0, 0, []), (15, 16, 21, 0, 3, 0, []), (2, 19, 0, 2, 0, 0, []), (22, 20, 10, 1, 15, 0, [95]), (2, 23, 2, 0, 0, 0, []), (2, 24, 1, 2, 0, 0, []), (2, 25, 2, 0, 0, 0, []), (2, 26, 0, 2, 0, 0, []), (2, 27, 1, 2, 0, 0, []), (31, 28, 84, 10, 63, 1, [62, 39]), (31, 31, 26, 3, 51, 2, [59, 5]), (26, 34, 100, 0, 0, 0, []), (4, 35, 2, 0, 0, 1, []), (19, 38, 2, 0, 0, 0, []), (34, 41, 0, 0, 0, 0, [])]
noncomputable def i_Trade_takeRest : MI := (⟨"TakenInTurns$Trade", "takeRest", "(LTakenInTurns$Giving;)V"⟩, prog_12_method_7_code, 3, none, 10, 1, t_Trade_takeRest)
set_option maxRecDepth 100000 in
noncomputable def t_Trade_leftOf : List AI := [(0, 0, 0, 0, 0, 0, []), (3, 1, 2, 0, 0, 0, []), (0, 2, 0, 0, 0, 0, []), (3, 3, 3, 0, 0, 0, []), (2, 4, 3, 0, 0, 0, []), (2, 5, 1, 2, 0, 0, []), (22, 6, 3, 0, 67, 0, [101]), (16, 9, 44, 0, 3, 0, []), (0, 12, 0, 0, 0, 0, []), (3, 13, 4, 0, 1, 0, []), (0, 15, 0, 0, 0, 0, []), (3, 16, 5, 0, 1, 0, []), (2, 18, 5, 0, 1, 0, []), (2, 20, 1, 2, 0, 0, []), (22, 21, 3, 1, 25, 0, [98]), (16, 24, 30, 0, 3, 0, []), (2, 27, 4, 0, 1, 0, []), (2, 29, 0, 2, 0, 0, []), (22, 30, 10, 1, 15, 0, [95]), (2, 33, 5, 0, 1, 0, []), (25, 35, 100, 0, 0, 0, []), (2, 36, 3, 0, 0, 0, []), (16, 37, 25, 0, 1, 0, []), (0, 40, 0, 0, 0, 1, []), (19, 41, 26, 0, 0, 0, []), (0, 44, 0, 0, 0, 0, []), (5, 45, 0, 0, 0, 0, []), (3, 46, 4, 0, 1, 0, []), (4, 48, 5, 0, 0, 1, []), (19, 51, 12, 0, 0, 0, []), (2, 54, 4, 0, 1, 0, []), (2, 56, 1, 2, 0, 0, []), (22, 57, 3, 3, 70, 0, [102]), (2, 60, 3, 0, 0, 0, []), (25, 61, 100, 0, 0, 0, []), (16, 62, 42, 0, 3, 0, []), (2, 65, 2, 0, 0, 0, []), (0, 66, 0, 0, 0, 1, []), (2, 67, 3, 0, 0, 0, []), (5, 68, 0, 0, 6, 0, []), (5, 69, 0, 0, 4, 0, []), (3, 70, 2, 0, 0, 0, []), (4, 71, 3, 0, 0, 1, []), (19, 74, 4, 0, 0, 0, []), (2, 77, 2, 0, 0, 0, []), (34, 78, 0, 0, 0, 0, [])]
noncomputable def i_Trade_leftOf : MI := (⟨"TakenInTurns$Trade", "leftOf", "(LTakenInTurns$Giving;)I"⟩, prog_12_method_8_code, 6, Option.some Jvm.ClassFile.FieldType.int, 10, 1, t_Trade_leftOf)
set_option maxRecDepth 100000 in
noncomputable def t_X_init : List AI := [(2, 0, 0, 2, 0, 0, []), (41, 1, 0, 0, 3, 0, [14]), (2, 4, 0, 2, 0, 0, []), (37, 5, 9, 0, 9, 0, [6]), (28, 8, 0, 0, 0, 0, []), (33, 9, 68, 1, 11, 0, [6, 1]), (23, 12, 11, 0, 12, 0, [103]), (2, 15, 0, 2, 0, 0, []), (0, 16, 0, 0, 0, 5, []), (39, 17, 103, 0, 16, 0, [7]), (23, 20, 11, 1, 18, 0, [104]), (0, 23, 0, 0, 0, 0, []), (3, 24, 1, 0, 0, 0, []), (2, 25, 1, 0, 0, 0, []), (0, 26, 0, 0, 0, 5, []), (16, 27, 25, 0, 3, 0, []), (2, 30, 0, 2, 0, 0, []), (22, 31, 11, 1, 18, 0, [104]), (2, 34, 1, 0, 0, 0, []), (37, 35, 3, 0, 16, 0, [8]), (28, 38, 0, 0, 0, 0, []), (33, 39, 17, 0, 22, 0, [63, 2]), (26, 42, 103, 0, 0, 0, []), (4, 43, 1, 0, 0, 1, []), (19, 46, 13, 0, 0, 0, []), (2, 49, 0, 2, 0, 0, []), (37, 50, 3, 0, 16, 0, [8]), (28, 53, 0, 0, 0, 0, []), (33, 54, 17, 0, 22, 0, [63, 2]), (23, 57, 11, 3, 23, 0, [105]), (2, 60, 0, 2, 0, 0, []), (0, 61, 0, 0, 1, 15, []), (38, 63, 100, 0, 0, 0, []), (23, 65, 11, 4, 27, 0, [106]), (2, 68, 0, 2, 0, 0, []), (37, 69, 4, 0, 31, 0, [9]), (28, 72, 0, 0, 0, 0, []), (33, 73, 32, 1, 33, 0, [7, 3]), (23, 76, 11, 6, 34, 0, [107]), (2, 79, 0, 2, 0, 0, []), (37, 80, 6, 0, 38, 0, [10]), (28, 83, 0, 0, 0, 0, []), (33, 84, 46, 1, 40, 0, [8, 4]), (23, 87, 11, 8, 41, 0, [108]), (2, 90, 0, 2, 0, 0, []), (37, 91, 4, 0, 31, 0, [9]), (28, 94, 0, 0, 0, 0, []), (33, 95, 32, 1, 33, 0, [7, 3]), (23, 98, 11, 9, 45, 0, [109]), (2, 101, 0, 2, 0, 0, []), (0, 102, 0, 0, 1, 7, []), (38, 104, 100, 0, 0, 0, []), (23, 106, 11, 10, 48, 0, [110]), (2, 109, 0, 2, 0, 0, []), (0, 110, 0, 0, 1, 8, []), (38, 112, 100, 0, 0, 0, []), (23, 114, 11, 11, 51, 0, [111]), (2, 117, 0, 2, 0, 0, []), (0, 118, 0, 0, 1, 7, []), (38, 120, 101, 0, 0, 0, []), (23, 122, 11, 12, 54, 0, [112]), (2, 125, 0, 2, 0, 0, []), (37, 126, 1, 0, 58, 0, [11]), (28, 129, 0, 0, 0, 0, []), (33, 130, 5, 1, 60, 0, [9, 5]), (23, 133, 11, 13, 61, 0, [113]), (2, 136, 0, 2, 0, 0, []), (37, 137, 10, 0, 65, 0, [12]), (28, 140, 0, 0, 0, 0, []), (33, 141, 77, 1, 67, 0, [10, 6]), (23, 144, 11, 14, 68, 0, [114]), (2, 147, 0, 2, 0, 0, []), (37, 148, 5, 0, 72, 0, [13]), (28, 151, 0, 0, 0, 0, []), (33, 152, 38, 1, 74, 0, [11, 7]), (23, 155, 11, 15, 75, 0, [115]), (2, 158, 0, 2, 0, 0, []), (37, 159, 2, 0, 79, 0, [14]), (28, 162, 0, 0, 0, 0, []), (33, 163, 11, 1, 81, 0, [12, 8]), (23, 166, 11, 16, 82, 0, [116]), (2, 169, 0, 2, 0, 0, []), (37, 170, 0, 0, 86, 0, [15]), (28, 173, 0, 0, 0, 0, []), (33, 174, 0, 1, 88, 0, [13, 9]), (23, 177, 11, 17, 89, 0, [117]), (2, 180, 0, 2, 0, 0, []), (0, 181, 0, 0, 1, 6, []), (39, 183, 104, 0, 93, 0, [16]), (23, 186, 11, 18, 95, 0, [118]), (0, 189, 0, 0, 0, 0, []), (3, 190, 1, 0, 0, 0, []), (2, 191, 1, 0, 0, 0, []), (0, 192, 0, 0, 1, 6, []), (16, 194, 104, 0, 3, 0, []), (2, 197, 0, 2, 0, 0, []), (22, 198, 11, 18, 95, 0, [118]), (2, 201, 1, 0, 0, 0, []), (37, 202, 8, 0, 93, 0, [17]), (28, 205, 0, 0, 0, 0, []), (33, 206, 63, 1, 99, 0, [14, 10]), (26, 209, 104, 0, 0, 0, []), (4, 210, 1, 0, 0, 1, []), (19, 213, 92, 0, 0, 0, []), (34, 216, 0, 0, 0, 0, [])]
noncomputable def i_X_init : MI := (⟨"TakenInTurns", "<init>", "()V"⟩, prog_1_method_1_code, 2, none, 11, 0, t_X_init)
set_option maxRecDepth 100000 in
noncomputable def t_X_feed : List AI := [(2, 0, 1, 0, 0, 0, []), (0, 1, 0, 0, 0, 1, []), (16, 2, 6, 0, 2, 0, []), (2, 5, 1, 0, 0, 0, []), (0, 6, 0, 0, 0, 4, []), (16, 7, 8, 0, 5, 0, []), (0, 10, 0, 0, 0, (-1), []), (34, 11, 0, 0, 0, 0, []), (2, 12, 0, 2, 0, 0, []), (22, 13, 11, 0, 12, 0, [103]), (22, 16, 9, 1, 100, 0, [119]), (2, 19, 1, 0, 0, 0, []), (5, 20, 0, 0, 0, 0, []), (0, 21, 0, 0, 1, 120, []), (16, 23, 17, 0, 5, 0, []), (0, 26, 0, 0, 1, (-3), []), (34, 28, 0, 0, 0, 0, []), (0, 29, 0, 0, 0, 0, []), (3, 30, 3, 0, 0, 0, []), (2, 31, 3, 0, 0, 0, []), (2, 32, 1, 0, 0, 0, []), (16, 33, 34, 0, 3, 0, []), (2, 36, 0, 2, 0, 0, []), (22, 37, 11, 0, 12, 0, [103]), (2, 40, 2, 0, 0, 0, []), (0, 41, 0, 0, 1, 8, []), (2, 43, 3, 0, 0, 0, []), (5, 44, 0, 0, 2, 0, []), (5, 45, 0, 0, 8, 0, []), (0, 46, 0, 0, 2, 255, []), (5, 49, 0, 0, 3, 0, []), (31, 50, 69, 9, 104, 1, [64, 40]), (4, 53, 3, 0, 0, 1, []), (19, 56, 19, 0, 0, 0, []), (2, 59, 0, 2, 0, 0, []), (22, 60, 11, 0, 12, 0, [103]), (22, 63, 9, 1, 100, 0, [119]), (34, 66, 0, 0, 0, 0, [])]
noncomputable def i_X_feed : MI := (⟨"TakenInTurns", "feed", "(II)I"⟩, prog_1_method_2_code, 4, Option.some Jvm.ClassFile.FieldType.int, 11, 2, t_X_feed)
set_option maxRecDepth 100000 in
noncomputable def t_X_giving : List AI := [(2, 0, 0, 2, 0, 0, []), (22, 1, 11, 2, 108, 0, [120]), (0, 4, 0, 0, 0, 5, []), (16, 5, 6, 0, 2, 0, []), (0, 8, 0, 0, 1, (-3), []), (34, 10, 0, 0, 0, 0, []), (2, 11, 0, 2, 0, 0, []), (22, 12, 11, 0, 12, 0, [103]), (2, 15, 0, 2, 0, 0, []), (22, 16, 11, 1, 18, 0, [104]), (2, 19, 0, 2, 0, 0, []), (22, 20, 11, 2, 108, 0, [120]), (25, 23, 103, 0, 0, 0, []), (31, 24, 70, 9, 111, 1, [65, 41]), (3, 27, 1, 0, 0, 0, []), (2, 28, 0, 2, 0, 0, []), (22, 29, 11, 0, 12, 0, [103]), (0, 32, 0, 0, 0, 0, []), (23, 33, 9, 1, 100, 0, [119]), (2, 36, 1, 0, 0, 0, []), (15, 37, 27, 0, 1, 0, []), (0, 40, 0, 0, 1, (-100), []), (2, 42, 0, 2, 0, 0, []), (22, 43, 11, 0, 12, 0, [103]), (22, 46, 9, 2, 115, 0, [121]), (5, 49, 0, 0, 1, 0, []), (34, 50, 0, 0, 0, 0, []), (2, 51, 0, 2, 0, 0, []), (28, 52, 0, 0, 0, 0, []), (22, 53, 11, 2, 108, 0, [120]), (0, 56, 0, 0, 0, 1, []), (5, 57, 0, 0, 0, 0, []), (23, 58, 11, 2, 108, 0, [120]), (2, 61, 0, 2, 0, 0, []), (22, 62, 11, 2, 108, 0, [120]), (0, 65, 0, 0, 0, 1, []), (5, 66, 0, 0, 1, 0, []), (34, 67, 0, 0, 0, 0, [])]
noncomputable def i_X_giving : MI := (⟨"TakenInTurns", "giving", "()I"⟩, prog_1_method_3_code, 2, Option.some Jvm.ClassFile.FieldType.int, 11, 0, t_X_giving)
set_option maxRecDepth 100000 in
noncomputable def t_X_of : List AI := [(2, 0, 0, 2, 0, 0, []), (2, 1, 1, 0, 0, 0, []), (31, 2, 125, 11, 118, 1, [66, 42]), (15, 5, 6, 0, 1, 0, []), (0, 8, 122, 0, 3, (-2000000000), [3]), (34, 10, 0, 0, 0, 0, []), (2, 11, 0, 2, 0, 0, []), (22, 12, 11, 1, 18, 0, [104]), (2, 15, 1, 0, 0, 0, []), (25, 16, 103, 0, 0, 0, []), (3, 17, 3, 2, 0, 0, []), (2, 18, 2, 0, 0, 0, []), (0, 19, 0, 0, 1, 20, []), (16, 21, 29, 0, 2, 0, []), (2, 24, 3, 2, 0, 0, []), (2, 25, 2, 0, 0, 0, []), (0, 26, 0, 0, 1, 20, []), (5, 28, 0, 0, 1, 0, []), (32, 29, 126, 0, 123, 2, [67, 14]), (15, 32, 27, 0, 0, 0, []), (2, 35, 3, 2, 0, 0, []), (22, 36, 3, 4, 127, 0, [122]), (2, 39, 2, 0, 0, 0, []), (0, 40, 0, 0, 1, 20, []), (5, 42, 0, 0, 1, 0, []), (25, 43, 100, 0, 0, 0, []), (19, 44, 28, 0, 0, 0, []), (0, 47, 122, 0, 3, (-2000000000), [3]), (34, 49, 0, 0, 0, 0, []), (2, 50, 2, 0, 0, 0, []), (0, 51, 0, 0, 1, 10, []), (16, 53, 47, 0, 2, 0, []), (2, 56, 3, 2, 0, 0, []), (2, 57, 2, 0, 0, 0, []), (0, 58, 0, 0, 1, 10, []), (5, 60, 0, 0, 1, 0, []), (32, 61, 127, 0, 130, 2, [68, 13]), (15, 64, 45, 0, 0, 0, []), (2, 67, 3, 2, 0, 0, []), (22, 68, 3, 3, 133, 0, [123]), (2, 71, 2, 0, 0, 0, []), (0, 72, 0, 0, 1, 10, []), (5, 74, 0, 0, 1, 0, []), (25, 75, 100, 0, 0, 0, []), (19, 76, 46, 0, 0, 0, []), (0, 79, 122, 0, 3, (-2000000000), [3]), (34, 81, 0, 0, 0, 0, []), (2, 82, 2, 0, 0, 0, []), (20, 83, 58, 25, 0, 0, [49, 52, 55]), (2, 108, 3, 2, 0, 0, []), (22, 109, 3, 1, 136, 0, [124]), (34, 112, 0, 0, 0, 0, []), (2, 113, 3, 2, 0, 0, []), (22, 114, 3, 0, 139, 0, [125]), (34, 117, 0, 0, 0, 0, []), (2, 118, 3, 2, 0, 0, []), (22, 119, 3, 2, 142, 0, [126]), (34, 122, 0, 0, 0, 0, []), (0, 123, 122, 0, 3, (-2000000000), [3]), (34, 125, 0, 0, 0, 0, [])]
noncomputable def i_X_of : MI := (⟨"TakenInTurns", "of", "(II)I"⟩, prog_1_method_4_code, 4, Option.some Jvm.ClassFile.FieldType.int, 11, 2, t_X_of)
set_option maxRecDepth 100000 in
noncomputable def t_X_rounds : List AI := [(2, 0, 0, 2, 0, 0, []), (2, 1, 1, 0, 0, 0, []), (31, 2, 125, 11, 118, 1, [66, 42]), (15, 5, 10, 0, 0, 0, []), (2, 8, 2, 0, 0, 0, []), (0, 9, 0, 0, 0, 1, []), (16, 10, 10, 0, 2, 0, []), (2, 13, 2, 0, 0, 0, []), (0, 14, 0, 0, 0, 3, []), (16, 15, 12, 0, 5, 0, []), (0, 18, 0, 0, 0, (-1), []), (34, 19, 0, 0, 0, 0, []), (2, 20, 0, 2, 0, 0, []), (22, 21, 11, 1, 18, 0, [104]), (2, 24, 1, 0, 0, 0, []), (25, 25, 103, 0, 0, 0, []), (3, 26, 3, 2, 0, 0, []), (2, 27, 3, 2, 0, 0, []), (22, 28, 3, 2, 142, 0, [126]), (3, 31, 4, 0, 1, 0, []), (2, 33, 2, 0, 0, 0, []), (2, 34, 4, 0, 1, 0, []), (16, 36, 28, 0, 0, 0, []), (2, 39, 3, 2, 0, 0, []), (2, 40, 2, 0, 0, 0, []), (23, 41, 3, 2, 142, 0, [126]), (2, 44, 3, 2, 0, 0, []), (31, 45, 21, 3, 145, 0, [69, 8]), (2, 48, 4, 0, 1, 0, []), (34, 50, 0, 0, 0, 0, [])]
noncomputable def i_X_rounds : MI := (⟨"TakenInTurns", "rounds", "(II)I"⟩, prog_1_method_5_code, 5, Option.some Jvm.ClassFile.FieldType.int, 11, 2, t_X_rounds)
set_option maxRecDepth 100000 in
noncomputable def t_X_level : List AI := [(2, 0, 0, 2, 0, 0, []), (2, 1, 1, 0, 0, 0, []), (31, 2, 125, 11, 118, 1, [66, 42]), (15, 5, 18, 0, 0, 0, []), (2, 8, 0, 2, 0, 0, []), (22, 9, 11, 1, 18, 0, [104]), (2, 12, 1, 0, 0, 0, []), (25, 13, 103, 0, 0, 0, []), (2, 14, 2, 0, 0, 0, []), (32, 15, 126, 0, 123, 2, [67, 14]), (15, 18, 18, 0, 0, 0, []), (2, 21, 0, 2, 0, 0, []), (22, 22, 11, 1, 18, 0, [104]), (2, 25, 1, 0, 0, 0, []), (25, 26, 103, 0, 0, 0, []), (2, 27, 3, 0, 0, 0, []), (32, 28, 127, 0, 130, 2, [68, 13]), (15, 31, 20, 0, 1, 0, []), (0, 34, 122, 0, 3, (-2000000000), [3]), (34, 36, 0, 0, 0, 0, []), (2, 37, 0, 2, 0, 0, []), (22, 38, 11, 1, 18, 0, [104]), (2, 41, 1, 0, 0, 0, []), (25, 42, 103, 0, 0, 0, []), (22, 43, 3, 7, 148, 0, [127]), (2, 46, 2, 0, 0, 0, []), (25, 47, 106, 0, 0, 0, []), (2, 48, 3, 0, 0, 0, []), (25, 49, 100, 0, 0, 0, []), (34, 50, 0, 0, 0, 0, [])]
noncomputable def i_X_level : MI := (⟨"TakenInTurns", "level", "(III)I"⟩, prog_1_method_6_code, 4, Option.some Jvm.ClassFile.FieldType.int, 11, 3, t_X_level)
set_option maxRecDepth 100000 in
noncomputable def t_X_listed : List AI := [(2, 0, 0, 2, 0, 0, []), (2, 1, 1, 0, 0, 0, []), (31, 2, 125, 11, 118, 1, [66, 42]), (15, 5, 11, 0, 0, 0, []), (2, 8, 0, 2, 0, 0, []), (22, 9, 11, 1, 18, 0, [104]), (2, 12, 1, 0, 0, 0, []), (25, 13, 103, 0, 0, 0, []), (2, 14, 2, 0, 0, 0, []), (32, 15, 126, 0, 123, 2, [67, 14]), (15, 18, 13, 0, 1, 0, []), (0, 21, 0, 0, 0, (-1), []), (34, 22, 0, 0, 0, 0, []), (2, 23, 0, 2, 0, 0, []), (22, 24, 11, 1, 18, 0, [104]), (2, 27, 1, 0, 0, 0, []), (25, 28, 103, 0, 0, 0, []), (3, 29, 4, 2, 1, 0, []), (2, 31, 3, 0, 0, 0, []), (0, 32, 0, 0, 0, (-1), []), (16, 33, 26, 0, 1, 0, []), (2, 36, 4, 2, 1, 0, []), (22, 38, 3, 5, 152, 0, [128]), (2, 41, 2, 0, 0, 0, []), (25, 42, 100, 0, 0, 0, []), (34, 43, 0, 0, 0, 0, []), (2, 44, 3, 0, 0, 0, []), (15, 45, 41, 0, 2, 0, []), (2, 48, 3, 0, 0, 0, []), (2, 49, 4, 2, 1, 0, []), (22, 51, 3, 5, 152, 0, [128]), (2, 54, 2, 0, 0, 0, []), (25, 55, 100, 0, 0, 0, []), (16, 56, 41, 0, 3, 0, []), (2, 59, 4, 2, 1, 0, []), (22, 61, 3, 6, 155, 0, [129]), (2, 64, 2, 0, 0, 0, []), (25, 65, 106, 0, 0, 0, []), (2, 66, 3, 0, 0, 0, []), (25, 67, 100, 0, 0, 0, []), (19, 68, 42, 0, 0, 0, []), (0, 71, 0, 0, 0, (-1), []), (34, 72, 0, 0, 0, 0, [])]
noncomputable def i_X_listed : MI := (⟨"TakenInTurns", "listed", "(III)I"⟩, prog_1_method_7_code, 5, Option.some Jvm.ClassFile.FieldType.int, 11, 3, t_X_listed)
set_option maxRecDepth 100000 in
noncomputable def t_X_takes : List AI := [(2, 0, 0, 2, 0, 0, []), (2, 1, 1, 0, 0, 0, []), (31, 2, 125, 11, 118, 1, [66, 42]), (15, 5, 11, 0, 0, 0, []), (2, 8, 0, 2, 0, 0, []), (22, 9, 11, 1, 18, 0, [104]), (2, 12, 1, 0, 0, 0, []), (25, 13, 103, 0, 0, 0, []), (2, 14, 2, 0, 0, 0, []), (32, 15, 126, 0, 123, 2, [67, 14]), (15, 18, 13, 0, 1, 0, []), (0, 21, 0, 0, 0, (-1), []), (34, 22, 0, 0, 0, 0, []), (2, 23, 0, 2, 0, 0, []), (22, 24, 11, 1, 18, 0, [104]), (2, 27, 1, 0, 0, 0, []), (25, 28, 103, 0, 0, 0, []), (3, 29, 4, 2, 1, 0, []), (2, 31, 3, 0, 0, 0, []), (15, 32, 26, 0, 2, 0, []), (2, 35, 3, 0, 0, 0, []), (0, 36, 0, 0, 0, 1, []), (2, 37, 4, 2, 1, 0, []), (22, 39, 3, 0, 139, 0, [125]), (5, 42, 0, 0, 6, 0, []), (16, 43, 28, 0, 2, 0, []), (0, 46, 0, 0, 0, (-1), []), (34, 47, 0, 0, 0, 0, []), (2, 48, 4, 2, 1, 0, []), (2, 50, 2, 0, 0, 0, []), (2, 51, 3, 0, 0, 0, []), (31, 52, 26, 3, 158, 2, [70, 5]), (3, 55, 5, 0, 1, 0, []), (2, 57, 5, 0, 1, 0, []), (15, 59, 37, 0, 3, 0, []), (0, 62, 0, 0, 1, (-2), []), (19, 64, 38, 0, 0, 0, []), (2, 67, 5, 0, 1, 0, []), (34, 69, 0, 0, 0, 0, [])]
noncomputable def i_X_takes : MI := (⟨"TakenInTurns", "takes", "(III)I"⟩, prog_1_method_8_code, 6, Option.some Jvm.ClassFile.FieldType.int, 11, 3, t_X_takes)
set_option maxRecDepth 100000 in
noncomputable def t_X_instead : List AI := [(2, 0, 0, 2, 0, 0, []), (2, 1, 1, 0, 0, 0, []), (31, 2, 125, 11, 118, 1, [66, 42]), (15, 5, 11, 0, 0, 0, []), (2, 8, 0, 2, 0, 0, []), (22, 9, 11, 1, 18, 0, [104]), (2, 12, 1, 0, 0, 0, []), (25, 13, 103, 0, 0, 0, []), (2, 14, 2, 0, 0, 0, []), (32, 15, 126, 0, 123, 2, [67, 14]), (15, 18, 13, 0, 1, 0, []), (0, 21, 0, 0, 0, (-1), []), (34, 22, 0, 0, 0, 0, []), (2, 23, 0, 2, 0, 0, []), (22, 24, 11, 2, 108, 0, [120]), (0, 27, 0, 0, 0, 5, []), (16, 28, 19, 0, 2, 0, []), (0, 31, 0, 0, 1, (-3), []), (34, 33, 0, 0, 0, 0, []), (2, 34, 0, 2, 0, 0, []), (22, 35, 11, 1, 18, 0, [104]), (2, 38, 0, 2, 0, 0, []), (22, 39, 11, 2, 108, 0, [120]), (25, 42, 103, 0, 0, 0, []), (3, 43, 3, 2, 0, 0, []), (2, 44, 3, 2, 0, 0, []), (2, 45, 0, 2, 0, 0, []), (22, 46, 11, 1, 18, 0, [104]), (2, 49, 1, 0, 0, 0, []), (25, 50, 103, 0, 0, 0, []), (31, 51, 20, 3, 162, 1, [71, 43]), (2, 54, 0, 2, 0, 0, []), (22, 55, 11, 0, 12, 0, [103]), (2, 58, 3, 2, 0, 0, []), (2, 59, 2, 0, 0, 0, []), (31, 60, 71, 9, 166, 2, [72, 44]), (3, 63, 4, 0, 1, 0, []), (2, 65, 0, 2, 0, 0, []), (22, 66, 11, 0, 12, 0, [103]), (0, 69, 0, 0, 0, 0, []), (23, 70, 9, 1, 100, 0, [119]), (2, 73, 4, 0, 1, 0, []), (15, 75, 49, 0, 1, 0, []), (0, 78, 0, 0, 1, (-100), []), (2, 80, 0, 2, 0, 0, []), (22, 81, 11, 0, 12, 0, [103]), (22, 84, 9, 2, 115, 0, [121]), (5, 87, 0, 0, 1, 0, []), (34, 88, 0, 0, 0, 0, []), (2, 89, 0, 2, 0, 0, []), (28, 90, 0, 0, 0, 0, []), (22, 91, 11, 2, 108, 0, [120]), (0, 94, 0, 0, 0, 1, []), (5, 95, 0, 0, 0, 0, []), (23, 96, 11, 2, 108, 0, [120]), (2, 99, 0, 2, 0, 0, []), (22, 100, 11, 2, 108, 0, [120]), (0, 103, 0, 0, 0, 1, []), (5, 104, 0, 0, 1, 0, []), (34, 105, 0, 0, 0, 0, [])]
noncomputable def i_X_instead : MI := (⟨"TakenInTurns", "instead", "(II)I"⟩, prog_1_method_9_code, 5, Option.some Jvm.ClassFile.FieldType.int, 11, 2, t_X_instead)
set_option maxRecDepth 100000 in
noncomputable def t_X_run : List AI := [(2, 0, 0, 2, 0, 0, []), (2, 1, 2, 0, 0, 0, []), (31, 2, 131, 11, 169, 1, [73, 45]), (3, 5, 4, 0, 1, 0, []), (2, 7, 0, 2, 0, 0, []), (2, 8, 1, 0, 0, 0, []), (31, 9, 125, 11, 118, 1, [66, 42]), (15, 12, 14, 0, 0, 0, []), (2, 15, 4, 0, 1, 0, []), (0, 17, 0, 0, 0, 1, []), (16, 18, 16, 0, 0, 0, []), (2, 21, 4, 0, 1, 0, []), (0, 23, 0, 0, 0, 2, []), (16, 24, 16, 0, 0, 0, []), (0, 27, 0, 0, 0, (-1), []), (34, 28, 0, 0, 0, 0, []), (2, 29, 0, 2, 0, 0, []), (22, 30, 11, 1, 18, 0, [104]), (2, 33, 1, 0, 0, 0, []), (25, 34, 103, 0, 0, 0, []), (3, 35, 5, 2, 1, 0, []), (2, 37, 3, 0, 0, 0, []), (2, 38, 5, 2, 1, 0, []), (22, 40, 3, 1, 136, 0, [124]), (0, 43, 0, 0, 0, 0, []), (2, 44, 0, 2, 0, 0, []), (22, 45, 11, 10, 48, 0, [110]), (32, 48, 141, 0, 173, 4, [74, 15]), (15, 51, 31, 0, 1, 0, []), (0, 54, 0, 0, 0, (-1), []), (34, 55, 0, 0, 0, 0, []), (2, 56, 0, 2, 0, 0, []), (22, 57, 11, 6, 34, 0, [107]), (2, 60, 5, 2, 1, 0, []), (2, 62, 0, 2, 0, 0, []), (22, 63, 11, 10, 48, 0, [110]), (2, 66, 4, 0, 1, 0, []), (0, 68, 0, 0, 0, 2, []), (16, 69, 41, 0, 1, 0, []), (0, 72, 0, 0, 0, 1, []), (19, 73, 42, 0, 0, 0, []), (0, 76, 0, 0, 0, 0, []), (31, 77, 33, 4, 177, 3, [75, 23]), (2, 80, 0, 2, 0, 0, []), (2, 81, 5, 2, 1, 0, []), (23, 83, 11, 7, 181, 0, [130]), (2, 86, 0, 2, 0, 0, []), (22, 87, 11, 8, 41, 0, [108]), (31, 90, 47, 6, 184, 0, [76, 46]), (0, 93, 0, 0, 0, 1, []), (34, 94, 0, 0, 0, 0, [])]
noncomputable def i_X_run : MI := (⟨"TakenInTurns", "run", "(III)I"⟩, prog_1_method_10_code, 6, Option.some Jvm.ClassFile.FieldType.int, 11, 3, t_X_run)
set_option maxRecDepth 100000 in
noncomputable def t_X_has : List AI := [(2, 0, 0, 2, 0, 0, []), (22, 1, 11, 7, 181, 0, [130]), (17, 4, 13, 0, 0, 0, []), (2, 7, 0, 2, 0, 0, []), (22, 8, 11, 7, 181, 0, [130]), (2, 11, 1, 0, 0, 0, []), (32, 12, 126, 0, 123, 2, [67, 14]), (15, 15, 13, 0, 0, 0, []), (2, 18, 0, 2, 0, 0, []), (22, 19, 11, 7, 181, 0, [130]), (2, 22, 2, 0, 0, 0, []), (32, 23, 127, 0, 130, 2, [68, 13]), (15, 26, 15, 0, 1, 0, []), (0, 29, 0, 0, 0, (-1), []), (34, 30, 0, 0, 0, 0, []), (2, 31, 0, 2, 0, 0, []), (22, 32, 11, 6, 34, 0, [107]), (2, 35, 1, 0, 0, 0, []), (2, 36, 2, 0, 0, 0, []), (31, 37, 35, 4, 187, 2, [77, 22]), (34, 40, 0, 0, 0, 0, [])]
noncomputable def i_X_has : MI := (⟨"TakenInTurns", "has", "(II)I"⟩, prog_1_method_11_code, 3, Option.some Jvm.ClassFile.FieldType.int, 11, 2, t_X_has)
set_option maxRecDepth 100000 in
noncomputable def t_X_left : List AI := [(2, 0, 0, 2, 0, 0, []), (22, 1, 11, 7, 181, 0, [130]), (17, 4, 8, 0, 0, 0, []), (2, 7, 0, 2, 0, 0, []), (22, 8, 11, 7, 181, 0, [130]), (2, 11, 1, 0, 0, 0, []), (32, 12, 127, 0, 130, 2, [68, 13]), (15, 15, 10, 0, 1, 0, []), (0, 18, 0, 0, 0, (-1), []), (34, 19, 0, 0, 0, 0, []), (2, 20, 0, 2, 0, 0, []), (22, 21, 11, 6, 34, 0, [107]), (22, 24, 4, 0, 190, 0, [131]), (2, 27, 1, 0, 0, 0, []), (25, 28, 100, 0, 0, 0, []), (34, 29, 0, 0, 0, 0, [])]
noncomputable def i_X_left : MI := (⟨"TakenInTurns", "left", "(I)I"⟩, prog_1_method_12_code, 2, Option.some Jvm.ClassFile.FieldType.int, 11, 1, t_X_left)
set_option maxRecDepth 100000 in
noncomputable def t_X_led : List AI := [(2, 0, 0, 2, 0, 0, []), (22, 1, 11, 7, 181, 0, [130]), (17, 4, 11, 0, 0, 0, []), (2, 7, 0, 2, 0, 0, []), (22, 8, 11, 7, 181, 0, [130]), (2, 11, 1, 0, 0, 0, []), (32, 12, 126, 0, 123, 2, [67, 14]), (15, 15, 11, 0, 0, 0, []), (2, 18, 3, 0, 0, 0, []), (32, 19, 130, 0, 193, 1, [78, 16]), (15, 22, 13, 0, 0, 0, []), (0, 25, 0, 0, 0, (-1), []), (34, 26, 0, 0, 0, 0, []), (2, 27, 2, 0, 0, 0, []), (15, 28, 22, 0, 2, 0, []), (2, 31, 2, 0, 0, 0, []), (2, 32, 0, 2, 0, 0, []), (22, 33, 11, 6, 34, 0, [107]), (22, 36, 4, 1, 196, 0, [132]), (2, 39, 1, 0, 0, 0, []), (25, 40, 100, 0, 0, 0, []), (16, 41, 24, 0, 2, 0, []), (0, 44, 0, 0, 0, (-1), []), (34, 45, 0, 0, 0, 0, []), (2, 46, 3, 0, 0, 0, []), (15, 47, 34, 0, 1, 0, []), (2, 50, 0, 2, 0, 0, []), (22, 51, 11, 6, 34, 0, [107]), (22, 54, 4, 2, 199, 0, [133]), (2, 57, 1, 0, 0, 0, []), (25, 58, 106, 0, 0, 0, []), (2, 59, 2, 0, 0, 0, []), (25, 60, 100, 0, 0, 0, []), (19, 61, 41, 0, 0, 0, []), (2, 64, 0, 2, 0, 0, []), (22, 65, 11, 6, 34, 0, [107]), (22, 68, 4, 3, 202, 0, [134]), (2, 71, 1, 0, 0, 0, []), (25, 72, 106, 0, 0, 0, []), (2, 73, 2, 0, 0, 0, []), (25, 74, 100, 0, 0, 0, []), (34, 75, 0, 0, 0, 0, [])]
noncomputable def i_X_led : MI := (⟨"TakenInTurns", "led", "(III)I"⟩, prog_1_method_13_code, 4, Option.some Jvm.ClassFile.FieldType.int, 11, 3, t_X_led)
set_option maxRecDepth 100000 in
noncomputable def t_X_ring : List AI := [(2, 0, 0, 2, 0, 0, []), (22, 1, 11, 7, 181, 0, [130]), (17, 4, 6, 0, 0, 0, []), (2, 7, 1, 0, 0, 0, []), (0, 8, 0, 0, 0, (-1), []), (16, 9, 8, 0, 3, 0, []), (0, 12, 0, 0, 0, (-1), []), (34, 13, 0, 0, 0, 0, []), (2, 14, 0, 2, 0, 0, []), (22, 15, 11, 8, 41, 0, [108]), (2, 18, 0, 2, 0, 0, []), (22, 19, 11, 7, 181, 0, [130]), (2, 22, 0, 2, 0, 0, []), (22, 23, 11, 6, 34, 0, [107]), (31, 26, 48, 6, 205, 2, [79, 47]), (2, 29, 1, 0, 0, 0, []), (0, 30, 0, 0, 0, (-1), []), (16, 31, 28, 0, 1, 0, []), (2, 34, 0, 2, 0, 0, []), (22, 35, 11, 8, 41, 0, [108]), (22, 38, 6, 2, 209, 0, [135]), (15, 41, 24, 0, 1, 0, []), (0, 44, 0, 0, 1, (-2), []), (19, 46, 27, 0, 0, 0, []), (2, 49, 0, 2, 0, 0, []), (22, 50, 11, 8, 41, 0, [108]), (22, 53, 6, 2, 209, 0, [135]), (34, 56, 0, 0, 0, 0, []), (2, 57, 1, 0, 0, 0, []), (2, 58, 0, 2, 0, 0, []), (22, 59, 11, 8, 41, 0, [108]), (22, 62, 6, 2, 209, 0, [135]), (16, 65, 47, 0, 3, 0, []), (0, 68, 0, 0, 1, 10, []), (2, 70, 0, 2, 0, 0, []), (22, 71, 11, 8, 41, 0, [108]), (22, 74, 6, 0, 211, 0, [136]), (2, 77, 1, 0, 0, 0, []), (25, 78, 100, 0, 0, 0, []), (5, 79, 0, 0, 2, 0, []), (2, 80, 0, 2, 0, 0, []), (22, 81, 11, 8, 41, 0, [108]), (22, 84, 6, 1, 214, 0, [137]), (2, 87, 1, 0, 0, 0, []), (25, 88, 100, 0, 0, 0, []), (5, 89, 0, 0, 0, 0, []), (19, 90, 48, 0, 0, 0, []), (0, 93, 0, 0, 0, (-1), []), (34, 94, 0, 0, 0, 0, [])]
noncomputable def i_X_ring : MI := (⟨"TakenInTurns", "ring", "(I)I"⟩, prog_1_method_14_code, 2, Option.some Jvm.ClassFile.FieldType.int, 11, 1, t_X_ring)
set_option maxRecDepth 100000 in
noncomputable def t_X_way : List AI := [(2, 0, 1, 0, 0, 0, []), (15, 1, 5, 0, 2, 0, []), (2, 4, 1, 0, 0, 0, []), (0, 5, 0, 0, 1, 7, []), (16, 7, 7, 0, 2, 0, []), (0, 10, 0, 0, 0, (-1), []), (34, 11, 0, 0, 0, 0, []), (2, 12, 0, 2, 0, 0, []), (22, 13, 11, 5, 217, 0, [138]), (0, 16, 0, 0, 1, 15, []), (16, 18, 13, 0, 2, 0, []), (0, 21, 0, 0, 1, (-3), []), (34, 23, 0, 0, 0, 0, []), (2, 24, 0, 2, 0, 0, []), (22, 25, 11, 4, 27, 0, [106]), (2, 28, 0, 2, 0, 0, []), (22, 29, 11, 5, 217, 0, [138]), (2, 32, 1, 0, 0, 0, []), (26, 33, 100, 0, 0, 0, []), (2, 34, 0, 2, 0, 0, []), (28, 35, 0, 0, 0, 0, []), (22, 36, 11, 5, 217, 0, [138]), (0, 39, 0, 0, 0, 1, []), (5, 40, 0, 0, 0, 0, []), (23, 41, 11, 5, 217, 0, [138]), (2, 44, 0, 2, 0, 0, []), (22, 45, 11, 5, 217, 0, [138]), (0, 48, 0, 0, 0, 1, []), (5, 49, 0, 0, 1, 0, []), (34, 50, 0, 0, 0, 0, [])]
noncomputable def i_X_way : MI := (⟨"TakenInTurns", "way", "(I)I"⟩, prog_1_method_15_code, 2, Option.some Jvm.ClassFile.FieldType.int, 11, 1, t_X_way)
set_option maxRecDepth 100000 in
noncomputable def t_X_kindOf : List AI := [(2, 0, 0, 2, 0, 0, []), (2, 1, 1, 0, 0, 0, []), (31, 2, 131, 11, 169, 1, [73, 45]), (34, 5, 0, 0, 0, 0, [])]
noncomputable def i_X_kindOf : MI := (⟨"TakenInTurns", "kindOf", "(I)I"⟩, prog_1_method_16_code, 2, Option.some Jvm.ClassFile.FieldType.int, 11, 1, t_X_kindOf)
set_option maxRecDepth 100000 in
noncomputable def t_X_share : List AI := [(2, 0, 0, 2, 0, 0, []), (2, 1, 2, 0, 0, 0, []), (31, 2, 131, 11, 169, 1, [73, 45]), (3, 5, 5, 0, 1, 0, []), (2, 7, 0, 2, 0, 0, []), (2, 8, 1, 0, 0, 0, []), (31, 9, 125, 11, 118, 1, [66, 42]), (15, 12, 20, 0, 0, 0, []), (2, 15, 5, 0, 1, 0, []), (15, 17, 20, 0, 2, 0, []), (2, 20, 0, 2, 0, 0, []), (22, 21, 11, 1, 18, 0, [104]), (2, 24, 1, 0, 0, 0, []), (25, 25, 103, 0, 0, 0, []), (2, 26, 3, 0, 0, 0, []), (32, 27, 128, 0, 220, 2, [80, 17]), (15, 30, 20, 0, 0, 0, []), (2, 33, 4, 0, 1, 0, []), (32, 35, 130, 0, 193, 1, [78, 16]), (15, 38, 22, 0, 0, 0, []), (1, 41, 223, 0, 1, (-1), [3]), (34, 44, 0, 0, 0, 0, []), (2, 45, 0, 2, 0, 0, []), (2, 46, 0, 2, 0, 0, []), (22, 47, 11, 1, 18, 0, [104]), (2, 50, 1, 0, 0, 0, []), (25, 51, 103, 0, 0, 0, []), (2, 52, 5, 0, 1, 0, []), (31, 54, 136, 11, 225, 2, [81, 48]), (3, 57, 6, 2, 1, 0, []), (2, 59, 6, 2, 1, 0, []), (22, 61, 7, 3, 229, 0, [139]), (15, 64, 35, 0, 0, 0, []), (1, 67, 235, 0, 1, (-4), [4]), (34, 70, 0, 0, 0, 0, []), (2, 71, 6, 2, 1, 0, []), (22, 73, 7, 0, 237, 0, [140]), (2, 76, 3, 0, 0, 0, []), (0, 77, 0, 0, 1, 10, []), (6, 79, 0, 0, 0, 0, []), (0, 80, 0, 0, 1, 8, []), (5, 82, 0, 0, 2, 0, []), (2, 83, 3, 0, 0, 0, []), (0, 84, 0, 0, 1, 10, []), (6, 86, 0, 0, 1, 0, []), (5, 87, 0, 0, 0, 0, []), (25, 88, 101, 0, 0, 0, []), (3, 89, 7, 1, 1, 0, []), (2, 91, 7, 1, 1, 0, []), (2, 93, 6, 2, 1, 0, []), (22, 95, 7, 1, 240, 0, [141]), (32, 98, 146, 0, 244, 2, [82, 2]), (3, 101, 9, 1, 1, 0, []), (2, 103, 4, 0, 1, 0, []), (15, 105, 57, 0, 1, 0, []), (2, 108, 7, 1, 1, 0, []), (19, 110, 59, 0, 0, 0, []), (2, 113, 6, 2, 1, 0, []), (22, 115, 7, 1, 240, 0, [141]), (2, 118, 9, 1, 1, 0, []), (8, 120, 0, 0, 0, 0, []), (34, 121, 0, 0, 0, 0, [])]
noncomputable def i_X_share : MI := (⟨"TakenInTurns", "share", "(IIII)J"⟩, prog_1_method_17_code, 11, Option.some Jvm.ClassFile.FieldType.long, 11, 4, t_X_share)
set_option maxRecDepth 100000 in
noncomputable def t_X_stops : List AI := [(2, 0, 0, 2, 0, 0, []), (2, 1, 1, 0, 0, 0, []), (31, 2, 125, 11, 118, 1, [66, 42]), (15, 5, 6, 0, 1, 0, []), (0, 8, 0, 0, 0, (-1), []), (34, 9, 0, 0, 0, 0, []), (2, 10, 0, 2, 0, 0, []), (2, 11, 0, 2, 0, 0, []), (22, 12, 11, 1, 18, 0, [104]), (2, 15, 1, 0, 0, 0, []), (25, 16, 103, 0, 0, 0, []), (0, 17, 0, 0, 0, 3, []), (31, 18, 136, 11, 225, 2, [81, 48]), (3, 21, 2, 2, 0, 0, []), (2, 22, 2, 2, 0, 0, []), (22, 23, 7, 3, 229, 0, [139]), (15, 26, 19, 0, 0, 0, []), (0, 29, 0, 0, 1, (-4), []), (19, 31, 21, 0, 0, 0, []), (2, 34, 2, 2, 0, 0, []), (22, 35, 7, 4, 248, 0, [142]), (34, 38, 0, 0, 0, 0, [])]
noncomputable def i_X_stops : MI := (⟨"TakenInTurns", "stops", "(I)I"⟩, prog_1_method_18_code, 3, Option.some Jvm.ClassFile.FieldType.int, 11, 1, t_X_stops)
set_option maxRecDepth 100000 in
noncomputable def t_X_rather : List AI := [(2, 0, 0, 2, 0, 0, []), (2, 1, 3, 0, 0, 0, []), (31, 2, 131, 11, 169, 1, [73, 45]), (3, 5, 5, 0, 1, 0, []), (2, 7, 0, 2, 0, 0, []), (2, 8, 4, 0, 1, 0, []), (31, 10, 131, 11, 169, 1, [73, 45]), (3, 13, 6, 0, 1, 0, []), (2, 15, 0, 2, 0, 0, []), (2, 16, 1, 0, 0, 0, []), (31, 17, 125, 11, 118, 1, [66, 42]), (15, 20, 23, 0, 0, 0, []), (2, 23, 0, 2, 0, 0, []), (22, 24, 11, 1, 18, 0, [104]), (2, 27, 1, 0, 0, 0, []), (25, 28, 103, 0, 0, 0, []), (2, 29, 2, 0, 0, 0, []), (32, 30, 126, 0, 123, 2, [67, 14]), (15, 33, 23, 0, 0, 0, []), (2, 36, 5, 0, 1, 0, []), (15, 38, 23, 0, 2, 0, []), (2, 41, 6, 0, 1, 0, []), (15, 43, 25, 0, 3, 0, []), (0, 46, 122, 0, 3, (-2000000000), [3]), (34, 48, 0, 0, 0, 0, []), (2, 49, 0, 2, 0, 0, []), (22, 50, 11, 1, 18, 0, [104]), (2, 53, 1, 0, 0, 0, []), (25, 54, 103, 0, 0, 0, []), (3, 55, 7, 2, 1, 0, []), (2, 57, 0, 2, 0, 0, []), (2, 58, 7, 2, 1, 0, []), (2, 60, 5, 0, 1, 0, []), (31, 62, 136, 11, 225, 2, [81, 48]), (3, 65, 8, 2, 1, 0, []), (2, 67, 0, 2, 0, 0, []), (2, 68, 7, 2, 1, 0, []), (2, 70, 6, 0, 1, 0, []), (31, 72, 136, 11, 225, 2, [81, 48]), (3, 75, 9, 2, 1, 0, []), (2, 77, 8, 2, 1, 0, []), (22, 79, 7, 3, 229, 0, [139]), (15, 82, 46, 0, 1, 0, []), (2, 85, 9, 2, 1, 0, []), (22, 87, 7, 3, 229, 0, [139]), (15, 90, 48, 0, 0, 0, []), (0, 93, 122, 0, 3, (-2000000000), [3]), (34, 95, 0, 0, 0, 0, []), (2, 96, 7, 2, 1, 0, []), (2, 98, 2, 0, 0, 0, []), (2, 99, 8, 2, 1, 0, []), (2, 101, 2, 0, 0, 0, []), (2, 102, 9, 2, 1, 0, []), (2, 104, 2, 0, 0, 0, []), (32, 105, 138, 0, 251, 6, [83, 18]), (34, 108, 0, 0, 0, 0, [])]
noncomputable def i_X_rather : MI := (⟨"TakenInTurns", "rather", "(IIII)I"⟩, prog_1_method_19_code, 10, Option.some Jvm.ClassFile.FieldType.int, 11, 4, t_X_rather)
set_option maxRecDepth 100000 in
noncomputable def t_X_envy : List AI := [(2, 0, 0, 2, 0, 0, []), (2, 1, 2, 0, 0, 0, []), (31, 2, 131, 11, 169, 1, [73, 45]), (3, 5, 3, 0, 0, 0, []), (2, 6, 0, 2, 0, 0, []), (2, 7, 1, 0, 0, 0, []), (31, 8, 125, 11, 118, 1, [66, 42]), (15, 11, 10, 0, 0, 0, []), (2, 14, 3, 0, 0, 0, []), (15, 15, 12, 0, 3, 0, []), (0, 18, 0, 0, 0, (-1), []), (34, 19, 0, 0, 0, 0, []), (2, 20, 0, 2, 0, 0, []), (22, 21, 11, 1, 18, 0, [104]), (2, 24, 1, 0, 0, 0, []), (25, 25, 103, 0, 0, 0, []), (3, 26, 4, 2, 1, 0, []), (2, 28, 0, 2, 0, 0, []), (2, 29, 4, 2, 1, 0, []), (2, 31, 3, 0, 0, 0, []), (31, 32, 136, 11, 225, 2, [81, 48]), (3, 35, 5, 2, 1, 0, []), (2, 37, 5, 2, 1, 0, []), (22, 39, 7, 3, 229, 0, [139]), (15, 42, 27, 0, 0, 0, []), (0, 45, 0, 0, 1, (-4), []), (34, 47, 0, 0, 0, 0, []), (0, 48, 0, 0, 0, 0, []), (3, 49, 6, 0, 1, 0, []), (2, 51, 6, 0, 1, 0, []), (2, 53, 4, 2, 1, 0, []), (22, 55, 3, 1, 136, 0, [124]), (16, 58, 61, 0, 3, 0, []), (0, 61, 0, 0, 0, 0, []), (3, 62, 7, 0, 1, 0, []), (2, 64, 7, 0, 1, 0, []), (2, 66, 4, 2, 1, 0, []), (22, 68, 3, 1, 136, 0, [124]), (16, 71, 59, 0, 3, 0, []), (2, 74, 7, 0, 1, 0, []), (2, 76, 6, 0, 1, 0, []), (16, 78, 57, 0, 0, 0, []), (2, 81, 4, 2, 1, 0, []), (2, 83, 6, 0, 1, 0, []), (2, 85, 5, 2, 1, 0, []), (2, 87, 7, 0, 1, 0, []), (2, 89, 5, 2, 1, 0, []), (2, 91, 6, 0, 1, 0, []), (32, 93, 138, 0, 251, 6, [83, 18]), (0, 96, 0, 0, 0, 1, []), (16, 97, 57, 0, 1, 0, []), (0, 100, 0, 0, 1, 10, []), (2, 102, 6, 0, 1, 0, []), (5, 104, 0, 0, 2, 0, []), (2, 105, 7, 0, 1, 0, []), (5, 107, 0, 0, 0, 0, []), (34, 108, 0, 0, 0, 0, []), (4, 109, 7, 0, 0, 1, []), (19, 112, 35, 0, 0, 0, []), (4, 115, 6, 0, 0, 1, []), (19, 118, 29, 0, 0, 0, []), (0, 121, 0, 0, 1, (-2), []), (34, 123, 0, 0, 0, 0, [])]
noncomputable def i_X_envy : MI := (⟨"TakenInTurns", "envy", "(II)I"⟩, prog_1_method_20_code, 8, Option.some Jvm.ClassFile.FieldType.int, 11, 2, t_X_envy)
set_option maxRecDepth 100000 in
noncomputable def t_X_wrongly : List AI := [(2, 0, 0, 2, 0, 0, []), (2, 1, 1, 0, 0, 0, []), (31, 2, 125, 11, 118, 1, [66, 42]), (15, 5, 15, 0, 0, 0, []), (2, 8, 0, 2, 0, 0, []), (22, 9, 11, 1, 18, 0, [104]), (2, 12, 1, 0, 0, 0, []), (25, 13, 103, 0, 0, 0, []), (2, 14, 2, 0, 0, 0, []), (32, 15, 126, 0, 123, 2, [67, 14]), (15, 18, 15, 0, 0, 0, []), (2, 21, 0, 2, 0, 0, []), (2, 22, 3, 0, 0, 0, []), (31, 23, 132, 11, 255, 1, [84, 49]), (15, 26, 17, 0, 1, 0, []), (0, 29, 122, 0, 3, (-2000000000), [3]), (34, 31, 0, 0, 0, 0, []), (2, 32, 0, 2, 0, 0, []), (22, 33, 11, 1, 18, 0, [104]), (2, 36, 1, 0, 0, 0, []), (25, 37, 103, 0, 0, 0, []), (3, 38, 5, 2, 1, 0, []), (2, 40, 4, 0, 1, 0, []), (2, 42, 5, 2, 1, 0, []), (22, 44, 3, 5, 152, 0, [128]), (2, 47, 2, 0, 0, 0, []), (25, 48, 100, 0, 0, 0, []), (0, 49, 0, 0, 0, 1, []), (2, 50, 0, 2, 0, 0, []), (22, 51, 11, 11, 51, 0, [111]), (32, 54, 141, 0, 173, 4, [74, 15]), (15, 57, 34, 0, 1, 0, []), (0, 60, 122, 0, 3, (-2000000000), [3]), (34, 62, 0, 0, 0, 0, []), (2, 63, 0, 2, 0, 0, []), (2, 64, 5, 2, 1, 0, []), (2, 66, 2, 0, 0, 0, []), (2, 67, 0, 2, 0, 0, []), (2, 68, 3, 0, 0, 0, []), (31, 69, 131, 11, 169, 1, [73, 45]), (31, 72, 137, 11, 258, 3, [85, 50]), (34, 75, 0, 0, 0, 0, [])]
noncomputable def i_X_wrongly : MI := (⟨"TakenInTurns", "wrongly", "(IIII)I"⟩, prog_1_method_21_code, 6, Option.some Jvm.ClassFile.FieldType.int, 11, 4, t_X_wrongly)
set_option maxRecDepth 100000 in
noncomputable def t_X_gains : List AI := [(2, 0, 0, 2, 0, 0, []), (2, 1, 1, 0, 0, 0, []), (31, 2, 125, 11, 118, 1, [66, 42]), (15, 5, 15, 0, 0, 0, []), (2, 8, 0, 2, 0, 0, []), (22, 9, 11, 1, 18, 0, [104]), (2, 12, 1, 0, 0, 0, []), (25, 13, 103, 0, 0, 0, []), (2, 14, 2, 0, 0, 0, []), (32, 15, 126, 0, 123, 2, [67, 14]), (15, 18, 15, 0, 0, 0, []), (2, 21, 0, 2, 0, 0, []), (2, 22, 3, 0, 0, 0, []), (31, 23, 132, 11, 255, 1, [84, 49]), (15, 26, 17, 0, 1, 0, []), (0, 29, 0, 0, 0, (-1), []), (34, 30, 0, 0, 0, 0, []), (2, 31, 0, 2, 0, 0, []), (22, 32, 11, 1, 18, 0, [104]), (2, 35, 1, 0, 0, 0, []), (25, 36, 103, 0, 0, 0, []), (3, 37, 4, 2, 1, 0, []), (2, 39, 4, 2, 1, 0, []), (22, 41, 3, 5, 152, 0, [128]), (2, 44, 2, 0, 0, 0, []), (25, 45, 100, 0, 0, 0, []), (3, 46, 5, 0, 1, 0, []), (2, 48, 5, 0, 1, 0, []), (0, 50, 0, 0, 0, 5, []), (16, 51, 32, 0, 5, 0, []), (0, 54, 0, 0, 1, (-4), []), (34, 56, 0, 0, 0, 0, []), (2, 57, 0, 2, 0, 0, []), (2, 58, 3, 0, 0, 0, []), (31, 59, 131, 11, 169, 1, [73, 45]), (3, 62, 6, 0, 1, 0, []), (2, 64, 6, 0, 1, 0, []), (0, 66, 0, 0, 0, 1, []), (16, 67, 45, 0, 1, 0, []), (2, 70, 4, 2, 1, 0, []), (22, 72, 3, 2, 142, 0, [126]), (0, 75, 0, 0, 0, 1, []), (16, 76, 45, 0, 1, 0, []), (0, 79, 0, 0, 1, (-2), []), (34, 81, 0, 0, 0, 0, []), (2, 82, 0, 2, 0, 0, []), (22, 83, 11, 11, 51, 0, [111]), (2, 86, 5, 0, 1, 0, []), (32, 88, 143, 0, 262, 2, [86, 11]), (0, 91, 0, 0, 0, 0, []), (3, 92, 7, 0, 1, 0, []), (2, 94, 7, 0, 1, 0, []), (0, 96, 266, 0, 4, 40320, [4]), (16, 99, 83, 0, 3, 0, []), (2, 102, 0, 2, 0, 0, []), (2, 103, 4, 2, 1, 0, []), (2, 105, 2, 0, 0, 0, []), (2, 106, 6, 0, 1, 0, []), (31, 108, 137, 11, 258, 3, [85, 50]), (3, 111, 8, 0, 1, 0, []), (2, 113, 8, 0, 1, 0, []), (0, 115, 122, 0, 3, (-2000000000), [3]), (16, 117, 65, 0, 1, 0, []), (0, 120, 0, 0, 1, (-4), []), (34, 122, 0, 0, 0, 0, []), (2, 123, 8, 0, 1, 0, []), (0, 125, 0, 0, 0, 1, []), (16, 126, 74, 0, 1, 0, []), (2, 129, 0, 2, 0, 0, []), (22, 130, 11, 11, 51, 0, [111]), (2, 133, 5, 0, 1, 0, []), (0, 135, 0, 0, 0, 1, []), (32, 136, 142, 0, 267, 3, [87, 4]), (34, 139, 0, 0, 0, 0, []), (2, 140, 0, 2, 0, 0, []), (22, 141, 11, 11, 51, 0, [111]), (2, 144, 5, 0, 1, 0, []), (32, 146, 144, 0, 271, 2, [88, 12]), (15, 149, 81, 0, 1, 0, []), (0, 152, 0, 0, 1, (-2), []), (34, 154, 0, 0, 0, 0, []), (4, 155, 7, 0, 0, 1, []), (19, 158, 51, 0, 0, 0, []), (0, 161, 0, 0, 1, (-2), []), (34, 163, 0, 0, 0, 0, [])]
noncomputable def i_X_gains : MI := (⟨"TakenInTurns", "gains", "(III)I"⟩, prog_1_method_22_code, 9, Option.some Jvm.ClassFile.FieldType.int, 11, 3, t_X_gains)
set_option maxRecDepth 100000 in
noncomputable def t_X_told : List AI := [(2, 0, 0, 2, 0, 0, []), (2, 1, 1, 0, 0, 0, []), (31, 2, 125, 11, 118, 1, [66, 42]), (15, 5, 16, 0, 0, 0, []), (2, 8, 0, 2, 0, 0, []), (22, 9, 11, 1, 18, 0, [104]), (2, 12, 1, 0, 0, 0, []), (25, 13, 103, 0, 0, 0, []), (2, 14, 2, 0, 0, 0, []), (32, 15, 128, 0, 220, 2, [80, 17]), (15, 18, 16, 0, 0, 0, []), (2, 21, 3, 0, 0, 0, []), (15, 22, 16, 0, 2, 0, []), (2, 25, 3, 0, 0, 0, []), (0, 26, 0, 0, 1, 60, []), (16, 28, 18, 0, 5, 0, []), (0, 31, 0, 0, 0, (-1), []), (34, 32, 0, 0, 0, 0, []), (2, 33, 0, 2, 0, 0, []), (22, 34, 11, 1, 18, 0, [104]), (2, 37, 1, 0, 0, 0, []), (25, 38, 103, 0, 0, 0, []), (3, 39, 4, 2, 1, 0, []), (2, 41, 4, 2, 1, 0, []), (22, 43, 3, 8, 275, 0, [143]), (2, 46, 2, 0, 0, 0, []), (0, 47, 0, 0, 1, 10, []), (6, 49, 0, 0, 0, 0, []), (25, 50, 106, 0, 0, 0, []), (2, 51, 2, 0, 0, 0, []), (0, 52, 0, 0, 1, 10, []), (6, 54, 0, 0, 1, 0, []), (25, 55, 100, 0, 0, 0, []), (3, 56, 5, 0, 1, 0, []), (2, 58, 4, 2, 1, 0, []), (22, 60, 3, 8, 275, 0, [143]), (2, 63, 2, 0, 0, 0, []), (0, 64, 0, 0, 1, 10, []), (6, 66, 0, 0, 0, 0, []), (25, 67, 106, 0, 0, 0, []), (2, 68, 2, 0, 0, 0, []), (0, 69, 0, 0, 1, 10, []), (6, 71, 0, 0, 1, 0, []), (2, 72, 3, 0, 0, 0, []), (26, 73, 100, 0, 0, 0, []), (2, 74, 0, 2, 0, 0, []), (2, 75, 4, 2, 1, 0, []), (31, 77, 135, 11, 278, 1, [89, 51]), (2, 80, 5, 0, 1, 0, []), (34, 82, 0, 0, 0, 0, [])]
noncomputable def i_X_told : MI := (⟨"TakenInTurns", "told", "(III)I"⟩, prog_1_method_23_code, 6, Option.some Jvm.ClassFile.FieldType.int, 11, 3, t_X_told)
set_option maxRecDepth 100000 in
noncomputable def t_X_table : List AI := [(2, 0, 0, 2, 0, 0, []), (2, 1, 1, 0, 0, 0, []), (31, 2, 125, 11, 118, 1, [66, 42]), (15, 5, 7, 0, 0, 0, []), (2, 8, 2, 0, 0, 0, []), (32, 9, 129, 0, 281, 1, [90, 19]), (15, 12, 9, 0, 1, 0, []), (0, 15, 0, 0, 0, (-1), []), (34, 16, 0, 0, 0, 0, []), (2, 17, 0, 2, 0, 0, []), (22, 18, 11, 18, 95, 0, [118]), (2, 21, 2, 0, 0, 0, []), (25, 22, 104, 0, 0, 0, []), (3, 23, 4, 2, 1, 0, []), (2, 25, 4, 2, 1, 0, []), (22, 27, 8, 1, 284, 0, [144]), (15, 30, 19, 0, 1, 0, []), (0, 33, 0, 0, 0, 0, []), (34, 34, 0, 0, 0, 0, []), (2, 35, 4, 2, 1, 0, []), (22, 37, 8, 1, 284, 0, [144]), (0, 40, 0, 0, 0, 2, []), (16, 41, 26, 0, 1, 0, []), (2, 44, 4, 2, 1, 0, []), (22, 46, 8, 3, 287, 0, [145]), (15, 49, 28, 0, 0, 0, []), (0, 52, 0, 0, 1, (-12), []), (34, 54, 0, 0, 0, 0, []), (2, 55, 0, 2, 0, 0, []), (22, 56, 11, 1, 18, 0, [104]), (2, 59, 1, 0, 0, 0, []), (25, 60, 103, 0, 0, 0, []), (3, 61, 5, 2, 1, 0, []), (0, 63, 0, 0, 0, 0, []), (3, 64, 6, 0, 1, 0, []), (0, 66, 0, 0, 0, 0, []), (3, 67, 7, 0, 1, 0, []), (2, 69, 7, 0, 1, 0, []), (2, 71, 5, 2, 1, 0, []), (22, 73, 3, 1, 136, 0, [124]), (2, 76, 5, 2, 1, 0, []), (22, 78, 3, 0, 139, 0, [125]), (5, 81, 0, 0, 2, 0, []), (16, 82, 84, 0, 3, 0, []), (2, 85, 3, 0, 0, 0, []), (11, 86, 0, 0, 0, 0, []), (2, 87, 7, 0, 1, 0, []), (11, 89, 0, 0, 0, 0, []), (7, 90, 0, 0, 0, 0, []), (3, 91, 8, 1, 1, 0, []), (2, 93, 4, 2, 1, 0, []), (2, 95, 8, 1, 1, 0, []), (1, 97, 0, 0, 0, 1, []), (31, 98, 66, 8, 290, 2, [91, 52]), (15, 101, 84, 0, 0, 0, []), (2, 104, 4, 2, 1, 0, []), (22, 106, 8, 0, 294, 0, [146]), (2, 109, 8, 1, 1, 0, []), (12, 111, 0, 0, 0, 0, []), (25, 112, 101, 0, 0, 0, []), (32, 113, 18, 0, 297, 1, [92, 20]), (15, 116, 63, 0, 1, 0, []), (19, 119, 84, 0, 0, 0, []), (2, 122, 5, 2, 1, 0, []), (22, 124, 3, 8, 275, 0, [143]), (2, 127, 7, 0, 1, 0, []), (2, 129, 5, 2, 1, 0, []), (22, 131, 3, 0, 139, 0, [125]), (6, 134, 0, 0, 0, 0, []), (25, 135, 106, 0, 0, 0, []), (2, 136, 7, 0, 1, 0, []), (2, 138, 5, 2, 1, 0, []), (22, 140, 3, 0, 139, 0, [125]), (6, 143, 0, 0, 1, 0, []), (2, 144, 4, 2, 1, 0, []), (22, 146, 8, 0, 294, 0, [146]), (2, 149, 8, 1, 1, 0, []), (12, 151, 0, 0, 0, 0, []), (25, 152, 101, 0, 0, 0, []), (12, 153, 0, 0, 0, 0, []), (26, 154, 100, 0, 0, 0, []), (4, 155, 6, 0, 0, 1, []), (4, 158, 7, 0, 0, 1, []), (19, 161, 37, 0, 0, 0, []), (2, 164, 0, 2, 0, 0, []), (2, 165, 5, 2, 1, 0, []), (31, 167, 135, 11, 278, 1, [89, 51]), (2, 170, 6, 0, 1, 0, []), (34, 172, 0, 0, 0, 0, [])]
noncomputable def i_X_table : MI := (⟨"TakenInTurns", "table", "(III)I"⟩, prog_1_method_24_code, 10, Option.some Jvm.ClassFile.FieldType.int, 11, 3, t_X_table)
set_option maxRecDepth 100000 in
noncomputable def t_X_bars : List AI := [(2, 0, 0, 2, 0, 0, []), (2, 1, 1, 0, 0, 0, []), (31, 2, 125, 11, 118, 1, [66, 42]), (15, 5, 10, 0, 0, 0, []), (2, 8, 0, 2, 0, 0, []), (22, 9, 11, 1, 18, 0, [104]), (2, 12, 1, 0, 0, 0, []), (25, 13, 103, 0, 0, 0, []), (31, 14, 29, 3, 301, 0, [93, 14]), (19, 17, 11, 0, 0, 0, []), (0, 20, 0, 0, 0, (-1), []), (34, 21, 0, 0, 0, 0, [])]
noncomputable def i_X_bars : MI := (⟨"TakenInTurns", "bars", "(I)I"⟩, prog_1_method_25_code, 2, Option.some Jvm.ClassFile.FieldType.int, 11, 1, t_X_bars)
set_option maxRecDepth 100000 in
noncomputable def t_X_parted : List AI := [(2, 0, 0, 2, 0, 0, []), (2, 1, 1, 0, 0, 0, []), (31, 2, 125, 11, 118, 1, [66, 42]), (15, 5, 10, 0, 0, 0, []), (2, 8, 2, 0, 0, 0, []), (0, 9, 0, 0, 0, (-1), []), (16, 10, 10, 0, 2, 0, []), (2, 13, 3, 0, 0, 0, []), (32, 14, 130, 0, 193, 1, [78, 16]), (15, 17, 12, 0, 0, 0, []), (0, 20, 0, 0, 0, (-1), []), (34, 21, 0, 0, 0, 0, []), (2, 22, 0, 2, 0, 0, []), (22, 23, 11, 1, 18, 0, [104]), (2, 26, 1, 0, 0, 0, []), (25, 27, 103, 0, 0, 0, []), (3, 28, 4, 2, 1, 0, []), (2, 30, 4, 2, 1, 0, []), (31, 32, 31, 3, 305, 0, [94, 53]), (15, 35, 22, 0, 1, 0, []), (0, 38, 0, 0, 1, (-5), []), (34, 40, 0, 0, 0, 0, []), (2, 41, 0, 2, 0, 0, []), (22, 42, 11, 15, 75, 0, [115]), (2, 45, 4, 2, 1, 0, []), (31, 47, 40, 5, 309, 1, [95, 54]), (2, 50, 2, 0, 0, 0, []), (0, 51, 0, 0, 0, (-1), []), (16, 52, 33, 0, 1, 0, []), (2, 55, 0, 2, 0, 0, []), (22, 56, 11, 15, 75, 0, [115]), (22, 59, 5, 2, 312, 0, [147]), (34, 62, 0, 0, 0, 0, []), (2, 63, 2, 0, 0, 0, []), (2, 64, 0, 2, 0, 0, []), (22, 65, 11, 15, 75, 0, [115]), (22, 68, 5, 2, 312, 0, [147]), (16, 71, 40, 0, 2, 0, []), (0, 74, 0, 0, 0, (-1), []), (34, 75, 0, 0, 0, 0, []), (2, 76, 3, 0, 0, 0, []), (15, 77, 48, 0, 1, 0, []), (2, 80, 0, 2, 0, 0, []), (22, 81, 11, 15, 75, 0, [115]), (22, 84, 5, 0, 313, 0, [148]), (2, 87, 2, 0, 0, 0, []), (25, 88, 100, 0, 0, 0, []), (19, 89, 53, 0, 0, 0, []), (2, 92, 0, 2, 0, 0, []), (22, 93, 11, 15, 75, 0, [115]), (22, 96, 5, 1, 316, 0, [149]), (2, 99, 2, 0, 0, 0, []), (25, 100, 100, 0, 0, 0, []), (34, 101, 0, 0, 0, 0, [])]
noncomputable def i_X_parted : MI := (⟨"TakenInTurns", "parted", "(III)I"⟩, prog_1_method_26_code, 5, Option.some Jvm.ClassFile.FieldType.int, 11, 3, t_X_parted)
set_option maxRecDepth 100000 in
noncomputable def t_X_order : List AI := [(2, 0, 0, 2, 0, 0, []), (2, 1, 1, 0, 0, 0, []), (31, 2, 125, 11, 118, 1, [66, 42]), (15, 5, 13, 0, 0, 0, []), (2, 8, 0, 2, 0, 0, []), (22, 9, 11, 16, 82, 0, [116]), (22, 12, 2, 1, 319, 0, [150]), (15, 15, 15, 0, 5, 0, []), (2, 18, 0, 2, 0, 0, []), (22, 19, 11, 16, 82, 0, [116]), (22, 22, 2, 2, 320, 0, [151]), (2, 25, 1, 0, 0, 0, []), (16, 26, 15, 0, 0, 0, []), (0, 29, 0, 0, 0, (-1), []), (34, 30, 0, 0, 0, 0, []), (2, 31, 2, 0, 0, 0, []), (2, 32, 0, 2, 0, 0, []), (22, 33, 11, 1, 18, 0, [104]), (2, 36, 1, 0, 0, 0, []), (25, 37, 103, 0, 0, 0, []), (22, 38, 3, 1, 136, 0, [124]), (0, 41, 0, 0, 0, 0, []), (2, 42, 0, 2, 0, 0, []), (22, 43, 11, 10, 48, 0, [110]), (32, 46, 141, 0, 173, 4, [74, 15]), (15, 49, 31, 0, 0, 0, []), (2, 52, 0, 2, 0, 0, []), (22, 53, 11, 16, 82, 0, [116]), (2, 56, 2, 0, 0, 0, []), (31, 57, 12, 2, 323, 1, [96, 55]), (15, 60, 33, 0, 0, 0, []), (0, 63, 0, 0, 0, (-1), []), (34, 64, 0, 0, 0, 0, []), (2, 65, 0, 2, 0, 0, []), (22, 66, 11, 16, 82, 0, [116]), (22, 69, 2, 1, 319, 0, [150]), (0, 72, 0, 0, 1, 6, []), (16, 74, 40, 0, 2, 0, []), (0, 77, 0, 0, 1, (-3), []), (34, 79, 0, 0, 0, 0, []), (2, 80, 0, 2, 0, 0, []), (22, 81, 11, 16, 82, 0, [116]), (2, 84, 1, 0, 0, 0, []), (2, 85, 2, 0, 0, 0, []), (31, 86, 13, 2, 326, 2, [97, 56]), (2, 89, 0, 2, 0, 0, []), (22, 90, 11, 16, 82, 0, [116]), (22, 93, 2, 1, 319, 0, [150]), (34, 96, 0, 0, 0, 0, [])]
noncomputable def i_X_order : MI := (⟨"TakenInTurns", "order", "(II)I"⟩, prog_1_method_27_code, 3, Option.some Jvm.ClassFile.FieldType.int, 11, 2, t_X_order)
set_option maxRecDepth 100000 in
noncomputable def t_X_even : List AI := [(2, 0, 0, 2, 0, 0, []), (22, 1, 11, 16, 82, 0, [116]), (22, 4, 2, 1, 319, 0, [150]), (0, 7, 0, 0, 0, 1, []), (16, 8, 11, 0, 2, 0, []), (2, 11, 0, 2, 0, 0, []), (2, 12, 0, 2, 0, 0, []), (22, 13, 11, 16, 82, 0, [116]), (22, 16, 2, 2, 320, 0, [151]), (31, 19, 125, 11, 118, 1, [66, 42]), (15, 22, 13, 0, 1, 0, []), (0, 25, 0, 0, 0, (-1), []), (34, 26, 0, 0, 0, 0, []), (2, 27, 0, 2, 0, 0, []), (22, 28, 11, 1, 18, 0, [104]), (2, 31, 0, 2, 0, 0, []), (22, 32, 11, 16, 82, 0, [116]), (22, 35, 2, 2, 320, 0, [151]), (25, 38, 103, 0, 0, 0, []), (3, 39, 1, 2, 0, 0, []), (0, 40, 0, 0, 0, 0, []), (3, 41, 2, 0, 0, 0, []), (2, 42, 2, 0, 0, 0, []), (2, 43, 0, 2, 0, 0, []), (22, 44, 11, 16, 82, 0, [116]), (22, 47, 2, 1, 319, 0, [150]), (16, 50, 55, 0, 3, 0, []), (2, 53, 0, 2, 0, 0, []), (22, 54, 11, 16, 82, 0, [116]), (22, 57, 2, 0, 329, 0, [152]), (2, 60, 2, 0, 0, 0, []), (25, 61, 100, 0, 0, 0, []), (2, 62, 1, 2, 0, 0, []), (22, 63, 3, 1, 136, 0, [124]), (0, 66, 0, 0, 0, 0, []), (2, 67, 0, 2, 0, 0, []), (22, 68, 11, 10, 48, 0, [110]), (32, 71, 141, 0, 173, 4, [74, 15]), (15, 74, 53, 0, 0, 0, []), (2, 77, 0, 2, 0, 0, []), (22, 78, 11, 9, 45, 0, [109]), (2, 81, 1, 2, 0, 0, []), (2, 82, 0, 2, 0, 0, []), (22, 83, 11, 10, 48, 0, [110]), (0, 86, 0, 0, 0, 0, []), (31, 87, 33, 4, 177, 3, [75, 23]), (2, 90, 0, 2, 0, 0, []), (22, 91, 11, 16, 82, 0, [116]), (2, 94, 2, 0, 0, 0, []), (2, 95, 1, 2, 0, 0, []), (2, 96, 0, 2, 0, 0, []), (22, 97, 11, 9, 45, 0, [109]), (31, 100, 14, 2, 332, 3, [98, 57]), (4, 103, 2, 0, 0, 1, []), (19, 106, 22, 0, 0, 0, []), (2, 109, 0, 2, 0, 0, []), (22, 110, 11, 16, 82, 0, [116]), (2, 113, 1, 2, 0, 0, []), (22, 114, 3, 1, 136, 0, [124]), (31, 117, 15, 2, 336, 1, [99, 58]), (34, 120, 0, 0, 0, 0, [])]
noncomputable def i_X_even : MI := (⟨"TakenInTurns", "even", "()I"⟩, prog_1_method_28_code, 3, Option.some Jvm.ClassFile.FieldType.int, 11, 0, t_X_even)
set_option maxRecDepth 100000 in
noncomputable def t_X_evenIs : List AI := [(2, 0, 0, 2, 0, 0, []), (22, 1, 11, 16, 82, 0, [116]), (22, 4, 2, 4, 339, 0, [153]), (15, 7, 7, 0, 0, 0, []), (2, 10, 1, 0, 0, 0, []), (32, 11, 130, 0, 193, 1, [78, 16]), (15, 14, 9, 0, 0, 0, []), (0, 17, 0, 0, 0, (-1), []), (34, 18, 0, 0, 0, 0, []), (2, 19, 1, 0, 0, 0, []), (15, 20, 15, 0, 1, 0, []), (2, 23, 0, 2, 0, 0, []), (22, 24, 11, 16, 82, 0, [116]), (22, 27, 2, 3, 341, 0, [154]), (19, 30, 18, 0, 0, 0, []), (2, 33, 0, 2, 0, 0, []), (22, 34, 11, 16, 82, 0, [116]), (22, 37, 2, 4, 339, 0, [153]), (34, 40, 0, 0, 0, 0, [])]
noncomputable def i_X_evenIs : MI := (⟨"TakenInTurns", "evenIs", "(I)I"⟩, prog_1_method_29_code, 2, Option.some Jvm.ClassFile.FieldType.int, 11, 1, t_X_evenIs)
set_option maxRecDepth 100000 in
noncomputable def t_X_swap : List AI := [(2, 0, 0, 2, 0, 0, []), (2, 1, 1, 0, 0, 0, []), (31, 2, 125, 11, 118, 1, [66, 42]), (15, 5, 7, 0, 0, 0, []), (2, 8, 2, 0, 0, 0, []), (32, 9, 130, 0, 193, 1, [78, 16]), (15, 12, 9, 0, 0, 0, []), (0, 15, 0, 0, 0, (-1), []), (34, 16, 0, 0, 0, 0, []), (2, 17, 0, 2, 0, 0, []), (22, 18, 11, 1, 18, 0, [104]), (2, 21, 1, 0, 0, 0, []), (25, 22, 103, 0, 0, 0, []), (3, 23, 3, 2, 0, 0, []), (2, 24, 3, 2, 0, 0, []), (22, 25, 3, 10, 343, 0, [155]), (15, 28, 20, 0, 1, 0, []), (2, 31, 0, 2, 0, 0, []), (2, 32, 3, 2, 0, 0, []), (31, 33, 139, 11, 346, 1, [100, 59]), (2, 36, 2, 0, 0, 0, []), (15, 37, 25, 0, 1, 0, []), (2, 40, 3, 2, 0, 0, []), (22, 41, 3, 11, 349, 0, [156]), (19, 44, 27, 0, 0, 0, []), (2, 47, 3, 2, 0, 0, []), (22, 48, 3, 12, 352, 0, [157]), (34, 51, 0, 0, 0, 0, [])]
noncomputable def i_X_swap : MI := (⟨"TakenInTurns", "swap", "(II)I"⟩, prog_1_method_30_code, 4, Option.some Jvm.ClassFile.FieldType.int, 11, 2, t_X_swap)
set_option maxRecDepth 100000 in
noncomputable def t_X_years : List AI := [(2, 0, 0, 2, 0, 0, []), (2, 1, 1, 0, 0, 0, []), (31, 2, 125, 11, 118, 1, [66, 42]), (15, 5, 10, 0, 0, 0, []), (2, 8, 3, 0, 0, 0, []), (0, 9, 0, 0, 0, 1, []), (16, 10, 10, 0, 2, 0, []), (2, 13, 3, 0, 0, 0, []), (0, 14, 0, 0, 1, 9, []), (16, 16, 12, 0, 5, 0, []), (0, 19, 0, 0, 0, (-1), []), (34, 20, 0, 0, 0, 0, []), (2, 21, 0, 2, 0, 0, []), (22, 22, 11, 1, 18, 0, [104]), (2, 25, 1, 0, 0, 0, []), (25, 26, 103, 0, 0, 0, []), (3, 27, 5, 2, 1, 0, []), (2, 29, 4, 0, 1, 0, []), (0, 31, 0, 0, 0, (-1), []), (16, 32, 24, 0, 0, 0, []), (2, 35, 5, 2, 1, 0, []), (2, 37, 4, 0, 1, 0, []), (32, 39, 126, 0, 123, 2, [67, 14]), (15, 42, 32, 0, 0, 0, []), (2, 45, 2, 0, 0, 0, []), (2, 46, 5, 2, 1, 0, []), (22, 48, 3, 1, 136, 0, [124]), (0, 51, 0, 0, 0, 0, []), (2, 52, 0, 2, 0, 0, []), (22, 53, 11, 10, 48, 0, [110]), (32, 56, 141, 0, 173, 4, [74, 15]), (15, 59, 34, 0, 1, 0, []), (0, 62, 0, 0, 0, (-1), []), (34, 63, 0, 0, 0, 0, []), (2, 64, 0, 2, 0, 0, []), (22, 65, 11, 12, 54, 0, [112]), (1, 68, 0, 0, 0, 0, []), (32, 69, 248, 0, 355, 2, [101, 10]), (0, 72, 0, 0, 0, 0, []), (3, 73, 6, 0, 1, 0, []), (2, 75, 6, 0, 1, 0, []), (2, 77, 3, 0, 0, 0, []), (16, 78, 77, 0, 3, 0, []), (2, 81, 0, 2, 0, 0, []), (22, 82, 11, 9, 45, 0, [109]), (2, 85, 5, 2, 1, 0, []), (2, 87, 0, 2, 0, 0, []), (22, 88, 11, 10, 48, 0, [110]), (0, 91, 0, 0, 0, 0, []), (31, 92, 33, 4, 177, 3, [75, 23]), (0, 95, 0, 0, 0, 0, []), (3, 96, 7, 0, 1, 0, []), (2, 98, 7, 0, 1, 0, []), (2, 100, 5, 2, 1, 0, []), (22, 102, 3, 1, 136, 0, [124]), (16, 105, 71, 0, 3, 0, []), (2, 108, 0, 2, 0, 0, []), (22, 109, 11, 12, 54, 0, [112]), (2, 112, 7, 0, 1, 0, []), (29, 114, 0, 0, 0, 0, []), (25, 115, 101, 0, 0, 0, []), (2, 116, 0, 2, 0, 0, []), (22, 117, 11, 9, 45, 0, [109]), (2, 120, 5, 2, 1, 0, []), (2, 122, 7, 0, 1, 0, []), (31, 124, 36, 4, 361, 2, [102, 6]), (11, 127, 0, 0, 0, 0, []), (7, 128, 0, 0, 0, 0, []), (26, 129, 101, 0, 0, 0, []), (4, 130, 7, 0, 0, 1, []), (19, 133, 52, 0, 0, 0, []), (2, 136, 0, 2, 0, 0, []), (2, 137, 5, 2, 1, 0, []), (22, 139, 3, 1, 136, 0, [124]), (31, 142, 140, 11, 365, 1, [103, 60]), (4, 145, 6, 0, 0, 1, []), (19, 148, 40, 0, 0, 0, []), (2, 151, 4, 0, 1, 0, []), (0, 153, 0, 0, 0, (-1), []), (16, 154, 87, 0, 1, 0, []), (2, 157, 0, 2, 0, 0, []), (22, 158, 11, 10, 48, 0, [110]), (2, 161, 5, 2, 1, 0, []), (22, 163, 3, 1, 136, 0, [124]), (0, 166, 0, 0, 0, 0, []), (32, 167, 142, 0, 267, 3, [87, 4]), (19, 170, 92, 0, 0, 0, []), (2, 173, 0, 2, 0, 0, []), (22, 174, 11, 12, 54, 0, [112]), (2, 177, 4, 0, 1, 0, []), (25, 179, 101, 0, 0, 0, []), (12, 180, 0, 0, 0, 0, []), (34, 181, 0, 0, 0, 0, [])]
noncomputable def i_X_years : MI := (⟨"TakenInTurns", "years", "(IIII)I"⟩, prog_1_method_31_code, 8, Option.some Jvm.ClassFile.FieldType.int, 11, 4, t_X_years)
set_option maxRecDepth 100000 in
noncomputable def t_X_act : List AI := [(2, 0, 0, 2, 0, 0, []), (2, 1, 1, 0, 0, 0, []), (31, 2, 131, 11, 169, 1, [73, 45]), (3, 5, 4, 0, 1, 0, []), (2, 7, 0, 2, 0, 0, []), (22, 8, 11, 17, 89, 0, [117]), (31, 11, 1, 0, 368, 0, [104, 61]), (2, 14, 4, 0, 1, 0, []), (15, 16, 14, 0, 2, 0, []), (2, 19, 2, 0, 0, 0, []), (15, 20, 14, 0, 2, 0, []), (2, 23, 2, 0, 0, 0, []), (0, 24, 0, 0, 0, 4, []), (16, 25, 16, 0, 2, 0, []), (0, 28, 0, 0, 0, 0, []), (34, 29, 0, 0, 0, 0, []), (2, 30, 0, 2, 0, 0, []), (22, 31, 11, 17, 89, 0, [117]), (2, 34, 4, 0, 1, 0, []), (2, 36, 1, 0, 0, 0, []), (2, 37, 2, 0, 0, 0, []), (2, 38, 3, 0, 0, 0, []), (31, 39, 2, 0, 371, 4, [105, 62]), (34, 42, 0, 0, 0, 0, [])]
noncomputable def i_X_act : MI := (⟨"TakenInTurns", "act", "(III)I"⟩, prog_1_method_32_code, 5, Option.some Jvm.ClassFile.FieldType.int, 11, 3, t_X_act)
set_option maxRecDepth 100000 in
noncomputable def t_X_trace : List AI := [(2, 0, 1, 0, 0, 0, []), (15, 1, 16, 0, 2, 0, []), (2, 4, 1, 0, 0, 0, []), (0, 5, 0, 0, 1, 24, []), (16, 7, 16, 0, 3, 0, []), (2, 10, 1, 0, 0, 0, []), (2, 11, 0, 2, 0, 0, []), (22, 12, 11, 17, 89, 0, [117]), (22, 15, 0, 1, 375, 0, [158]), (16, 18, 16, 0, 3, 0, []), (2, 21, 0, 2, 0, 0, []), (22, 22, 11, 17, 89, 0, [117]), (22, 25, 0, 0, 378, 0, [159]), (2, 28, 1, 0, 0, 0, []), (25, 29, 100, 0, 0, 0, []), (19, 30, 17, 0, 0, 0, []), (0, 33, 0, 0, 0, (-1), []), (34, 34, 0, 0, 0, 0, [])]
noncomputable def i_X_trace : MI := (⟨"TakenInTurns", "trace", "(I)I"⟩, prog_1_method_33_code, 2, Option.some Jvm.ClassFile.FieldType.int, 11, 1, t_X_trace)
set_option maxRecDepth 100000 in
noncomputable def t_X_keep : List AI := [(2, 0, 1, 0, 0, 0, []), (32, 1, 129, 0, 281, 1, [90, 19]), (15, 4, 10, 0, 0, 0, []), (2, 7, 2, 0, 0, 0, []), (0, 8, 0, 0, 0, (-1), []), (16, 9, 12, 0, 0, 0, []), (2, 12, 0, 2, 0, 0, []), (2, 13, 2, 0, 0, 0, []), (31, 14, 131, 11, 169, 1, [73, 45]), (15, 17, 12, 0, 3, 0, []), (0, 20, 0, 0, 0, (-1), []), (34, 21, 0, 0, 0, 0, []), (2, 22, 0, 2, 0, 0, []), (22, 23, 11, 18, 95, 0, [118]), (2, 26, 1, 0, 0, 0, []), (25, 27, 104, 0, 0, 0, []), (2, 28, 0, 2, 0, 0, []), (2, 29, 2, 0, 0, 0, []), (31, 30, 131, 11, 169, 1, [73, 45]), (31, 33, 64, 8, 381, 1, [106, 63]), (0, 36, 0, 0, 0, 1, []), (34, 37, 0, 0, 0, 0, [])]
noncomputable def i_X_keep : MI := (⟨"TakenInTurns", "keep", "(II)I"⟩, prog_1_method_34_code, 3, Option.some Jvm.ClassFile.FieldType.int, 11, 2, t_X_keep)
set_option maxRecDepth 100000 in
noncomputable def t_X_row : List AI := [(2, 0, 1, 0, 0, 0, []), (32, 1, 129, 0, 281, 1, [90, 19]), (15, 4, 11, 0, 0, 0, []), (2, 7, 2, 0, 0, 0, []), (15, 8, 11, 0, 2, 0, []), (2, 11, 2, 0, 0, 0, []), (0, 12, 0, 0, 0, 5, []), (16, 13, 11, 0, 3, 0, []), (2, 16, 3, 0, 0, 0, []), (0, 17, 0, 0, 1, 60, []), (16, 19, 13, 0, 5, 0, []), (0, 22, 0, 0, 0, (-1), []), (34, 23, 0, 0, 0, 0, []), (2, 24, 3, 0, 0, 0, []), (15, 25, 17, 0, 3, 0, []), (0, 28, 0, 0, 1, (-14), []), (34, 30, 0, 0, 0, 0, []), (2, 31, 0, 2, 0, 0, []), (22, 32, 11, 18, 95, 0, [118]), (2, 35, 1, 0, 0, 0, []), (25, 36, 104, 0, 0, 0, []), (2, 37, 2, 0, 0, 0, []), (2, 38, 3, 0, 0, 0, []), (31, 39, 65, 8, 384, 2, [107, 64]), (0, 42, 0, 0, 0, 1, []), (34, 43, 0, 0, 0, 0, [])]
noncomputable def i_X_row : MI := (⟨"TakenInTurns", "row", "(III)I"⟩, prog_1_method_35_code, 4, Option.some Jvm.ClassFile.FieldType.int, 11, 3, t_X_row)
set_option maxRecDepth 100000 in
noncomputable def t_X_put : List AI := [(2, 0, 0, 2, 0, 0, []), (2, 1, 1, 0, 0, 0, []), (2, 2, 2, 0, 0, 0, []), (31, 3, 134, 11, 387, 2, [108, 65]), (3, 6, 5, 0, 1, 0, []), (2, 8, 5, 0, 1, 0, []), (15, 10, 9, 0, 0, 0, []), (2, 13, 5, 0, 1, 0, []), (34, 15, 0, 0, 0, 0, []), (2, 16, 0, 2, 0, 0, []), (22, 17, 11, 18, 95, 0, [118]), (2, 20, 1, 0, 0, 0, []), (25, 21, 104, 0, 0, 0, []), (2, 22, 2, 0, 0, 0, []), (2, 23, 3, 1, 0, 0, []), (31, 24, 67, 8, 390, 2, [109, 66]), (0, 27, 0, 0, 0, 1, []), (34, 28, 0, 0, 0, 0, [])]
noncomputable def i_X_put : MI := (⟨"TakenInTurns", "put", "(IIJ)I"⟩, prog_1_method_36_code, 6, Option.some Jvm.ClassFile.FieldType.int, 11, 3, t_X_put)
set_option maxRecDepth 100000 in
noncomputable def t_X_element : List AI := [(2, 0, 0, 2, 0, 0, []), (2, 1, 1, 0, 0, 0, []), (2, 2, 2, 0, 0, 0, []), (31, 3, 134, 11, 387, 2, [108, 65]), (15, 6, 7, 0, 0, 0, []), (1, 9, 394, 0, 1, (-9223372036854775808), [5]), (19, 12, 14, 0, 0, 0, []), (2, 15, 0, 2, 0, 0, []), (22, 16, 11, 18, 95, 0, [118]), (2, 19, 1, 0, 0, 0, []), (25, 20, 104, 0, 0, 0, []), (22, 21, 8, 0, 294, 0, [146]), (2, 24, 2, 0, 0, 0, []), (25, 25, 101, 0, 0, 0, []), (34, 26, 0, 0, 0, 0, [])]
noncomputable def i_X_element : MI := (⟨"TakenInTurns", "element", "(II)J"⟩, prog_1_method_37_code, 3, Option.some Jvm.ClassFile.FieldType.long, 11, 2, t_X_element)
set_option maxRecDepth 100000 in
noncomputable def t_X_shift : List AI := [(2, 0, 1, 0, 0, 0, []), (32, 1, 129, 0, 281, 1, [90, 19]), (15, 4, 6, 0, 0, 0, []), (2, 7, 3, 0, 0, 0, []), (32, 8, 129, 0, 281, 1, [90, 19]), (15, 11, 8, 0, 1, 0, []), (0, 14, 0, 0, 0, (-1), []), (34, 15, 0, 0, 0, 0, []), (2, 16, 0, 2, 0, 0, []), (22, 17, 11, 18, 95, 0, [118]), (2, 20, 1, 0, 0, 0, []), (25, 21, 104, 0, 0, 0, []), (3, 22, 6, 2, 1, 0, []), (2, 24, 0, 2, 0, 0, []), (22, 25, 11, 18, 95, 0, [118]), (2, 28, 3, 0, 0, 0, []), (25, 29, 104, 0, 0, 0, []), (3, 30, 7, 2, 1, 0, []), (2, 32, 6, 2, 1, 0, []), (22, 34, 8, 1, 284, 0, [144]), (15, 37, 24, 0, 0, 0, []), (2, 40, 7, 2, 1, 0, []), (22, 42, 8, 1, 284, 0, [144]), (15, 45, 26, 0, 1, 0, []), (0, 48, 0, 0, 1, (-11), []), (34, 50, 0, 0, 0, 0, []), (2, 51, 6, 2, 1, 0, []), (22, 53, 8, 1, 284, 0, [144]), (0, 56, 0, 0, 0, 2, []), (16, 57, 39, 0, 1, 0, []), (2, 60, 7, 2, 1, 0, []), (22, 62, 8, 1, 284, 0, [144]), (0, 65, 0, 0, 0, 2, []), (16, 66, 39, 0, 1, 0, []), (2, 69, 6, 2, 1, 0, []), (22, 71, 8, 3, 287, 0, [145]), (2, 74, 7, 2, 1, 0, []), (22, 76, 8, 3, 287, 0, [145]), (16, 79, 41, 0, 0, 0, []), (0, 82, 0, 0, 1, (-12), []), (34, 84, 0, 0, 0, 0, []), (2, 85, 6, 2, 1, 0, []), (2, 87, 2, 0, 0, 0, []), (11, 88, 0, 0, 0, 0, []), (2, 89, 5, 0, 1, 0, []), (11, 91, 0, 0, 0, 0, []), (31, 92, 66, 8, 290, 2, [91, 52]), (15, 95, 55, 0, 0, 0, []), (2, 98, 7, 2, 1, 0, []), (2, 100, 4, 0, 1, 0, []), (11, 102, 0, 0, 0, 0, []), (2, 103, 5, 0, 1, 0, []), (11, 105, 0, 0, 0, 0, []), (31, 106, 66, 8, 290, 2, [91, 52]), (15, 109, 57, 0, 1, 0, []), (0, 112, 0, 0, 1, (-13), []), (34, 114, 0, 0, 0, 0, []), (2, 115, 6, 2, 1, 0, []), (22, 117, 8, 0, 294, 0, [146]), (2, 120, 2, 0, 0, 0, []), (2, 121, 7, 2, 1, 0, []), (22, 123, 8, 0, 294, 0, [146]), (2, 126, 4, 0, 1, 0, []), (2, 128, 5, 0, 1, 0, []), (35, 130, 101, 0, 396, 0, [15]), (2, 133, 5, 0, 1, 0, []), (34, 135, 0, 0, 0, 0, [])]
noncomputable def i_X_shift : MI := (⟨"TakenInTurns", "shift", "(IIIII)I"⟩, prog_1_method_38_code, 8, Option.some Jvm.ClassFile.FieldType.int, 11, 5, t_X_shift)
set_option maxRecDepth 100000 in
noncomputable def t_X_taken : List AI := [(2, 0, 1, 0, 0, 0, []), (32, 1, 129, 0, 281, 1, [90, 19]), (15, 4, 8, 0, 0, 0, []), (2, 7, 2, 0, 0, 0, []), (15, 8, 8, 0, 2, 0, []), (2, 11, 2, 0, 0, 0, []), (0, 12, 0, 0, 1, 7, []), (16, 14, 10, 0, 2, 0, []), (0, 17, 0, 0, 0, (-1), []), (34, 18, 0, 0, 0, 0, []), (2, 19, 0, 2, 0, 0, []), (22, 20, 11, 18, 95, 0, [118]), (2, 23, 1, 0, 0, 0, []), (25, 24, 104, 0, 0, 0, []), (3, 25, 3, 2, 0, 0, []), (2, 26, 3, 2, 0, 0, []), (22, 27, 8, 1, 284, 0, [144]), (15, 30, 20, 0, 1, 0, []), (0, 33, 0, 0, 1, (-11), []), (34, 35, 0, 0, 0, 0, []), (2, 36, 3, 2, 0, 0, []), (22, 37, 8, 1, 284, 0, [144]), (0, 40, 0, 0, 0, 1, []), (16, 41, 29, 0, 1, 0, []), (2, 44, 3, 2, 0, 0, []), (22, 45, 8, 2, 402, 0, [160]), (2, 48, 2, 0, 0, 0, []), (32, 49, 133, 0, 405, 2, [110, 21]), (15, 52, 31, 0, 1, 0, []), (0, 55, 0, 0, 1, (-12), []), (34, 57, 0, 0, 0, 0, []), (2, 58, 3, 2, 0, 0, []), (22, 59, 8, 2, 402, 0, [160]), (34, 62, 0, 0, 0, 0, [])]
noncomputable def i_X_taken : MI := (⟨"TakenInTurns", "taken", "(II)I"⟩, prog_1_method_39_code, 4, Option.some Jvm.ClassFile.FieldType.int, 11, 2, t_X_taken)
set_option maxRecDepth 100000 in
noncomputable def t_X_count : List AI := [(2, 0, 1, 0, 0, 0, []), (20, 1, 20, 35, 0, 0, [2, 5, 8, 12, 16]), (2, 36, 0, 2, 0, 0, []), (22, 37, 11, 2, 108, 0, [120]), (34, 40, 0, 0, 0, 0, []), (2, 41, 0, 2, 0, 0, []), (22, 42, 11, 5, 217, 0, [138]), (34, 45, 0, 0, 0, 0, []), (2, 46, 0, 2, 0, 0, []), (22, 47, 11, 0, 12, 0, [103]), (22, 50, 9, 1, 100, 0, [119]), (34, 53, 0, 0, 0, 0, []), (2, 54, 0, 2, 0, 0, []), (22, 55, 11, 16, 82, 0, [116]), (22, 58, 2, 1, 319, 0, [150]), (34, 61, 0, 0, 0, 0, []), (2, 62, 0, 2, 0, 0, []), (22, 63, 11, 17, 89, 0, [117]), (22, 66, 0, 1, 375, 0, [158]), (34, 69, 0, 0, 0, 0, []), (0, 70, 0, 0, 0, (-1), []), (34, 71, 0, 0, 0, 0, [])]
noncomputable def i_X_count : MI := (⟨"TakenInTurns", "count", "(I)I"⟩, prog_1_method_40_code, 2, Option.some Jvm.ClassFile.FieldType.int, 11, 1, t_X_count)
set_option maxRecDepth 100000 in
noncomputable def t_X_isGiving : List AI := [(2, 0, 1, 0, 0, 0, []), (15, 1, 8, 0, 2, 0, []), (2, 4, 1, 0, 0, 0, []), (2, 5, 0, 2, 0, 0, []), (22, 6, 11, 2, 108, 0, [120]), (16, 9, 8, 0, 3, 0, []), (0, 12, 0, 0, 0, 1, []), (19, 13, 9, 0, 0, 0, []), (0, 16, 0, 0, 0, 0, []), (34, 17, 0, 0, 0, 0, [])]
noncomputable def i_X_isGiving : MI := (⟨"TakenInTurns", "isGiving", "(I)Z"⟩, prog_1_method_41_code, 2, Option.some Jvm.ClassFile.FieldType.boolean, 11, 1, t_X_isGiving)
set_option maxRecDepth 100000 in
noncomputable def t_X_isPerson : List AI := [(2, 0, 1, 0, 0, 0, []), (15, 1, 8, 0, 2, 0, []), (2, 4, 1, 0, 0, 0, []), (2, 5, 0, 2, 0, 0, []), (22, 6, 3, 1, 136, 0, [124]), (16, 9, 8, 0, 3, 0, []), (0, 12, 0, 0, 0, 1, []), (19, 13, 9, 0, 0, 0, []), (0, 16, 0, 0, 0, 0, []), (34, 17, 0, 0, 0, 0, [])]
noncomputable def i_X_isPerson : MI := (⟨"TakenInTurns", "isPerson", "(LTakenInTurns$Giving;I)Z"⟩, prog_1_method_42_code, 2, Option.some Jvm.ClassFile.FieldType.boolean, 11, 2, t_X_isPerson)
set_option maxRecDepth 100000 in
noncomputable def t_X_isThing : List AI := [(2, 0, 1, 0, 0, 0, []), (15, 1, 8, 0, 2, 0, []), (2, 4, 1, 0, 0, 0, []), (2, 5, 0, 2, 0, 0, []), (22, 6, 3, 0, 139, 0, [125]), (16, 9, 8, 0, 3, 0, []), (0, 12, 0, 0, 0, 1, []), (19, 13, 9, 0, 0, 0, []), (0, 16, 0, 0, 0, 0, []), (34, 17, 0, 0, 0, 0, [])]
noncomputable def i_X_isThing : MI := (⟨"TakenInTurns", "isThing", "(LTakenInTurns$Giving;I)Z"⟩, prog_1_method_43_code, 2, Option.some Jvm.ClassFile.FieldType.boolean, 11, 2, t_X_isThing)
set_option maxRecDepth 100000 in
noncomputable def t_X_isCell : List AI := [(2, 0, 1, 0, 0, 0, []), (15, 1, 16, 0, 2, 0, []), (2, 4, 0, 2, 0, 0, []), (2, 5, 1, 0, 0, 0, []), (0, 6, 0, 0, 1, 10, []), (6, 8, 0, 0, 0, 0, []), (32, 9, 126, 0, 123, 2, [67, 14]), (15, 12, 16, 0, 0, 0, []), (2, 15, 0, 2, 0, 0, []), (2, 16, 1, 0, 0, 0, []), (0, 17, 0, 0, 1, 10, []), (6, 19, 0, 0, 1, 0, []), (32, 20, 127, 0, 130, 2, [68, 13]), (15, 23, 16, 0, 0, 0, []), (0, 26, 0, 0, 0, 1, []), (19, 27, 17, 0, 0, 0, []), (0, 30, 0, 0, 0, 0, []), (34, 31, 0, 0, 0, 0, [])]
noncomputable def i_X_isCell : MI := (⟨"TakenInTurns", "isCell", "(LTakenInTurns$Giving;I)Z"⟩, prog_1_method_44_code, 2, Option.some Jvm.ClassFile.FieldType.boolean, 11, 2, t_X_isCell)
set_option maxRecDepth 100000 in
noncomputable def t_X_isShelf : List AI := [(2, 0, 0, 0, 0, 0, []), (15, 1, 7, 0, 2, 0, []), (2, 4, 0, 0, 0, 0, []), (0, 5, 0, 0, 1, 6, []), (16, 7, 7, 0, 3, 0, []), (0, 10, 0, 0, 0, 1, []), (19, 11, 8, 0, 0, 0, []), (0, 14, 0, 0, 0, 0, []), (34, 15, 0, 0, 0, 0, [])]
noncomputable def i_X_isShelf : MI := (⟨"TakenInTurns", "isShelf", "(I)Z"⟩, prog_1_method_45_code, 1, Option.some Jvm.ClassFile.FieldType.boolean, 11, 1, t_X_isShelf)
set_option maxRecDepth 100000 in
noncomputable def t_X_isNoSide : List AI := [(2, 0, 0, 0, 0, 0, []), (15, 1, 7, 0, 0, 0, []), (2, 4, 0, 0, 0, 0, []), (0, 5, 0, 0, 0, 1, []), (16, 6, 7, 0, 0, 0, []), (0, 9, 0, 0, 0, 1, []), (19, 10, 8, 0, 0, 0, []), (0, 13, 0, 0, 0, 0, []), (34, 14, 0, 0, 0, 0, [])]
noncomputable def i_X_isNoSide : MI := (⟨"TakenInTurns", "isNoSide", "(I)Z"⟩, prog_1_method_46_code, 1, Option.some Jvm.ClassFile.FieldType.boolean, 11, 1, t_X_isNoSide)
set_option maxRecDepth 100000 in
noncomputable def t_X_kindAt : List AI := [(2, 0, 1, 0, 0, 0, []), (15, 1, 11, 0, 2, 0, []), (2, 4, 1, 0, 0, 0, []), (2, 5, 0, 2, 0, 0, []), (22, 6, 11, 5, 217, 0, [138]), (16, 9, 11, 0, 3, 0, []), (2, 12, 0, 2, 0, 0, []), (22, 13, 11, 4, 27, 0, [106]), (2, 16, 1, 0, 0, 0, []), (25, 17, 100, 0, 0, 0, []), (19, 18, 12, 0, 0, 0, []), (0, 21, 0, 0, 0, (-1), []), (34, 22, 0, 0, 0, 0, [])]
noncomputable def i_X_kindAt : MI := (⟨"TakenInTurns", "kindAt", "(I)I"⟩, prog_1_method_47_code, 2, Option.some Jvm.ClassFile.FieldType.int, 11, 1, t_X_kindAt)
set_option maxRecDepth 100000 in
noncomputable def t_X_isToldWrongly : List AI := [(2, 0, 0, 2, 0, 0, []), (2, 1, 1, 0, 0, 0, []), (31, 2, 131, 11, 169, 1, [73, 45]), (3, 5, 2, 0, 0, 0, []), (2, 6, 2, 0, 0, 0, []), (0, 7, 0, 0, 0, 1, []), (16, 8, 10, 0, 0, 0, []), (2, 11, 2, 0, 0, 0, []), (0, 12, 0, 0, 0, 3, []), (16, 13, 12, 0, 1, 0, []), (0, 16, 0, 0, 0, 1, []), (19, 17, 13, 0, 0, 0, []), (0, 20, 0, 0, 0, 0, []), (34, 21, 0, 0, 0, 0, [])]
noncomputable def i_X_isToldWrongly : MI := (⟨"TakenInTurns", "isToldWrongly", "(I)Z"⟩, prog_1_method_48_code, 3, Option.some Jvm.ClassFile.FieldType.boolean, 11, 1, t_X_isToldWrongly)
set_option maxRecDepth 100000 in
noncomputable def t_X_isUnder : List AI := [(2, 0, 0, 0, 0, 0, []), (3, 1, 2, 0, 0, 0, []), (0, 2, 0, 0, 0, 0, []), (3, 3, 3, 0, 0, 0, []), (2, 4, 3, 0, 0, 0, []), (0, 5, 0, 0, 1, 7, []), (16, 7, 23, 0, 3, 0, []), (2, 10, 2, 0, 0, 0, []), (15, 11, 23, 0, 2, 0, []), (2, 14, 2, 0, 0, 0, []), (0, 15, 0, 0, 1, 7, []), (16, 17, 23, 0, 3, 0, []), (2, 20, 2, 0, 0, 0, []), (2, 21, 1, 0, 0, 0, []), (16, 22, 17, 0, 1, 0, []), (0, 25, 0, 0, 0, 1, []), (34, 26, 0, 0, 0, 0, []), (24, 27, 1, 0, 409, 0, [1]), (2, 30, 2, 0, 0, 0, []), (25, 31, 901, 0, 0, 0, []), (3, 32, 2, 0, 0, 0, []), (4, 33, 3, 0, 0, 1, []), (19, 36, 4, 0, 0, 0, []), (0, 39, 0, 0, 0, 0, []), (34, 40, 0, 0, 0, 0, [])]
noncomputable def i_X_isUnder : MI := (⟨"TakenInTurns", "isUnder", "(II)Z"⟩, prog_1_method_49_code, 4, Option.some Jvm.ClassFile.FieldType.boolean, 11, 2, t_X_isUnder)
set_option maxRecDepth 100000 in
noncomputable def t_X_refusalAt : List AI := [(2, 0, 1, 0, 0, 0, []), (32, 1, 129, 0, 281, 1, [90, 19]), (15, 4, 5, 0, 1, 0, []), (0, 7, 0, 0, 0, (-1), []), (34, 8, 0, 0, 0, 0, []), (2, 9, 0, 2, 0, 0, []), (22, 10, 11, 18, 95, 0, [118]), (2, 13, 1, 0, 0, 0, []), (25, 14, 104, 0, 0, 0, []), (3, 15, 3, 2, 0, 0, []), (2, 16, 3, 2, 0, 0, []), (22, 17, 8, 1, 284, 0, [144]), (15, 20, 15, 0, 1, 0, []), (0, 23, 0, 0, 1, (-11), []), (34, 25, 0, 0, 0, 0, []), (2, 26, 3, 2, 0, 0, []), (22, 27, 8, 1, 284, 0, [144]), (0, 30, 0, 0, 0, 2, []), (16, 31, 21, 0, 0, 0, []), (0, 34, 0, 0, 1, (-12), []), (34, 36, 0, 0, 0, 0, []), (2, 37, 3, 2, 0, 0, []), (2, 38, 2, 0, 0, 0, []), (11, 39, 0, 0, 0, 0, []), (1, 40, 0, 0, 0, 1, []), (31, 41, 66, 8, 290, 2, [91, 52]), (15, 44, 29, 0, 0, 0, []), (0, 47, 0, 0, 0, 0, []), (19, 48, 30, 0, 0, 0, []), (0, 51, 0, 0, 1, (-13), []), (34, 53, 0, 0, 0, 0, [])]
noncomputable def i_X_refusalAt : MI := (⟨"TakenInTurns", "refusalAt", "(II)I"⟩, prog_1_method_50_code, 4, Option.some Jvm.ClassFile.FieldType.int, 11, 2, t_X_refusalAt)
set_option maxRecDepth 100000 in
noncomputable def t_X_forgetTable : List AI := [(2, 0, 1, 2, 0, 0, []), (22, 1, 3, 9, 412, 0, [161]), (0, 4, 0, 0, 0, 5, []), (25, 5, 105, 0, 0, 0, []), (0, 6, 0, 0, 0, 0, []), (23, 7, 7, 2, 416, 0, [162]), (2, 10, 1, 2, 0, 0, []), (22, 11, 3, 9, 412, 0, [161]), (0, 14, 0, 0, 1, 6, []), (25, 16, 105, 0, 0, 0, []), (0, 17, 0, 0, 0, 0, []), (23, 18, 7, 2, 416, 0, [162]), (2, 21, 0, 2, 0, 0, []), (22, 22, 11, 15, 75, 0, [115]), (31, 25, 39, 5, 419, 0, [111, 67]), (34, 28, 0, 0, 0, 0, [])]
noncomputable def i_X_forgetTable : MI := (⟨"TakenInTurns", "forgetTable", "(LTakenInTurns$Giving;)V"⟩, prog_1_method_51_code, 2, none, 11, 1, t_X_forgetTable)
set_option maxRecDepth 100000 in
noncomputable def t_X_sharesOf : List AI := [(2, 0, 1, 2, 0, 0, []), (22, 1, 3, 9, 412, 0, [161]), (2, 4, 2, 0, 0, 0, []), (25, 5, 105, 0, 0, 0, []), (3, 6, 3, 2, 0, 0, []), (2, 7, 3, 2, 0, 0, []), (22, 8, 7, 2, 416, 0, [162]), (15, 11, 10, 0, 0, 0, []), (2, 14, 3, 2, 0, 0, []), (34, 15, 0, 0, 0, 0, []), (2, 16, 3, 2, 0, 0, []), (31, 17, 56, 7, 420, 0, [112, 68]), (2, 20, 2, 0, 0, 0, []), (20, 21, 51, 39, 0, 1, [14, 14, 28, 34, 40, 44]), (2, 60, 3, 2, 0, 0, []), (2, 61, 1, 2, 0, 0, []), (2, 62, 0, 2, 0, 0, []), (22, 63, 11, 9, 45, 0, [109]), (2, 66, 0, 2, 0, 0, []), (22, 67, 11, 10, 48, 0, [110]), (2, 70, 2, 0, 0, 0, []), (0, 71, 0, 0, 0, 2, []), (16, 72, 25, 0, 1, 0, []), (0, 75, 0, 0, 0, 1, []), (19, 76, 26, 0, 0, 0, []), (0, 79, 0, 0, 0, 0, []), (31, 80, 57, 7, 421, 4, [113, 69]), (19, 83, 51, 0, 0, 0, []), (2, 86, 0, 2, 0, 0, []), (22, 87, 11, 13, 61, 0, [113]), (2, 90, 1, 2, 0, 0, []), (2, 91, 3, 2, 0, 0, []), (31, 92, 6, 1, 425, 2, [114, 70]), (19, 95, 51, 0, 0, 0, []), (2, 98, 0, 2, 0, 0, []), (22, 99, 11, 14, 68, 0, [114]), (2, 102, 1, 2, 0, 0, []), (2, 103, 3, 2, 0, 0, []), (31, 104, 78, 10, 429, 2, [115, 71]), (19, 107, 51, 0, 0, 0, []), (2, 110, 3, 2, 0, 0, []), (2, 111, 1, 2, 0, 0, []), (31, 112, 59, 7, 432, 1, [116, 72]), (19, 115, 51, 0, 0, 0, []), (2, 118, 3, 2, 0, 0, []), (2, 119, 1, 2, 0, 0, []), (31, 120, 59, 7, 432, 1, [116, 72]), (2, 123, 3, 2, 0, 0, []), (2, 124, 1, 2, 0, 0, []), (31, 125, 60, 7, 435, 1, [117, 73]), (19, 128, 51, 0, 0, 0, []), (2, 131, 3, 2, 0, 0, []), (0, 132, 0, 0, 0, 1, []), (23, 133, 7, 2, 416, 0, [162]), (2, 136, 3, 2, 0, 0, []), (34, 137, 0, 0, 0, 0, [])]
noncomputable def i_X_sharesOf : MI := (⟨"TakenInTurns", "sharesOf", "(LTakenInTurns$Giving;I)LTakenInTurns$Shares;"⟩, prog_1_method_52_code, 4, Option.some (Jvm.ClassFile.FieldType.object "TakenInTurns$Shares"), 11, 2, t_X_sharesOf)
set_option maxRecDepth 100000 in
noncomputable def t_X_compareOtherwise : List AI := [(2, 0, 0, 2, 0, 0, []), (2, 1, 1, 2, 0, 0, []), (2, 2, 3, 0, 0, 0, []), (31, 3, 136, 11, 225, 2, [81, 48]), (3, 6, 4, 2, 1, 0, []), (2, 8, 0, 2, 0, 0, []), (22, 9, 11, 3, 23, 0, [105]), (2, 12, 1, 2, 0, 0, []), (31, 13, 20, 3, 162, 1, [71, 43]), (2, 16, 0, 2, 0, 0, []), (22, 17, 11, 3, 23, 0, [105]), (2, 20, 2, 0, 0, 0, []), (2, 21, 1, 2, 0, 0, []), (2, 22, 0, 2, 0, 0, []), (22, 23, 11, 11, 51, 0, [111]), (31, 26, 24, 3, 438, 3, [118, 74]), (2, 29, 0, 2, 0, 0, []), (2, 30, 0, 2, 0, 0, []), (22, 31, 11, 3, 23, 0, [105]), (2, 34, 3, 0, 0, 0, []), (31, 35, 136, 11, 225, 2, [81, 48]), (3, 38, 5, 2, 1, 0, []), (2, 40, 4, 2, 1, 0, []), (22, 42, 7, 3, 229, 0, [139]), (15, 45, 28, 0, 1, 0, []), (2, 48, 5, 2, 1, 0, []), (22, 50, 7, 3, 229, 0, [139]), (15, 53, 30, 0, 0, 0, []), (0, 56, 122, 0, 3, (-2000000000), [3]), (34, 58, 0, 0, 0, 0, []), (2, 59, 1, 2, 0, 0, []), (2, 60, 2, 0, 0, 0, []), (2, 61, 5, 2, 1, 0, []), (2, 63, 2, 0, 0, 0, []), (2, 64, 4, 2, 1, 0, []), (2, 66, 2, 0, 0, 0, []), (32, 67, 138, 0, 251, 6, [83, 18]), (34, 70, 0, 0, 0, 0, [])]
noncomputable def i_X_compareOtherwise : MI := (⟨"TakenInTurns", "compareOtherwise", "(LTakenInTurns$Giving;II)I"⟩, prog_1_method_53_code, 6, Option.some Jvm.ClassFile.FieldType.int, 11, 3, t_X_compareOtherwise)
set_option maxRecDepth 100000 in
noncomputable def t_X_compareRows : List AI := [(0, 0, 0, 0, 0, 0, []), (3, 1, 6, 0, 1, 0, []), (0, 3, 0, 0, 0, 0, []), (3, 4, 7, 0, 1, 0, []), (1, 6, 0, 0, 0, 0, []), (3, 7, 8, 1, 1, 0, []), (1, 9, 0, 0, 0, 0, []), (3, 10, 10, 1, 1, 0, []), (2, 12, 0, 2, 0, 0, []), (22, 13, 3, 6, 155, 0, [129]), (2, 16, 1, 0, 0, 0, []), (25, 17, 106, 0, 0, 0, []), (3, 18, 12, 2, 1, 0, []), (2, 20, 0, 2, 0, 0, []), (22, 21, 3, 7, 148, 0, [127]), (2, 24, 1, 0, 0, 0, []), (25, 25, 106, 0, 0, 0, []), (3, 26, 13, 2, 1, 0, []), (0, 28, 0, 0, 0, 0, []), (3, 29, 14, 0, 1, 0, []), (2, 31, 14, 0, 1, 0, []), (2, 33, 0, 2, 0, 0, []), (22, 34, 3, 5, 152, 0, [128]), (2, 37, 1, 0, 0, 0, []), (25, 38, 100, 0, 0, 0, []), (16, 39, 113, 0, 3, 0, []), (2, 42, 8, 1, 1, 0, []), (2, 44, 2, 2, 0, 0, []), (22, 45, 7, 0, 237, 0, [140]), (2, 48, 3, 0, 0, 0, []), (0, 49, 0, 0, 1, 8, []), (5, 51, 0, 0, 2, 0, []), (2, 52, 12, 2, 1, 0, []), (2, 54, 14, 0, 1, 0, []), (25, 56, 100, 0, 0, 0, []), (5, 57, 0, 0, 0, 0, []), (25, 58, 101, 0, 0, 0, []), (7, 59, 0, 0, 0, 0, []), (3, 60, 8, 1, 1, 0, []), (2, 62, 10, 1, 1, 0, []), (2, 64, 4, 2, 1, 0, []), (22, 66, 7, 0, 237, 0, [140]), (2, 69, 5, 0, 1, 0, []), (0, 71, 0, 0, 1, 8, []), (5, 73, 0, 0, 2, 0, []), (2, 74, 12, 2, 1, 0, []), (2, 76, 14, 0, 1, 0, []), (25, 78, 100, 0, 0, 0, []), (5, 79, 0, 0, 0, 0, []), (25, 80, 101, 0, 0, 0, []), (7, 81, 0, 0, 0, 0, []), (3, 82, 10, 1, 1, 0, []), (2, 84, 14, 0, 1, 0, []), (0, 86, 0, 0, 0, 1, []), (5, 87, 0, 0, 0, 0, []), (2, 88, 0, 2, 0, 0, []), (22, 89, 3, 5, 152, 0, [128]), (2, 92, 1, 0, 0, 0, []), (25, 93, 100, 0, 0, 0, []), (16, 94, 73, 0, 0, 0, []), (2, 97, 13, 2, 1, 0, []), (2, 99, 12, 2, 1, 0, []), (2, 101, 14, 0, 1, 0, []), (0, 103, 0, 0, 0, 1, []), (5, 104, 0, 0, 0, 0, []), (25, 105, 100, 0, 0, 0, []), (25, 106, 100, 0, 0, 0, []), (2, 107, 13, 2, 1, 0, []), (2, 109, 12, 2, 1, 0, []), (2, 111, 14, 0, 1, 0, []), (25, 113, 100, 0, 0, 0, []), (25, 114, 100, 0, 0, 0, []), (16, 115, 75, 0, 0, 0, []), (0, 118, 0, 0, 0, 1, []), (19, 119, 76, 0, 0, 0, []), (0, 122, 0, 0, 0, 0, []), (3, 123, 15, 0, 1, 0, []), (2, 125, 15, 0, 1, 0, []), (15, 127, 111, 0, 0, 0, []), (2, 130, 6, 0, 1, 0, []), (15, 132, 91, 0, 1, 0, []), (2, 135, 8, 1, 1, 0, []), (2, 137, 4, 2, 1, 0, []), (22, 139, 7, 1, 240, 0, [141]), (7, 142, 0, 0, 2, 0, []), (2, 143, 10, 1, 1, 0, []), (2, 145, 2, 2, 0, 0, []), (22, 146, 7, 1, 240, 0, [141]), (7, 149, 0, 0, 2, 0, []), (14, 150, 93, 0, 5, 0, []), (15, 151, 93, 0, 5, 0, []), (0, 154, 0, 0, 0, 1, []), (19, 155, 94, 0, 0, 0, []), (0, 158, 0, 0, 0, 0, []), (3, 159, 6, 0, 1, 0, []), (2, 161, 7, 0, 1, 0, []), (15, 163, 107, 0, 1, 0, []), (2, 166, 8, 1, 1, 0, []), (2, 168, 4, 2, 1, 0, []), (22, 170, 7, 1, 240, 0, [141]), (7, 173, 0, 0, 2, 0, []), (2, 174, 10, 1, 1, 0, []), (2, 176, 2, 2, 0, 0, []), (22, 177, 7, 1, 240, 0, [141]), (7, 180, 0, 0, 2, 0, []), (14, 181, 109, 0, 3, 0, []), (15, 182, 109, 0, 3, 0, []), (0, 185, 0, 0, 0, 1, []), (19, 186, 110, 0, 0, 0, []), (0, 189, 0, 0, 0, 0, []), (3, 190, 7, 0, 1, 0, []), (4, 192, 14, 0, 0, 1, []), (19, 195, 20, 0, 0, 0, []), (2, 198, 6, 0, 1, 0, []), (15, 200, 119, 0, 0, 0, []), (2, 203, 7, 0, 1, 0, []), (15, 205, 119, 0, 0, 0, []), (0, 208, 0, 0, 0, 2, []), (34, 209, 0, 0, 0, 0, []), (2, 210, 6, 0, 1, 0, []), (15, 212, 123, 0, 0, 0, []), (0, 215, 0, 0, 0, 1, []), (19, 216, 128, 0, 0, 0, []), (2, 219, 7, 0, 1, 0, []), (15, 221, 127, 0, 0, 0, []), (0, 224, 0, 0, 0, (-1), []), (19, 225, 128, 0, 0, 0, []), (0, 228, 0, 0, 0, 0, []), (34, 229, 0, 0, 0, 0, [])]
noncomputable def i_X_compareRows : MI := (⟨"TakenInTurns", "compareRows", "(LTakenInTurns$Giving;ILTakenInTurns$Shares;ILTakenInTurns$Shares;I)I"⟩, prog_1_method_54_code, 16, Option.some Jvm.ClassFile.FieldType.int, 11, 6, t_X_compareRows)
set_option maxRecDepth 100000 in
noncomputable def t_X_findSwap : List AI := [(0, 0, 442, 0, 4, 1000000, [5]), (3, 3, 2, 0, 0, 0, []), (2, 4, 0, 2, 0, 0, []), (22, 5, 11, 10, 48, 0, [110]), (2, 8, 1, 2, 0, 0, []), (22, 9, 3, 1, 136, 0, [124]), (32, 12, 143, 0, 262, 2, [86, 11]), (0, 15, 0, 0, 0, 0, []), (3, 16, 3, 0, 0, 0, []), (2, 17, 3, 0, 0, 0, []), (0, 18, 266, 0, 4, 40320, [4]), (16, 21, 46, 0, 3, 0, []), (2, 24, 0, 2, 0, 0, []), (22, 25, 11, 9, 45, 0, [109]), (2, 28, 1, 2, 0, 0, []), (2, 29, 0, 2, 0, 0, []), (22, 30, 11, 10, 48, 0, [110]), (0, 33, 0, 0, 0, 1, []), (31, 34, 33, 4, 177, 3, [75, 23]), (2, 37, 0, 2, 0, 0, []), (22, 38, 11, 9, 45, 0, [109]), (2, 41, 1, 2, 0, 0, []), (31, 42, 37, 4, 443, 1, [119, 75]), (3, 45, 4, 0, 1, 0, []), (2, 47, 4, 0, 1, 0, []), (2, 49, 2, 0, 0, 0, []), (16, 50, 37, 0, 3, 0, []), (2, 53, 4, 0, 1, 0, []), (3, 55, 2, 0, 0, 0, []), (2, 56, 1, 2, 0, 0, []), (2, 57, 0, 2, 0, 0, []), (22, 58, 11, 10, 48, 0, [110]), (2, 61, 1, 2, 0, 0, []), (22, 62, 3, 1, 136, 0, [124]), (0, 65, 0, 0, 0, 0, []), (32, 66, 142, 0, 267, 3, [87, 4]), (23, 69, 3, 11, 349, 0, [156]), (2, 72, 0, 2, 0, 0, []), (22, 73, 11, 10, 48, 0, [110]), (2, 76, 1, 2, 0, 0, []), (22, 77, 3, 1, 136, 0, [124]), (32, 80, 144, 0, 271, 2, [88, 12]), (15, 83, 44, 0, 1, 0, []), (19, 86, 46, 0, 0, 0, []), (4, 89, 3, 0, 0, 1, []), (19, 92, 9, 0, 0, 0, []), (2, 95, 1, 2, 0, 0, []), (2, 96, 2, 0, 0, 0, []), (23, 97, 3, 12, 352, 0, [157]), (2, 100, 1, 2, 0, 0, []), (0, 101, 0, 0, 0, 1, []), (23, 102, 3, 10, 343, 0, [155]), (34, 105, 0, 0, 0, 0, [])]
noncomputable def i_X_findSwap : MI := (⟨"TakenInTurns", "findSwap", "(LTakenInTurns$Giving;)V"⟩, prog_1_method_55_code, 5, none, 11, 1, t_X_findSwap)
set_option maxRecDepth 100000 in
noncomputable def t_X_fewestFirst : List AI := [(0, 0, 0, 0, 0, 1, []), (3, 1, 2, 0, 0, 0, []), (2, 2, 2, 0, 0, 0, []), (2, 3, 1, 0, 0, 0, []), (16, 4, 48, 0, 3, 0, []), (2, 7, 0, 2, 0, 0, []), (22, 8, 11, 10, 48, 0, [110]), (2, 11, 2, 0, 0, 0, []), (25, 12, 100, 0, 0, 0, []), (3, 13, 3, 0, 0, 0, []), (2, 14, 2, 0, 0, 0, []), (3, 15, 4, 0, 1, 0, []), (2, 17, 4, 0, 1, 0, []), (15, 19, 41, 0, 5, 0, []), (2, 22, 0, 2, 0, 0, []), (22, 23, 11, 12, 54, 0, [112]), (2, 26, 0, 2, 0, 0, []), (22, 27, 11, 10, 48, 0, [110]), (2, 30, 4, 0, 1, 0, []), (0, 32, 0, 0, 0, 1, []), (5, 33, 0, 0, 1, 0, []), (25, 34, 100, 0, 0, 0, []), (25, 35, 101, 0, 0, 0, []), (2, 36, 0, 2, 0, 0, []), (22, 37, 11, 12, 54, 0, [112]), (2, 40, 3, 0, 0, 0, []), (25, 41, 101, 0, 0, 0, []), (14, 42, 41, 0, 5, 0, []), (15, 43, 41, 0, 5, 0, []), (2, 46, 0, 2, 0, 0, []), (22, 47, 11, 10, 48, 0, [110]), (2, 50, 4, 0, 1, 0, []), (2, 52, 0, 2, 0, 0, []), (22, 53, 11, 10, 48, 0, [110]), (2, 56, 4, 0, 1, 0, []), (0, 58, 0, 0, 0, 1, []), (5, 59, 0, 0, 1, 0, []), (25, 60, 100, 0, 0, 0, []), (26, 61, 100, 0, 0, 0, []), (4, 62, 4, 0, 0, (-1), []), (19, 65, 12, 0, 0, 0, []), (2, 68, 0, 2, 0, 0, []), (22, 69, 11, 10, 48, 0, [110]), (2, 72, 4, 0, 1, 0, []), (2, 74, 3, 0, 0, 0, []), (26, 75, 100, 0, 0, 0, []), (4, 76, 2, 0, 0, 1, []), (19, 79, 2, 0, 0, 0, []), (34, 82, 0, 0, 0, 0, [])]
noncomputable def i_X_fewestFirst : MI := (⟨"TakenInTurns", "fewestFirst", "(I)V"⟩, prog_1_method_56_code, 5, none, 11, 1, t_X_fewestFirst)
set_option maxRecDepth 100000 in
noncomputable def t_X_readLine : List AI := [(2, 0, 0, 0, 0, 0, []), (15, 1, 6, 0, 2, 0, []), (2, 4, 1, 0, 0, 0, []), (2, 5, 3, 2, 0, 0, []), (27, 6, 0, 0, 0, 0, []), (16, 7, 8, 0, 5, 0, []), (0, 10, 0, 0, 0, 0, []), (34, 11, 0, 0, 0, 0, []), (2, 12, 0, 0, 0, 0, []), (3, 13, 4, 0, 1, 0, []), (0, 15, 0, 0, 0, 0, []), (3, 16, 5, 0, 1, 0, []), (2, 18, 1, 0, 0, 0, []), (0, 19, 0, 0, 0, 1, []), (5, 20, 0, 0, 1, 0, []), (3, 21, 6, 0, 1, 0, []), (2, 23, 6, 0, 1, 0, []), (15, 25, 53, 0, 2, 0, []), (2, 28, 4, 0, 1, 0, []), (0, 30, 0, 0, 1, 10, []), (6, 32, 0, 0, 1, 0, []), (2, 33, 2, 0, 0, 0, []), (5, 34, 0, 0, 1, 0, []), (3, 35, 7, 0, 1, 0, []), (2, 37, 4, 0, 1, 0, []), (0, 39, 0, 0, 1, 10, []), (6, 41, 0, 0, 0, 0, []), (3, 42, 4, 0, 1, 0, []), (2, 44, 7, 0, 1, 0, []), (15, 46, 39, 0, 2, 0, []), (2, 49, 7, 0, 1, 0, []), (2, 51, 1, 0, 0, 0, []), (16, 52, 39, 0, 3, 0, []), (2, 55, 5, 0, 1, 0, []), (2, 57, 7, 0, 1, 0, []), (5, 59, 0, 0, 7, 0, []), (0, 60, 0, 0, 0, 1, []), (5, 61, 0, 0, 3, 0, []), (15, 62, 41, 0, 0, 0, []), (0, 65, 0, 0, 0, 0, []), (34, 66, 0, 0, 0, 0, []), (2, 67, 5, 0, 1, 0, []), (0, 69, 0, 0, 0, 1, []), (2, 70, 7, 0, 1, 0, []), (5, 72, 0, 0, 6, 0, []), (5, 73, 0, 0, 4, 0, []), (3, 74, 5, 0, 1, 0, []), (2, 76, 3, 2, 0, 0, []), (2, 77, 6, 0, 1, 0, []), (2, 79, 7, 0, 1, 0, []), (26, 81, 100, 0, 0, 0, []), (4, 82, 6, 0, 0, (-1), []), (19, 85, 16, 0, 0, 0, []), (2, 88, 4, 0, 1, 0, []), (15, 90, 57, 0, 1, 0, []), (0, 93, 0, 0, 0, 1, []), (19, 94, 58, 0, 0, 0, []), (0, 97, 0, 0, 0, 0, []), (34, 98, 0, 0, 0, 0, [])]
noncomputable def i_X_readLine : MI := (⟨"TakenInTurns", "readLine", "(III[I)Z"⟩, prog_1_method_57_code, 8, Option.some Jvm.ClassFile.FieldType.boolean, 11, 4, t_X_readLine)
set_option maxRecDepth 100000 in
noncomputable def t_X_numberOf : List AI := [(0, 0, 0, 0, 0, 0, []), (3, 1, 3, 0, 0, 0, []), (0, 2, 0, 0, 0, 0, []), (3, 3, 4, 0, 1, 0, []), (2, 5, 4, 0, 1, 0, []), (2, 7, 1, 0, 0, 0, []), (16, 8, 23, 0, 3, 0, []), (2, 11, 4, 0, 1, 0, []), (2, 13, 0, 2, 0, 0, []), (27, 14, 0, 0, 0, 0, []), (16, 15, 23, 0, 3, 0, []), (2, 18, 3, 0, 0, 0, []), (0, 19, 0, 0, 1, 10, []), (5, 21, 0, 0, 2, 0, []), (2, 22, 0, 2, 0, 0, []), (2, 23, 4, 0, 1, 0, []), (25, 25, 100, 0, 0, 0, []), (5, 26, 0, 0, 0, 0, []), (2, 27, 2, 0, 0, 0, []), (5, 28, 0, 0, 0, 0, []), (3, 29, 3, 0, 0, 0, []), (4, 30, 4, 0, 0, 1, []), (19, 33, 4, 0, 0, 0, []), (2, 36, 3, 0, 0, 0, []), (34, 37, 0, 0, 0, 0, [])]
noncomputable def i_X_numberOf : MI := (⟨"TakenInTurns", "numberOf", "([III)I"⟩, prog_1_method_58_code, 5, Option.some Jvm.ClassFile.FieldType.int, 11, 3, t_X_numberOf)
set_option maxRecDepth 100000 in
noncomputable def t_X_firstLine : List AI := [(0, 0, 0, 0, 0, 0, []), (3, 1, 2, 0, 0, 0, []), (2, 2, 2, 0, 0, 0, []), (2, 3, 1, 0, 0, 0, []), (16, 4, 15, 0, 3, 0, []), (2, 7, 2, 0, 0, 0, []), (2, 8, 0, 2, 0, 0, []), (27, 9, 0, 0, 0, 0, []), (16, 10, 15, 0, 3, 0, []), (2, 13, 0, 2, 0, 0, []), (2, 14, 2, 0, 0, 0, []), (2, 15, 2, 0, 0, 0, []), (26, 16, 100, 0, 0, 0, []), (4, 17, 2, 0, 0, 1, []), (19, 20, 2, 0, 0, 0, []), (34, 23, 0, 0, 0, 0, [])]
noncomputable def i_X_firstLine : MI := (⟨"TakenInTurns", "firstLine", "([II)V"⟩, prog_1_method_59_code, 3, none, 11, 2, t_X_firstLine)
set_option maxRecDepth 100000 in
noncomputable def t_X_nextLine : List AI := [(2, 0, 1, 0, 0, 0, []), (0, 1, 0, 0, 0, 2, []), (5, 2, 0, 0, 1, 0, []), (3, 3, 2, 0, 0, 0, []), (2, 4, 2, 0, 0, 0, []), (15, 5, 17, 0, 2, 0, []), (2, 8, 0, 2, 0, 0, []), (2, 9, 2, 0, 0, 0, []), (25, 10, 100, 0, 0, 0, []), (2, 11, 0, 2, 0, 0, []), (2, 12, 2, 0, 0, 0, []), (0, 13, 0, 0, 0, 1, []), (5, 14, 0, 0, 0, 0, []), (25, 15, 100, 0, 0, 0, []), (16, 16, 17, 0, 5, 0, []), (4, 19, 2, 0, 0, (-1), []), (19, 22, 4, 0, 0, 0, []), (2, 25, 2, 0, 0, 0, []), (15, 26, 21, 0, 3, 0, []), (0, 29, 0, 0, 0, 0, []), (34, 30, 0, 0, 0, 0, []), (2, 31, 1, 0, 0, 0, []), (0, 32, 0, 0, 0, 1, []), (5, 33, 0, 0, 1, 0, []), (3, 34, 3, 0, 0, 0, []), (2, 35, 3, 0, 0, 0, []), (2, 36, 2, 0, 0, 0, []), (16, 37, 37, 0, 5, 0, []), (2, 40, 0, 2, 0, 0, []), (2, 41, 3, 0, 0, 0, []), (25, 42, 100, 0, 0, 0, []), (2, 43, 0, 2, 0, 0, []), (2, 44, 2, 0, 0, 0, []), (25, 45, 100, 0, 0, 0, []), (16, 46, 37, 0, 3, 0, []), (4, 49, 3, 0, 0, (-1), []), (19, 52, 25, 0, 0, 0, []), (2, 55, 0, 2, 0, 0, []), (2, 56, 2, 0, 0, 0, []), (2, 57, 3, 0, 0, 0, []), (32, 58, 145, 0, 447, 3, [120, 22]), (2, 61, 2, 0, 0, 0, []), (0, 62, 0, 0, 0, 1, []), (5, 63, 0, 0, 0, 0, []), (3, 64, 4, 0, 1, 0, []), (2, 66, 1, 0, 0, 0, []), (0, 67, 0, 0, 0, 1, []), (5, 68, 0, 0, 1, 0, []), (3, 69, 5, 0, 1, 0, []), (2, 71, 4, 0, 1, 0, []), (2, 73, 5, 0, 1, 0, []), (16, 75, 59, 0, 3, 0, []), (2, 78, 0, 2, 0, 0, []), (2, 79, 4, 0, 1, 0, []), (2, 81, 5, 0, 1, 0, []), (32, 83, 145, 0, 447, 3, [120, 22]), (4, 86, 4, 0, 0, 1, []), (4, 89, 5, 0, 0, (-1), []), (19, 92, 49, 0, 0, 0, []), (0, 95, 0, 0, 0, 1, []), (34, 96, 0, 0, 0, 0, [])]
noncomputable def i_X_nextLine : MI := (⟨"TakenInTurns", "nextLine", "([II)Z"⟩, prog_1_method_60_code, 6, Option.some Jvm.ClassFile.FieldType.boolean, 11, 2, t_X_nextLine)
set_option maxRecDepth 100000 in
noncomputable def t_X_exchange : List AI := [(2, 0, 0, 2, 0, 0, []), (2, 1, 1, 0, 0, 0, []), (25, 2, 100, 0, 0, 0, []), (3, 3, 3, 0, 0, 0, []), (2, 4, 0, 2, 0, 0, []), (2, 5, 1, 0, 0, 0, []), (2, 6, 0, 2, 0, 0, []), (2, 7, 2, 0, 0, 0, []), (25, 8, 100, 0, 0, 0, []), (26, 9, 100, 0, 0, 0, []), (2, 10, 0, 2, 0, 0, []), (2, 11, 2, 0, 0, 0, []), (2, 12, 3, 0, 0, 0, []), (26, 13, 100, 0, 0, 0, []), (34, 14, 0, 0, 0, 0, [])]
noncomputable def i_X_exchange : MI := (⟨"TakenInTurns", "exchange", "([III)V"⟩, prog_1_method_61_code, 4, none, 11, 3, t_X_exchange)
set_option maxRecDepth 100000 in
noncomputable def t_X_commonOf : List AI := [(2, 0, 0, 1, 0, 0, []), (42, 1, 250, 4, 450, 0, [121]), (3, 4, 4, 1, 1, 0, []), (2, 6, 2, 1, 0, 0, []), (42, 7, 250, 4, 450, 0, [121]), (3, 10, 6, 1, 1, 0, []), (0, 12, 0, 0, 0, 0, []), (3, 13, 8, 0, 1, 0, []), (2, 15, 8, 0, 1, 0, []), (0, 17, 0, 0, 2, 200, []), (16, 20, 25, 0, 3, 0, []), (2, 23, 6, 1, 1, 0, []), (1, 25, 0, 0, 0, 0, []), (14, 26, 25, 0, 0, 0, []), (15, 27, 25, 0, 0, 0, []), (2, 30, 4, 1, 1, 0, []), (2, 32, 6, 1, 1, 0, []), (8, 34, 0, 0, 1, 0, []), (3, 35, 9, 1, 1, 0, []), (2, 37, 6, 1, 1, 0, []), (3, 39, 4, 1, 1, 0, []), (2, 41, 9, 1, 1, 0, []), (3, 43, 6, 1, 1, 0, []), (4, 45, 8, 0, 0, 1, []), (19, 48, 8, 0, 0, 0, []), (2, 51, 4, 1, 1, 0, []), (1, 53, 0, 0, 0, 0, []), (14, 54, 31, 0, 1, 0, []), (15, 55, 31, 0, 1, 0, []), (1, 58, 0, 0, 0, 1, []), (19, 59, 32, 0, 0, 0, []), (2, 62, 4, 1, 1, 0, []), (34, 64, 0, 0, 0, 0, [])]
noncomputable def i_X_commonOf : MI := (⟨"TakenInTurns", "commonOf", "(JJ)J"⟩, prog_1_method_62_code, 11, Option.some Jvm.ClassFile.FieldType.long, 11, 2, t_X_commonOf)
set_option maxRecDepth 100000 in
noncomputable def t_M_init : List AI := [(2, 0, 0, 2, 0, 0, []), (41, 1, 0, 0, 1, 0, [16]), (2, 4, 0, 2, 0, 0, []), (0, 5, 0, 0, 1, 6, []), (38, 7, 100, 0, 0, 0, []), (23, 9, 12, 1, 7, 0, [163]), (2, 12, 0, 2, 0, 0, []), (0, 13, 0, 0, 1, 6, []), (38, 15, 100, 0, 0, 0, []), (23, 17, 12, 2, 13, 0, [164]), (2, 20, 0, 2, 0, 0, []), (0, 21, 0, 0, 1, 6, []), (38, 23, 100, 0, 0, 0, []), (23, 25, 12, 3, 16, 0, [165]), (2, 28, 0, 2, 0, 0, []), (0, 29, 0, 0, 1, 48, []), (38, 31, 100, 0, 0, 0, []), (23, 33, 12, 4, 19, 0, [166]), (2, 36, 0, 2, 0, 0, []), (0, 37, 0, 0, 1, 42, []), (38, 39, 100, 0, 0, 0, []), (23, 41, 12, 5, 22, 0, [167]), (2, 44, 0, 2, 0, 0, []), (0, 45, 0, 0, 1, 42, []), (38, 47, 100, 0, 0, 0, []), (23, 49, 12, 6, 25, 0, [168]), (2, 52, 0, 2, 0, 0, []), (0, 53, 0, 0, 2, 336, []), (38, 56, 100, 0, 0, 0, []), (23, 58, 12, 7, 28, 0, [169]), (2, 61, 0, 2, 0, 0, []), (0, 62, 0, 0, 2, 336, []), (38, 65, 100, 0, 0, 0, []), (23, 67, 12, 8, 31, 0, [170]), (2, 70, 0, 2, 0, 0, []), (0, 71, 0, 0, 2, 336, []), (38, 74, 100, 0, 0, 0, []), (23, 76, 12, 9, 34, 0, [171]), (2, 79, 0, 2, 0, 0, []), (0, 80, 0, 0, 1, 15, []), (38, 82, 100, 0, 0, 0, []), (23, 84, 12, 11, 37, 0, [172]), (2, 87, 0, 2, 0, 0, []), (0, 88, 0, 0, 1, 120, []), (38, 90, 100, 0, 0, 0, []), (23, 92, 12, 12, 40, 0, [173]), (2, 95, 0, 2, 0, 0, []), (0, 96, 0, 0, 0, (-1), []), (23, 97, 12, 14, 43, 0, [174]), (2, 100, 0, 2, 0, 0, []), (0, 101, 0, 0, 1, 56, []), (38, 103, 100, 0, 0, 0, []), (23, 105, 12, 15, 47, 0, [175]), (2, 108, 0, 2, 0, 0, []), (0, 109, 0, 0, 1, 8, []), (38, 111, 100, 0, 0, 0, []), (23, 113, 12, 16, 50, 0, [176]), (2, 116, 0, 2, 0, 0, []), (0, 117, 0, 0, 1, 21, []), (38, 119, 100, 0, 0, 0, []), (23, 121, 12, 17, 53, 0, [177]), (2, 124, 0, 2, 0, 0, []), (0, 125, 0, 0, 1, 21, []), (38, 127, 100, 0, 0, 0, []), (23, 129, 12, 18, 56, 0, [178]), (2, 132, 0, 2, 0, 0, []), (0, 133, 0, 0, 1, 7, []), (38, 135, 100, 0, 0, 0, []), (23, 137, 12, 19, 59, 0, [179]), (2, 140, 0, 2, 0, 0, []), (0, 141, 0, 0, 1, 6, []), (38, 143, 100, 0, 0, 0, []), (23, 145, 12, 22, 62, 0, [180]), (2, 148, 0, 2, 0, 0, []), (1, 149, 65, 0, 1, (-1), [6]), (23, 152, 12, 23, 67, 0, [181]), (2, 155, 0, 2, 0, 0, []), (1, 156, 0, 0, 0, 1, []), (23, 157, 12, 24, 71, 0, [182]), (2, 160, 0, 2, 0, 0, []), (0, 161, 0, 0, 1, 24, []), (38, 163, 100, 0, 0, 0, []), (23, 165, 12, 25, 74, 0, [183]), (2, 168, 0, 2, 0, 0, []), (0, 169, 0, 0, 1, 6, []), (38, 171, 100, 0, 0, 0, []), (28, 173, 0, 0, 0, 0, []), (0, 174, 0, 0, 0, 0, []), (0, 175, 0, 0, 0, (-1), []), (26, 176, 100, 0, 0, 0, []), (28, 177, 0, 0, 0, 0, []), (0, 178, 0, 0, 0, 1, []), (0, 179, 0, 0, 0, (-1), []), (26, 180, 100, 0, 0, 0, []), (28, 181, 0, 0, 0, 0, []), (0, 182, 0, 0, 0, 2, []), (0, 183, 0, 0, 0, (-1), []), (26, 184, 100, 0, 0, 0, []), (28, 185, 0, 0, 0, 0, []), (0, 186, 0, 0, 0, 3, []), (0, 187, 0, 0, 0, (-1), []), (26, 188, 100, 0, 0, 0, []), (28, 189, 0, 0, 0, 0, []), (0, 190, 0, 0, 0, 4, []), (0, 191, 0, 0, 0, (-1), []), (26, 192, 100, 0, 0, 0, []), (28, 193, 0, 0, 0, 0, []), (0, 194, 0, 0, 0, 5, []), (0, 195, 0, 0, 0, (-1), []), (26, 196, 100, 0, 0, 0, []), (23, 197, 12, 27, 77, 0, [184]), (2, 200, 0, 2, 0, 0, []), (0, 201, 0, 0, 1, 6, []), (38, 203, 100, 0, 0, 0, []), (28, 205, 0, 0, 0, 0, []), (0, 206, 0, 0, 0, 0, []), (0, 207, 0, 0, 0, (-1), []), (26, 208, 100, 0, 0, 0, []), (28, 209, 0, 0, 0, 0, []), (0, 210, 0, 0, 0, 1, []), (0, 211, 0, 0, 0, (-1), []), (26, 212, 100, 0, 0, 0, []), (28, 213, 0, 0, 0, 0, []), (0, 214, 0, 0, 0, 2, []), (0, 215, 0, 0, 0, (-1), []), (26, 216, 100, 0, 0, 0, []), (28, 217, 0, 0, 0, 0, []), (0, 218, 0, 0, 0, 3, []), (0, 219, 0, 0, 0, (-1), []), (26, 220, 100, 0, 0, 0, []), (28, 221, 0, 0, 0, 0, []), (0, 222, 0, 0, 0, 4, []), (0, 223, 0, 0, 0, (-1), []), (26, 224, 100, 0, 0, 0, []), (28, 225, 0, 0, 0, 0, []), (0, 226, 0, 0, 0, 5, []), (0, 227, 0, 0, 0, (-1), []), (26, 228, 100, 0, 0, 0, []), (23, 229, 12, 28, 80, 0, [185]), (2, 232, 0, 2, 0, 0, []), (0, 233, 0, 0, 1, 6, []), (38, 235, 100, 0, 0, 0, []), (23, 237, 12, 29, 83, 0, [186]), (2, 240, 0, 2, 0, 0, []), (0, 241, 0, 0, 2, 360, []), (38, 244, 101, 0, 0, 0, []), (23, 246, 12, 30, 86, 0, [187]), (2, 249, 0, 2, 0, 0, []), (0, 250, 0, 0, 1, 7, []), (38, 252, 100, 0, 0, 0, []), (23, 254, 12, 32, 90, 0, [188]), (2, 257, 0, 2, 0, 0, []), (0, 258, 0, 0, 1, 56, []), (38, 260, 100, 0, 0, 0, []), (23, 262, 12, 33, 93, 0, [189]), (2, 265, 0, 2, 0, 0, []), (0, 266, 0, 0, 1, 8, []), (38, 268, 100, 0, 0, 0, []), (23, 270, 12, 34, 96, 0, [190]), (2, 273, 0, 2, 0, 0, []), (0, 274, 0, 0, 1, 21, []), (38, 276, 100, 0, 0, 0, []), (23, 278, 12, 35, 99, 0, [191]), (2, 281, 0, 2, 0, 0, []), (0, 282, 0, 0, 1, 21, []), (38, 284, 100, 0, 0, 0, []), (23, 286, 12, 36, 102, 0, [192]), (2, 289, 0, 2, 0, 0, []), (0, 290, 0, 0, 1, 7, []), (38, 292, 100, 0, 0, 0, []), (23, 294, 12, 37, 105, 0, [193]), (2, 297, 0, 2, 0, 0, []), (0, 298, 0, 0, 1, 7, []), (38, 300, 100, 0, 0, 0, []), (23, 302, 12, 38, 108, 0, [194]), (2, 305, 0, 2, 0, 0, []), (0, 306, 0, 0, 1, 7, []), (38, 308, 100, 0, 0, 0, []), (23, 310, 12, 39, 111, 0, [195]), (2, 313, 0, 2, 0, 0, []), (0, 314, 0, 0, 1, 56, []), (38, 316, 101, 0, 0, 0, []), (23, 318, 12, 41, 114, 0, [196]), (2, 321, 0, 2, 0, 0, []), (0, 322, 0, 0, 1, 56, []), (38, 324, 101, 0, 0, 0, []), (23, 326, 12, 42, 117, 0, [197]), (2, 329, 0, 2, 0, 0, []), (0, 330, 0, 0, 1, 56, []), (38, 332, 100, 0, 0, 0, []), (23, 334, 12, 45, 120, 0, [198]), (2, 337, 0, 2, 0, 0, []), (0, 338, 0, 0, 1, 8, []), (38, 340, 101, 0, 0, 0, []), (23, 342, 12, 46, 123, 0, [199]), (2, 345, 0, 2, 0, 0, []), (0, 346, 0, 0, 1, 8, []), (38, 348, 101, 0, 0, 0, []), (23, 350, 12, 47, 126, 0, [200]), (2, 353, 0, 2, 0, 0, []), (0, 354, 0, 0, 1, 7, []), (38, 356, 100, 0, 0, 0, []), (23, 358, 12, 50, 129, 0, [201]), (2, 361, 0, 2, 0, 0, []), (0, 362, 0, 0, 1, 8, []), (38, 364, 100, 0, 0, 0, []), (23, 366, 12, 51, 132, 0, [202]), (2, 369, 0, 2, 0, 0, []), (0, 370, 0, 0, 1, 7, []), (38, 372, 100, 0, 0, 0, []), (23, 374, 12, 52, 135, 0, [203]), (2, 377, 0, 2, 0, 0, []), (0, 378, 0, 0, 1, 7, []), (38, 380, 100, 0, 0, 0, []), (23, 382, 12, 53, 138, 0, [204]), (2, 385, 0, 2, 0, 0, []), (0, 386, 0, 0, 1, 7, []), (38, 388, 102, 0, 0, 0, []), (23, 390, 12, 54, 141, 0, [205]), (2, 393, 0, 2, 0, 0, []), (0, 394, 0, 0, 1, 7, []), (38, 396, 100, 0, 0, 0, []), (23, 398, 12, 55, 145, 0, [206]), (2, 401, 0, 2, 0, 0, []), (0, 402, 0, 0, 1, 56, []), (38, 404, 100, 0, 0, 0, []), (23, 406, 12, 56, 148, 0, [207]), (2, 409, 0, 2, 0, 0, []), (0, 410, 0, 0, 1, 8, []), (38, 412, 101, 0, 0, 0, []), (23, 414, 12, 57, 151, 0, [208]), (2, 417, 0, 2, 0, 0, []), (0, 418, 0, 0, 1, 8, []), (38, 420, 101, 0, 0, 0, []), (23, 422, 12, 58, 154, 0, [209]), (2, 425, 0, 2, 0, 0, []), (0, 426, 0, 0, 1, 8, []), (38, 428, 100, 0, 0, 0, []), (23, 430, 12, 59, 157, 0, [210]), (2, 433, 0, 2, 0, 0, []), (0, 434, 0, 0, 1, 7, []), (38, 436, 100, 0, 0, 0, []), (23, 438, 12, 60, 160, 0, [211]), (2, 441, 0, 2, 0, 0, []), (0, 442, 0, 0, 1, 8, []), (38, 444, 100, 0, 0, 0, []), (23, 446, 12, 61, 163, 0, [212]), (2, 449, 0, 2, 0, 0, []), (0, 450, 0, 0, 1, 8, []), (38, 452, 100, 0, 0, 0, []), (23, 454, 12, 62, 166, 0, [213]), (2, 457, 0, 2, 0, 0, []), (0, 458, 0, 0, 1, 42, []), (38, 460, 100, 0, 0, 0, []), (23, 462, 12, 63, 169, 0, [214]), (2, 465, 0, 2, 0, 0, []), (0, 466, 0, 0, 1, 7, []), (38, 468, 100, 0, 0, 0, []), (23, 470, 12, 64, 172, 0, [215]), (34, 473, 0, 0, 0, 0, [])]
noncomputable def i_M_init : MI := (⟨"TakenInTurnsModel", "<init>", "()V"⟩, prog_14_method_1_code, 1, none, 12, 0, t_M_init)
set_option maxRecDepth 100000 in
noncomputable def t_M_in : List AI := [(2, 0, 0, 0, 0, 0, []), (2, 1, 1, 0, 0, 0, []), (16, 2, 8, 0, 2, 0, []), (2, 5, 0, 0, 0, 0, []), (2, 6, 2, 0, 0, 0, []), (16, 7, 8, 0, 4, 0, []), (0, 10, 0, 0, 0, 1, []), (19, 11, 9, 0, 0, 0, []), (0, 14, 0, 0, 0, 0, []), (34, 15, 0, 0, 0, 0, [])]
noncomputable def i_M_in : MI := (⟨"TakenInTurnsModel", "in", "(III)Z"⟩, prog_14_method_3_code, 3, Option.some Jvm.ClassFile.FieldType.boolean, 12, 3, t_M_in)
set_option maxRecDepth 100000 in
noncomputable def t_M_isGiving : List AI := [(2, 0, 1, 0, 0, 0, []), (0, 1, 0, 0, 0, 0, []), (2, 2, 0, 2, 0, 0, []), (22, 3, 12, 0, 175, 0, [216]), (0, 6, 0, 0, 0, 1, []), (5, 7, 0, 0, 1, 0, []), (32, 8, 148, 0, 178, 3, [122, 23]), (34, 11, 0, 0, 0, 0, [])]
noncomputable def i_M_isGiving : MI := (⟨"TakenInTurnsModel", "isGiving", "(I)Z"⟩, prog_14_method_4_code, 2, Option.some Jvm.ClassFile.FieldType.boolean, 12, 1, t_M_isGiving)
set_option maxRecDepth 100000 in
noncomputable def t_M_isPerson : List AI := [(2, 0, 0, 2, 0, 0, []), (2, 1, 1, 0, 0, 0, []), (31, 2, 149, 12, 182, 1, [123, 76]), (15, 5, 16, 0, 0, 0, []), (2, 8, 2, 0, 0, 0, []), (0, 9, 0, 0, 0, 0, []), (2, 10, 0, 2, 0, 0, []), (22, 11, 12, 1, 7, 0, [163]), (2, 14, 1, 0, 0, 0, []), (25, 15, 100, 0, 0, 0, []), (0, 16, 0, 0, 0, 1, []), (5, 17, 0, 0, 1, 0, []), (32, 18, 148, 0, 178, 3, [122, 23]), (15, 21, 16, 0, 0, 0, []), (0, 24, 0, 0, 0, 1, []), (19, 25, 17, 0, 0, 0, []), (0, 28, 0, 0, 0, 0, []), (34, 29, 0, 0, 0, 0, [])]
noncomputable def i_M_isPerson : MI := (⟨"TakenInTurnsModel", "isPerson", "(II)Z"⟩, prog_14_method_5_code, 3, Option.some Jvm.ClassFile.FieldType.boolean, 12, 2, t_M_isPerson)
set_option maxRecDepth 100000 in
noncomputable def t_M_isThing : List AI := [(2, 0, 0, 2, 0, 0, []), (2, 1, 1, 0, 0, 0, []), (31, 2, 149, 12, 182, 1, [123, 76]), (15, 5, 16, 0, 0, 0, []), (2, 8, 2, 0, 0, 0, []), (0, 9, 0, 0, 0, 0, []), (2, 10, 0, 2, 0, 0, []), (22, 11, 12, 2, 13, 0, [164]), (2, 14, 1, 0, 0, 0, []), (25, 15, 100, 0, 0, 0, []), (0, 16, 0, 0, 0, 1, []), (5, 17, 0, 0, 1, 0, []), (32, 18, 148, 0, 178, 3, [122, 23]), (15, 21, 16, 0, 0, 0, []), (0, 24, 0, 0, 0, 1, []), (19, 25, 17, 0, 0, 0, []), (0, 28, 0, 0, 0, 0, []), (34, 29, 0, 0, 0, 0, [])]
noncomputable def i_M_isThing : MI := (⟨"TakenInTurnsModel", "isThing", "(II)Z"⟩, prog_14_method_6_code, 3, Option.some Jvm.ClassFile.FieldType.boolean, 12, 2, t_M_isThing)
set_option maxRecDepth 100000 in
noncomputable def t_M_feed : List AI := [(2, 0, 1, 0, 0, 0, []), (0, 1, 0, 0, 0, 1, []), (0, 2, 0, 0, 0, 4, []), (32, 3, 148, 0, 178, 3, [122, 23]), (15, 6, 7, 0, 1, 0, []), (0, 9, 0, 0, 0, (-1), []), (34, 10, 0, 0, 0, 0, []), (2, 11, 0, 2, 0, 0, []), (22, 12, 12, 13, 186, 0, [217]), (2, 15, 1, 0, 0, 0, []), (5, 16, 0, 0, 0, 0, []), (0, 17, 0, 0, 1, 120, []), (16, 19, 15, 0, 5, 0, []), (0, 22, 0, 0, 1, (-3), []), (34, 24, 0, 0, 0, 0, []), (0, 25, 0, 0, 0, 0, []), (3, 26, 3, 0, 0, 0, []), (2, 27, 3, 0, 0, 0, []), (2, 28, 1, 0, 0, 0, []), (16, 29, 40, 0, 3, 0, []), (2, 32, 0, 2, 0, 0, []), (22, 33, 12, 12, 40, 0, [173]), (2, 36, 0, 2, 0, 0, []), (22, 37, 12, 13, 186, 0, [217]), (2, 40, 2, 0, 0, 0, []), (0, 41, 0, 0, 1, 8, []), (2, 43, 3, 0, 0, 0, []), (5, 44, 0, 0, 2, 0, []), (5, 45, 0, 0, 7, 0, []), (0, 46, 0, 0, 2, 255, []), (5, 49, 0, 0, 3, 0, []), (26, 50, 100, 0, 0, 0, []), (2, 51, 0, 2, 0, 0, []), (28, 52, 0, 0, 0, 0, []), (22, 53, 12, 13, 186, 0, [217]), (0, 56, 0, 0, 0, 1, []), (5, 57, 0, 0, 0, 0, []), (23, 58, 12, 13, 186, 0, [217]), (4, 61, 3, 0, 0, 1, []), (19, 64, 17, 0, 0, 0, []), (2, 67, 0, 2, 0, 0, []), (22, 68, 12, 13, 186, 0, [217]), (34, 71, 0, 0, 0, 0, [])]
noncomputable def i_M_feed : MI := (⟨"TakenInTurnsModel", "feed", "(II)I"⟩, prog_14_method_7_code, 4, Option.some Jvm.ClassFile.FieldType.int, 12, 2, t_M_feed)
set_option maxRecDepth 100000 in
noncomputable def t_M_here : List AI := [(2, 0, 0, 2, 0, 0, []), (22, 1, 12, 31, 189, 0, [218]), (2, 4, 0, 2, 0, 0, []), (22, 5, 12, 13, 186, 0, [217]), (16, 8, 11, 0, 3, 0, []), (2, 11, 0, 2, 0, 0, []), (22, 12, 12, 12, 40, 0, [173]), (2, 15, 0, 2, 0, 0, []), (22, 16, 12, 31, 189, 0, [218]), (25, 19, 100, 0, 0, 0, []), (19, 20, 12, 0, 0, 0, []), (0, 23, 0, 0, 0, (-1), []), (34, 24, 0, 0, 0, 0, [])]
noncomputable def i_M_here : MI := (⟨"TakenInTurnsModel", "here", "()I"⟩, prog_14_method_8_code, 1, Option.some Jvm.ClassFile.FieldType.int, 12, 0, t_M_here)
set_option maxRecDepth 100000 in
noncomputable def t_M_readsThings : List AI := [(2, 0, 0, 2, 0, 0, []), (22, 1, 12, 2, 13, 0, [164]), (2, 4, 1, 0, 0, 0, []), (0, 5, 0, 0, 0, 0, []), (26, 6, 100, 0, 0, 0, []), (2, 7, 0, 2, 0, 0, []), (31, 8, 153, 12, 192, 0, [124, 77]), (0, 11, 0, 0, 1, 97, []), (2, 13, 0, 2, 0, 0, []), (22, 14, 12, 2, 13, 0, [164]), (2, 17, 1, 0, 0, 0, []), (25, 18, 100, 0, 0, 0, []), (5, 19, 0, 0, 0, 0, []), (16, 20, 64, 0, 1, 0, []), (2, 23, 0, 2, 0, 0, []), (22, 24, 12, 2, 13, 0, [164]), (2, 27, 1, 0, 0, 0, []), (25, 28, 100, 0, 0, 0, []), (0, 29, 0, 0, 1, 8, []), (16, 31, 64, 0, 3, 0, []), (2, 34, 0, 2, 0, 0, []), (28, 35, 0, 0, 0, 0, []), (22, 36, 12, 31, 189, 0, [218]), (0, 39, 0, 0, 0, 1, []), (5, 40, 0, 0, 0, 0, []), (23, 41, 12, 31, 189, 0, [218]), (2, 44, 0, 2, 0, 0, []), (31, 45, 153, 12, 192, 0, [124, 77]), (0, 48, 0, 0, 1, 49, []), (0, 50, 0, 0, 1, 57, []), (32, 52, 148, 0, 178, 3, [122, 23]), (15, 55, 34, 0, 1, 0, []), (0, 58, 0, 0, 0, 0, []), (34, 59, 0, 0, 0, 0, []), (2, 60, 0, 2, 0, 0, []), (22, 61, 12, 4, 19, 0, [166]), (0, 64, 0, 0, 1, 8, []), (2, 66, 1, 0, 0, 0, []), (5, 67, 0, 0, 2, 0, []), (2, 68, 0, 2, 0, 0, []), (22, 69, 12, 2, 13, 0, [164]), (2, 72, 1, 0, 0, 0, []), (25, 73, 100, 0, 0, 0, []), (5, 74, 0, 0, 0, 0, []), (2, 75, 0, 2, 0, 0, []), (31, 76, 153, 12, 192, 0, [124, 77]), (0, 79, 0, 0, 1, 48, []), (5, 81, 0, 0, 1, 0, []), (26, 82, 100, 0, 0, 0, []), (2, 83, 0, 2, 0, 0, []), (22, 84, 12, 2, 13, 0, [164]), (2, 87, 1, 0, 0, 0, []), (29, 88, 0, 0, 0, 0, []), (25, 89, 100, 0, 0, 0, []), (0, 90, 0, 0, 0, 1, []), (5, 91, 0, 0, 0, 0, []), (26, 92, 100, 0, 0, 0, []), (2, 93, 0, 2, 0, 0, []), (28, 94, 0, 0, 0, 0, []), (22, 95, 12, 31, 189, 0, [218]), (0, 98, 0, 0, 0, 1, []), (5, 99, 0, 0, 0, 0, []), (23, 100, 12, 31, 189, 0, [218]), (19, 103, 5, 0, 0, 0, []), (2, 106, 0, 2, 0, 0, []), (22, 107, 12, 2, 13, 0, [164]), (2, 110, 1, 0, 0, 0, []), (25, 111, 100, 0, 0, 0, []), (15, 112, 73, 0, 0, 0, []), (2, 115, 0, 2, 0, 0, []), (31, 116, 153, 12, 192, 0, [124, 77]), (0, 119, 0, 0, 1, 59, []), (16, 121, 75, 0, 0, 0, []), (0, 124, 0, 0, 0, 0, []), (34, 125, 0, 0, 0, 0, []), (2, 126, 0, 2, 0, 0, []), (28, 127, 0, 0, 0, 0, []), (22, 128, 12, 31, 189, 0, [218]), (0, 131, 0, 0, 0, 1, []), (5, 132, 0, 0, 0, 0, []), (23, 133, 12, 31, 189, 0, [218]), (0, 136, 0, 0, 0, 1, []), (34, 137, 0, 0, 0, 0, [])]
noncomputable def i_M_readsThings : MI := (⟨"TakenInTurnsModel", "readsThings", "(I)Z"⟩, prog_14_method_9_code, 2, Option.some Jvm.ClassFile.FieldType.boolean, 12, 1, t_M_readsThings)
set_option maxRecDepth 100000 in
noncomputable def t_M_heldOf : List AI := [(0, 0, 0, 0, 0, 0, []), (3, 1, 4, 0, 1, 0, []), (0, 3, 0, 0, 0, 0, []), (3, 4, 5, 0, 1, 0, []), (2, 6, 5, 0, 1, 0, []), (2, 8, 0, 2, 0, 0, []), (22, 9, 12, 1, 7, 0, [163]), (2, 12, 1, 0, 0, 0, []), (25, 13, 100, 0, 0, 0, []), (16, 14, 31, 0, 3, 0, []), (2, 17, 4, 0, 1, 0, []), (2, 19, 5, 0, 1, 0, []), (2, 21, 3, 0, 0, 0, []), (16, 22, 26, 0, 0, 0, []), (2, 25, 0, 2, 0, 0, []), (22, 26, 12, 5, 22, 0, [167]), (0, 29, 0, 0, 1, 7, []), (2, 31, 1, 0, 0, 0, []), (5, 32, 0, 0, 2, 0, []), (2, 33, 5, 0, 1, 0, []), (5, 35, 0, 0, 0, 0, []), (25, 36, 100, 0, 0, 0, []), (2, 37, 2, 0, 0, 0, []), (16, 38, 26, 0, 1, 0, []), (0, 41, 0, 0, 0, 1, []), (19, 42, 27, 0, 0, 0, []), (0, 45, 0, 0, 0, 0, []), (5, 46, 0, 0, 0, 0, []), (3, 47, 4, 0, 1, 0, []), (4, 49, 5, 0, 0, 1, []), (19, 52, 4, 0, 0, 0, []), (2, 55, 4, 0, 1, 0, []), (34, 57, 0, 0, 0, 0, [])]
noncomputable def i_M_heldOf : MI := (⟨"TakenInTurnsModel", "heldOf", "(III)I"⟩, prog_14_method_10_code, 6, Option.some Jvm.ClassFile.FieldType.int, 12, 3, t_M_heldOf)
set_option maxRecDepth 100000 in
noncomputable def t_M_readsList : List AI := [(0, 0, 0, 0, 1, 7, []), (2, 2, 1, 0, 0, 0, []), (5, 3, 0, 0, 2, 0, []), (2, 4, 2, 0, 0, 0, []), (5, 5, 0, 0, 0, 0, []), (3, 6, 3, 0, 0, 0, []), (2, 7, 0, 2, 0, 0, []), (22, 8, 12, 6, 25, 0, [168]), (2, 11, 3, 0, 0, 0, []), (0, 12, 0, 0, 0, 0, []), (26, 13, 100, 0, 0, 0, []), (0, 14, 0, 0, 0, 0, []), (3, 15, 4, 0, 1, 0, []), (2, 17, 4, 0, 1, 0, []), (0, 19, 0, 0, 1, 8, []), (16, 21, 27, 0, 3, 0, []), (2, 24, 0, 2, 0, 0, []), (22, 25, 12, 8, 31, 0, [170]), (0, 28, 0, 0, 1, 8, []), (2, 30, 3, 0, 0, 0, []), (5, 31, 0, 0, 2, 0, []), (2, 32, 4, 0, 1, 0, []), (5, 34, 0, 0, 0, 0, []), (0, 35, 0, 0, 0, (-1), []), (26, 36, 100, 0, 0, 0, []), (4, 37, 4, 0, 0, 1, []), (19, 40, 13, 0, 0, 0, []), (2, 43, 0, 2, 0, 0, []), (22, 44, 12, 5, 22, 0, [167]), (2, 47, 3, 0, 0, 0, []), (0, 48, 0, 0, 0, (-1), []), (26, 49, 100, 0, 0, 0, []), (2, 50, 0, 2, 0, 0, []), (31, 51, 153, 12, 192, 0, [124, 77]), (0, 54, 0, 0, 1, 42, []), (16, 56, 86, 0, 1, 0, []), (2, 59, 0, 2, 0, 0, []), (28, 60, 0, 0, 0, 0, []), (22, 61, 12, 31, 189, 0, [218]), (0, 64, 0, 0, 0, 1, []), (5, 65, 0, 0, 0, 0, []), (23, 66, 12, 31, 189, 0, [218]), (2, 69, 0, 2, 0, 0, []), (31, 70, 153, 12, 192, 0, [124, 77]), (0, 73, 0, 0, 1, 97, []), (5, 75, 0, 0, 1, 0, []), (3, 76, 4, 0, 1, 0, []), (2, 78, 4, 0, 1, 0, []), (0, 80, 0, 0, 0, 0, []), (2, 81, 0, 2, 0, 0, []), (22, 82, 12, 2, 13, 0, [164]), (2, 85, 1, 0, 0, 0, []), (25, 86, 100, 0, 0, 0, []), (0, 87, 0, 0, 0, 1, []), (5, 88, 0, 0, 1, 0, []), (32, 89, 148, 0, 178, 3, [122, 23]), (15, 92, 59, 0, 1, 0, []), (0, 95, 0, 0, 0, 0, []), (34, 96, 0, 0, 0, 0, []), (2, 97, 0, 2, 0, 0, []), (2, 98, 1, 0, 0, 0, []), (2, 99, 4, 0, 1, 0, []), (2, 101, 2, 0, 0, 0, []), (31, 102, 155, 12, 196, 3, [125, 78]), (2, 105, 0, 2, 0, 0, []), (22, 106, 12, 4, 19, 0, [166]), (0, 109, 0, 0, 1, 8, []), (2, 111, 1, 0, 0, 0, []), (5, 112, 0, 0, 2, 0, []), (2, 113, 4, 0, 1, 0, []), (5, 115, 0, 0, 0, 0, []), (25, 116, 100, 0, 0, 0, []), (16, 117, 75, 0, 2, 0, []), (0, 120, 0, 0, 0, 0, []), (34, 121, 0, 0, 0, 0, []), (2, 122, 0, 2, 0, 0, []), (22, 123, 12, 5, 22, 0, [167]), (2, 126, 3, 0, 0, 0, []), (2, 127, 4, 0, 1, 0, []), (26, 129, 100, 0, 0, 0, []), (2, 130, 0, 2, 0, 0, []), (28, 131, 0, 0, 0, 0, []), (22, 132, 12, 31, 189, 0, [218]), (0, 135, 0, 0, 0, 1, []), (5, 136, 0, 0, 0, 0, []), (23, 137, 12, 31, 189, 0, [218]), (2, 140, 0, 2, 0, 0, []), (31, 141, 153, 12, 192, 0, [124, 77]), (0, 144, 0, 0, 1, 45, []), (16, 146, 98, 0, 1, 0, []), (2, 149, 0, 2, 0, 0, []), (28, 150, 0, 0, 0, 0, []), (22, 151, 12, 31, 189, 0, [218]), (0, 154, 0, 0, 0, 1, []), (5, 155, 0, 0, 0, 0, []), (23, 156, 12, 31, 189, 0, [218]), (0, 159, 0, 0, 0, 1, []), (34, 160, 0, 0, 0, 0, []), (0, 161, 0, 0, 0, 0, []), (3, 162, 4, 0, 1, 0, []), (0, 164, 0, 0, 0, 1, []), (3, 165, 5, 0, 1, 0, []), (2, 167, 5, 0, 1, 0, []), (15, 169, 200, 0, 0, 0, []), (2, 172, 0, 2, 0, 0, []), (31, 173, 153, 12, 192, 0, [124, 77]), (0, 176, 0, 0, 1, 97, []), (5, 178, 0, 0, 1, 0, []), (3, 179, 6, 0, 1, 0, []), (2, 181, 6, 0, 1, 0, []), (0, 183, 0, 0, 0, 0, []), (2, 184, 0, 2, 0, 0, []), (22, 185, 12, 2, 13, 0, [164]), (2, 188, 1, 0, 0, 0, []), (25, 189, 100, 0, 0, 0, []), (0, 190, 0, 0, 0, 1, []), (5, 191, 0, 0, 1, 0, []), (32, 192, 148, 0, 178, 3, [122, 23]), (15, 195, 121, 0, 1, 0, []), (0, 198, 0, 0, 0, 0, []), (34, 199, 0, 0, 0, 0, []), (2, 200, 0, 2, 0, 0, []), (22, 201, 12, 8, 31, 0, [170]), (0, 204, 0, 0, 1, 8, []), (2, 206, 3, 0, 0, 0, []), (5, 207, 0, 0, 2, 0, []), (2, 208, 6, 0, 1, 0, []), (5, 210, 0, 0, 0, 0, []), (25, 211, 100, 0, 0, 0, []), (15, 212, 132, 0, 2, 0, []), (0, 215, 0, 0, 0, 0, []), (34, 216, 0, 0, 0, 0, []), (2, 217, 0, 2, 0, 0, []), (22, 218, 12, 8, 31, 0, [170]), (0, 221, 0, 0, 1, 8, []), (2, 223, 3, 0, 0, 0, []), (5, 224, 0, 0, 2, 0, []), (2, 225, 6, 0, 1, 0, []), (5, 227, 0, 0, 0, 0, []), (2, 228, 4, 0, 1, 0, []), (26, 230, 100, 0, 0, 0, []), (2, 231, 0, 2, 0, 0, []), (22, 232, 12, 7, 28, 0, [169]), (0, 235, 0, 0, 1, 8, []), (2, 237, 3, 0, 0, 0, []), (5, 238, 0, 0, 2, 0, []), (2, 239, 0, 2, 0, 0, []), (22, 240, 12, 6, 25, 0, [168]), (2, 243, 3, 0, 0, 0, []), (25, 244, 100, 0, 0, 0, []), (5, 245, 0, 0, 0, 0, []), (2, 246, 6, 0, 1, 0, []), (26, 248, 100, 0, 0, 0, []), (2, 249, 0, 2, 0, 0, []), (22, 250, 12, 6, 25, 0, [168]), (2, 253, 3, 0, 0, 0, []), (29, 254, 0, 0, 0, 0, []), (25, 255, 100, 0, 0, 0, []), (0, 256, 0, 0, 0, 1, []), (5, 257, 0, 0, 0, 0, []), (26, 258, 100, 0, 0, 0, []), (2, 259, 0, 2, 0, 0, []), (28, 260, 0, 0, 0, 0, []), (22, 261, 12, 31, 189, 0, [218]), (0, 264, 0, 0, 0, 1, []), (5, 265, 0, 0, 0, 0, []), (23, 266, 12, 31, 189, 0, [218]), (2, 269, 0, 2, 0, 0, []), (31, 270, 153, 12, 192, 0, [124, 77]), (0, 273, 0, 0, 1, 62, []), (16, 275, 175, 0, 0, 0, []), (2, 278, 0, 2, 0, 0, []), (31, 279, 153, 12, 192, 0, [124, 77]), (0, 282, 0, 0, 1, 61, []), (16, 284, 177, 0, 1, 0, []), (0, 287, 0, 0, 0, 1, []), (19, 288, 178, 0, 0, 0, []), (0, 291, 0, 0, 0, 0, []), (3, 292, 5, 0, 1, 0, []), (2, 294, 4, 0, 1, 0, []), (2, 296, 0, 2, 0, 0, []), (31, 297, 153, 12, 192, 0, [124, 77]), (0, 300, 0, 0, 1, 62, []), (16, 302, 186, 0, 1, 0, []), (0, 305, 0, 0, 0, 1, []), (19, 306, 187, 0, 0, 0, []), (0, 309, 0, 0, 0, 0, []), (5, 310, 0, 0, 0, 0, []), (3, 311, 4, 0, 1, 0, []), (2, 313, 0, 2, 0, 0, []), (28, 314, 0, 0, 0, 0, []), (22, 315, 12, 31, 189, 0, [218]), (2, 318, 5, 0, 1, 0, []), (15, 320, 196, 0, 0, 0, []), (0, 323, 0, 0, 0, 1, []), (19, 324, 197, 0, 0, 0, []), (0, 327, 0, 0, 0, 0, []), (5, 328, 0, 0, 0, 0, []), (23, 329, 12, 31, 189, 0, [218]), (19, 332, 102, 0, 0, 0, []), (0, 335, 0, 0, 0, 1, []), (34, 336, 0, 0, 0, 0, [])]
noncomputable def i_M_readsList : MI := (⟨"TakenInTurnsModel", "readsList", "(II)Z"⟩, prog_14_method_11_code, 7, Option.some Jvm.ClassFile.FieldType.boolean, 12, 2, t_M_readsList)
set_option maxRecDepth 100000 in
noncomputable def t_M_readsGiving : List AI := [(2, 0, 0, 2, 0, 0, []), (22, 1, 12, 1, 7, 0, [163]), (2, 4, 1, 0, 0, 0, []), (0, 5, 0, 0, 0, 0, []), (26, 6, 100, 0, 0, 0, []), (2, 7, 0, 2, 0, 0, []), (2, 8, 1, 0, 0, 0, []), (31, 9, 154, 12, 200, 1, [126, 79]), (15, 12, 11, 0, 1, 0, []), (0, 15, 0, 0, 0, 0, []), (34, 16, 0, 0, 0, 0, []), (0, 17, 0, 0, 0, 1, []), (3, 18, 2, 0, 0, 0, []), (2, 19, 2, 0, 0, 0, []), (15, 20, 58, 0, 0, 0, []), (2, 23, 0, 2, 0, 0, []), (2, 24, 1, 0, 0, 0, []), (2, 25, 0, 2, 0, 0, []), (22, 26, 12, 1, 7, 0, [163]), (2, 29, 1, 0, 0, 0, []), (25, 30, 100, 0, 0, 0, []), (31, 31, 156, 12, 203, 2, [127, 80]), (15, 34, 25, 0, 1, 0, []), (0, 37, 0, 0, 0, 0, []), (34, 38, 0, 0, 0, 0, []), (2, 39, 0, 2, 0, 0, []), (22, 40, 12, 1, 7, 0, [163]), (2, 43, 1, 0, 0, 0, []), (29, 44, 0, 0, 0, 0, []), (25, 45, 100, 0, 0, 0, []), (0, 46, 0, 0, 0, 1, []), (5, 47, 0, 0, 0, 0, []), (26, 48, 100, 0, 0, 0, []), (2, 49, 0, 2, 0, 0, []), (31, 50, 153, 12, 192, 0, [124, 77]), (0, 53, 0, 0, 1, 59, []), (16, 55, 45, 0, 1, 0, []), (2, 58, 0, 2, 0, 0, []), (22, 59, 12, 1, 7, 0, [163]), (2, 62, 1, 0, 0, 0, []), (25, 63, 100, 0, 0, 0, []), (0, 64, 0, 0, 1, 7, []), (16, 66, 45, 0, 3, 0, []), (0, 69, 0, 0, 0, 1, []), (19, 70, 46, 0, 0, 0, []), (0, 73, 0, 0, 0, 0, []), (3, 74, 2, 0, 0, 0, []), (2, 75, 0, 2, 0, 0, []), (28, 76, 0, 0, 0, 0, []), (22, 77, 12, 31, 189, 0, [218]), (2, 80, 2, 0, 0, 0, []), (15, 81, 54, 0, 0, 0, []), (0, 84, 0, 0, 0, 1, []), (19, 85, 55, 0, 0, 0, []), (0, 88, 0, 0, 0, 0, []), (5, 89, 0, 0, 0, 0, []), (23, 90, 12, 31, 189, 0, [218]), (19, 93, 13, 0, 0, 0, []), (2, 96, 0, 2, 0, 0, []), (22, 97, 12, 31, 189, 0, [218]), (2, 100, 0, 2, 0, 0, []), (22, 101, 12, 13, 186, 0, [217]), (16, 104, 65, 0, 1, 0, []), (0, 107, 0, 0, 0, 1, []), (19, 108, 66, 0, 0, 0, []), (0, 111, 0, 0, 0, 0, []), (34, 112, 0, 0, 0, 0, [])]
noncomputable def i_M_readsGiving : MI := (⟨"TakenInTurnsModel", "readsGiving", "(I)Z"⟩, prog_14_method_12_code, 3, Option.some Jvm.ClassFile.FieldType.boolean, 12, 1, t_M_readsGiving)
set_option maxRecDepth 100000 in
noncomputable def t_M_giving : List AI := [(2, 0, 0, 2, 0, 0, []), (22, 1, 12, 0, 175, 0, [216]), (0, 4, 0, 0, 0, 5, []), (16, 5, 6, 0, 1, 0, []), (0, 8, 0, 0, 1, (-3), []), (34, 10, 0, 0, 0, 0, []), (2, 11, 0, 2, 0, 0, []), (0, 12, 0, 0, 0, 0, []), (23, 13, 12, 31, 189, 0, [218]), (2, 16, 0, 2, 0, 0, []), (2, 17, 0, 2, 0, 0, []), (22, 18, 12, 0, 175, 0, [216]), (31, 21, 157, 12, 207, 1, [128, 81]), (3, 24, 1, 0, 0, 0, []), (2, 25, 0, 2, 0, 0, []), (0, 26, 0, 0, 0, 0, []), (23, 27, 12, 13, 186, 0, [217]), (2, 30, 1, 0, 0, 0, []), (15, 31, 24, 0, 1, 0, []), (0, 34, 0, 0, 1, (-100), []), (2, 36, 0, 2, 0, 0, []), (22, 37, 12, 31, 189, 0, [218]), (5, 40, 0, 0, 1, 0, []), (34, 41, 0, 0, 0, 0, []), (2, 42, 0, 2, 0, 0, []), (22, 43, 12, 3, 16, 0, [165]), (2, 46, 0, 2, 0, 0, []), (22, 47, 12, 0, 175, 0, [216]), (0, 50, 0, 0, 0, 1, []), (26, 51, 100, 0, 0, 0, []), (0, 52, 0, 0, 0, 0, []), (3, 53, 2, 0, 0, 0, []), (2, 54, 2, 0, 0, 0, []), (0, 55, 0, 0, 1, 56, []), (16, 57, 47, 0, 3, 0, []), (2, 60, 0, 2, 0, 0, []), (22, 61, 12, 9, 34, 0, [171]), (0, 64, 0, 0, 1, 56, []), (2, 66, 0, 2, 0, 0, []), (22, 67, 12, 0, 175, 0, [216]), (5, 70, 0, 0, 2, 0, []), (2, 71, 2, 0, 0, 0, []), (5, 72, 0, 0, 0, 0, []), (0, 73, 0, 0, 0, 0, []), (26, 74, 100, 0, 0, 0, []), (4, 75, 2, 0, 0, 1, []), (19, 78, 32, 0, 0, 0, []), (2, 81, 0, 2, 0, 0, []), (28, 82, 0, 0, 0, 0, []), (22, 83, 12, 0, 175, 0, [216]), (0, 86, 0, 0, 0, 1, []), (5, 87, 0, 0, 0, 0, []), (23, 88, 12, 0, 175, 0, [216]), (2, 91, 0, 2, 0, 0, []), (22, 92, 12, 0, 175, 0, [216]), (0, 95, 0, 0, 0, 1, []), (5, 96, 0, 0, 1, 0, []), (34, 97, 0, 0, 0, 0, [])]
noncomputable def i_M_giving : MI := (⟨"TakenInTurnsModel", "giving", "()I"⟩, prog_14_method_13_code, 3, Option.some Jvm.ClassFile.FieldType.int, 12, 0, t_M_giving)
set_option maxRecDepth 100000 in
noncomputable def t_M_copies : List AI := [(2, 0, 0, 2, 0, 0, []), (22, 1, 12, 1, 7, 0, [163]), (2, 4, 2, 0, 0, 0, []), (2, 5, 0, 2, 0, 0, []), (22, 6, 12, 1, 7, 0, [163]), (2, 9, 1, 0, 0, 0, []), (25, 10, 100, 0, 0, 0, []), (26, 11, 100, 0, 0, 0, []), (2, 12, 0, 2, 0, 0, []), (22, 13, 12, 2, 13, 0, [164]), (2, 16, 2, 0, 0, 0, []), (2, 17, 0, 2, 0, 0, []), (22, 18, 12, 2, 13, 0, [164]), (2, 21, 1, 0, 0, 0, []), (25, 22, 100, 0, 0, 0, []), (26, 23, 100, 0, 0, 0, []), (2, 24, 0, 2, 0, 0, []), (22, 25, 12, 3, 16, 0, [165]), (2, 28, 2, 0, 0, 0, []), (2, 29, 0, 2, 0, 0, []), (22, 30, 12, 3, 16, 0, [165]), (2, 33, 1, 0, 0, 0, []), (25, 34, 100, 0, 0, 0, []), (26, 35, 100, 0, 0, 0, []), (0, 36, 0, 0, 0, 0, []), (3, 37, 3, 0, 0, 0, []), (2, 38, 3, 0, 0, 0, []), (0, 39, 0, 0, 1, 8, []), (16, 41, 47, 0, 3, 0, []), (2, 44, 0, 2, 0, 0, []), (22, 45, 12, 4, 19, 0, [166]), (0, 48, 0, 0, 1, 8, []), (2, 50, 2, 0, 0, 0, []), (5, 51, 0, 0, 2, 0, []), (2, 52, 3, 0, 0, 0, []), (5, 53, 0, 0, 0, 0, []), (2, 54, 0, 2, 0, 0, []), (22, 55, 12, 4, 19, 0, [166]), (0, 58, 0, 0, 1, 8, []), (2, 60, 1, 0, 0, 0, []), (5, 61, 0, 0, 2, 0, []), (2, 62, 3, 0, 0, 0, []), (5, 63, 0, 0, 0, 0, []), (25, 64, 100, 0, 0, 0, []), (26, 65, 100, 0, 0, 0, []), (4, 66, 3, 0, 0, 1, []), (19, 69, 26, 0, 0, 0, []), (0, 72, 0, 0, 0, 0, []), (3, 73, 3, 0, 0, 0, []), (2, 74, 3, 0, 0, 0, []), (0, 75, 0, 0, 1, 7, []), (16, 77, 86, 0, 3, 0, []), (2, 80, 0, 2, 0, 0, []), (22, 81, 12, 5, 22, 0, [167]), (0, 84, 0, 0, 1, 7, []), (2, 86, 2, 0, 0, 0, []), (5, 87, 0, 0, 2, 0, []), (2, 88, 3, 0, 0, 0, []), (5, 89, 0, 0, 0, 0, []), (2, 90, 0, 2, 0, 0, []), (22, 91, 12, 5, 22, 0, [167]), (0, 94, 0, 0, 1, 7, []), (2, 96, 1, 0, 0, 0, []), (5, 97, 0, 0, 2, 0, []), (2, 98, 3, 0, 0, 0, []), (5, 99, 0, 0, 0, 0, []), (25, 100, 100, 0, 0, 0, []), (26, 101, 100, 0, 0, 0, []), (2, 102, 0, 2, 0, 0, []), (22, 103, 12, 6, 25, 0, [168]), (0, 106, 0, 0, 1, 7, []), (2, 108, 2, 0, 0, 0, []), (5, 109, 0, 0, 2, 0, []), (2, 110, 3, 0, 0, 0, []), (5, 111, 0, 0, 0, 0, []), (2, 112, 0, 2, 0, 0, []), (22, 113, 12, 6, 25, 0, [168]), (0, 116, 0, 0, 1, 7, []), (2, 118, 1, 0, 0, 0, []), (5, 119, 0, 0, 2, 0, []), (2, 120, 3, 0, 0, 0, []), (5, 121, 0, 0, 0, 0, []), (25, 122, 100, 0, 0, 0, []), (26, 123, 100, 0, 0, 0, []), (4, 124, 3, 0, 0, 1, []), (19, 127, 49, 0, 0, 0, []), (0, 130, 0, 0, 0, 0, []), (3, 131, 3, 0, 0, 0, []), (2, 132, 3, 0, 0, 0, []), (0, 133, 0, 0, 1, 56, []), (16, 135, 141, 0, 3, 0, []), (2, 138, 0, 2, 0, 0, []), (22, 139, 12, 7, 28, 0, [169]), (0, 142, 0, 0, 1, 56, []), (2, 144, 2, 0, 0, 0, []), (5, 145, 0, 0, 2, 0, []), (2, 146, 3, 0, 0, 0, []), (5, 147, 0, 0, 0, 0, []), (2, 148, 0, 2, 0, 0, []), (22, 149, 12, 7, 28, 0, [169]), (0, 152, 0, 0, 1, 56, []), (2, 154, 1, 0, 0, 0, []), (5, 155, 0, 0, 2, 0, []), (2, 156, 3, 0, 0, 0, []), (5, 157, 0, 0, 0, 0, []), (25, 158, 100, 0, 0, 0, []), (26, 159, 100, 0, 0, 0, []), (2, 160, 0, 2, 0, 0, []), (22, 161, 12, 8, 31, 0, [170]), (0, 164, 0, 0, 1, 56, []), (2, 166, 2, 0, 0, 0, []), (5, 167, 0, 0, 2, 0, []), (2, 168, 3, 0, 0, 0, []), (5, 169, 0, 0, 0, 0, []), (2, 170, 0, 2, 0, 0, []), (22, 171, 12, 8, 31, 0, [170]), (0, 174, 0, 0, 1, 56, []), (2, 176, 1, 0, 0, 0, []), (5, 177, 0, 0, 2, 0, []), (2, 178, 3, 0, 0, 0, []), (5, 179, 0, 0, 0, 0, []), (25, 180, 100, 0, 0, 0, []), (26, 181, 100, 0, 0, 0, []), (2, 182, 0, 2, 0, 0, []), (22, 183, 12, 9, 34, 0, [171]), (0, 186, 0, 0, 1, 56, []), (2, 188, 2, 0, 0, 0, []), (5, 189, 0, 0, 2, 0, []), (2, 190, 3, 0, 0, 0, []), (5, 191, 0, 0, 0, 0, []), (2, 192, 0, 2, 0, 0, []), (22, 193, 12, 9, 34, 0, [171]), (0, 196, 0, 0, 1, 56, []), (2, 198, 1, 0, 0, 0, []), (5, 199, 0, 0, 2, 0, []), (2, 200, 3, 0, 0, 0, []), (5, 201, 0, 0, 0, 0, []), (25, 202, 100, 0, 0, 0, []), (26, 203, 100, 0, 0, 0, []), (4, 204, 3, 0, 0, 1, []), (19, 207, 88, 0, 0, 0, []), (34, 210, 0, 0, 0, 0, [])]
noncomputable def i_M_copies : MI := (⟨"TakenInTurnsModel", "copies", "(II)V"⟩, prog_14_method_14_code, 4, none, 12, 2, t_M_copies)
set_option maxRecDepth 100000 in
noncomputable def t_M_instead : List AI := [(2, 0, 0, 2, 0, 0, []), (2, 1, 1, 0, 0, 0, []), (2, 2, 2, 0, 0, 0, []), (31, 3, 150, 12, 210, 2, [129, 82]), (15, 6, 7, 0, 1, 0, []), (0, 9, 0, 0, 0, (-1), []), (34, 10, 0, 0, 0, 0, []), (2, 11, 0, 2, 0, 0, []), (22, 12, 12, 0, 175, 0, [216]), (0, 15, 0, 0, 0, 5, []), (16, 16, 13, 0, 1, 0, []), (0, 19, 0, 0, 1, (-3), []), (34, 21, 0, 0, 0, 0, []), (2, 22, 0, 2, 0, 0, []), (2, 23, 1, 0, 0, 0, []), (2, 24, 0, 2, 0, 0, []), (22, 25, 12, 0, 175, 0, [216]), (31, 28, 159, 12, 213, 2, [130, 83]), (2, 31, 0, 2, 0, 0, []), (0, 32, 0, 0, 0, 0, []), (23, 33, 12, 31, 189, 0, [218]), (2, 36, 0, 2, 0, 0, []), (2, 37, 0, 2, 0, 0, []), (22, 38, 12, 0, 175, 0, [216]), (2, 41, 2, 0, 0, 0, []), (31, 42, 156, 12, 203, 2, [127, 80]), (15, 45, 34, 0, 0, 0, []), (2, 48, 0, 2, 0, 0, []), (22, 49, 12, 31, 189, 0, [218]), (2, 52, 0, 2, 0, 0, []), (22, 53, 12, 13, 186, 0, [217]), (16, 56, 34, 0, 1, 0, []), (0, 59, 0, 0, 0, 1, []), (19, 60, 35, 0, 0, 0, []), (0, 63, 0, 0, 0, 0, []), (3, 64, 3, 0, 0, 0, []), (2, 65, 0, 2, 0, 0, []), (0, 66, 0, 0, 0, 0, []), (23, 67, 12, 13, 186, 0, [217]), (2, 70, 3, 0, 0, 0, []), (15, 71, 46, 0, 1, 0, []), (0, 74, 0, 0, 1, (-100), []), (2, 76, 0, 2, 0, 0, []), (22, 77, 12, 31, 189, 0, [218]), (5, 80, 0, 0, 1, 0, []), (34, 81, 0, 0, 0, 0, []), (2, 82, 0, 2, 0, 0, []), (28, 83, 0, 0, 0, 0, []), (22, 84, 12, 0, 175, 0, [216]), (0, 87, 0, 0, 0, 1, []), (5, 88, 0, 0, 0, 0, []), (23, 89, 12, 0, 175, 0, [216]), (2, 92, 0, 2, 0, 0, []), (22, 93, 12, 0, 175, 0, [216]), (0, 96, 0, 0, 0, 1, []), (5, 97, 0, 0, 1, 0, []), (34, 98, 0, 0, 0, 0, [])]
noncomputable def i_M_instead : MI := (⟨"TakenInTurnsModel", "instead", "(II)I"⟩, prog_14_method_15_code, 4, Option.some Jvm.ClassFile.FieldType.int, 12, 2, t_M_instead)
set_option maxRecDepth 100000 in
noncomputable def t_M_of : List AI := [(2, 0, 0, 2, 0, 0, []), (2, 1, 1, 0, 0, 0, []), (31, 2, 149, 12, 182, 1, [123, 76]), (15, 5, 6, 0, 1, 0, []), (0, 8, 217, 0, 3, (-2000000000), [6]), (34, 10, 0, 0, 0, 0, []), (2, 11, 2, 0, 0, 0, []), (0, 12, 0, 0, 1, 10, []), (0, 14, 0, 0, 1, 9, []), (2, 16, 0, 2, 0, 0, []), (22, 17, 12, 2, 13, 0, [164]), (2, 20, 1, 0, 0, 0, []), (25, 21, 100, 0, 0, 0, []), (5, 22, 0, 0, 0, 0, []), (32, 23, 148, 0, 178, 3, [122, 23]), (15, 26, 34, 0, 0, 0, []), (2, 29, 0, 2, 0, 0, []), (22, 30, 12, 4, 19, 0, [166]), (0, 33, 0, 0, 1, 8, []), (2, 35, 1, 0, 0, 0, []), (5, 36, 0, 0, 2, 0, []), (2, 37, 2, 0, 0, 0, []), (0, 38, 0, 0, 1, 10, []), (0, 40, 0, 0, 1, 17, []), (32, 42, 148, 0, 178, 3, [122, 23]), (15, 45, 30, 0, 0, 0, []), (2, 48, 2, 0, 0, 0, []), (0, 49, 0, 0, 1, 10, []), (5, 51, 0, 0, 1, 0, []), (19, 52, 31, 0, 0, 0, []), (0, 55, 0, 0, 0, 0, []), (5, 56, 0, 0, 0, 0, []), (25, 57, 100, 0, 0, 0, []), (34, 58, 0, 0, 0, 0, []), (2, 59, 2, 0, 0, 0, []), (0, 60, 0, 0, 1, 20, []), (0, 62, 0, 0, 1, 19, []), (2, 64, 0, 2, 0, 0, []), (22, 65, 12, 1, 7, 0, [163]), (2, 68, 1, 0, 0, 0, []), (25, 69, 100, 0, 0, 0, []), (5, 70, 0, 0, 0, 0, []), (32, 71, 148, 0, 178, 3, [122, 23]), (15, 74, 62, 0, 0, 0, []), (2, 77, 0, 2, 0, 0, []), (22, 78, 12, 5, 22, 0, [167]), (0, 81, 0, 0, 1, 7, []), (2, 83, 1, 0, 0, 0, []), (5, 84, 0, 0, 2, 0, []), (2, 85, 2, 0, 0, 0, []), (0, 86, 0, 0, 1, 20, []), (0, 88, 0, 0, 1, 26, []), (32, 90, 148, 0, 178, 3, [122, 23]), (15, 93, 58, 0, 0, 0, []), (2, 96, 2, 0, 0, 0, []), (0, 97, 0, 0, 1, 20, []), (5, 99, 0, 0, 1, 0, []), (19, 100, 59, 0, 0, 0, []), (0, 103, 0, 0, 0, 0, []), (5, 104, 0, 0, 0, 0, []), (25, 105, 100, 0, 0, 0, []), (34, 106, 0, 0, 0, 0, []), (2, 107, 2, 0, 0, 0, []), (15, 108, 69, 0, 1, 0, []), (2, 111, 0, 2, 0, 0, []), (22, 112, 12, 1, 7, 0, [163]), (2, 115, 1, 0, 0, 0, []), (25, 116, 100, 0, 0, 0, []), (19, 117, 86, 0, 0, 0, []), (2, 120, 2, 0, 0, 0, []), (0, 121, 0, 0, 0, 1, []), (16, 122, 77, 0, 1, 0, []), (2, 125, 0, 2, 0, 0, []), (22, 126, 12, 2, 13, 0, [164]), (2, 129, 1, 0, 0, 0, []), (25, 130, 100, 0, 0, 0, []), (19, 131, 86, 0, 0, 0, []), (2, 134, 2, 0, 0, 0, []), (0, 135, 0, 0, 0, 2, []), (16, 136, 85, 0, 1, 0, []), (2, 139, 0, 2, 0, 0, []), (22, 140, 12, 3, 16, 0, [165]), (2, 143, 1, 0, 0, 0, []), (25, 144, 100, 0, 0, 0, []), (19, 145, 86, 0, 0, 0, []), (0, 148, 217, 0, 3, (-2000000000), [6]), (34, 150, 0, 0, 0, 0, [])]
noncomputable def i_M_of : MI := (⟨"TakenInTurnsModel", "of", "(II)I"⟩, prog_14_method_16_code, 3, Option.some Jvm.ClassFile.FieldType.int, 12, 2, t_M_of)
set_option maxRecDepth 100000 in
noncomputable def t_M_rounds : List AI := [(2, 0, 0, 2, 0, 0, []), (2, 1, 1, 0, 0, 0, []), (31, 2, 149, 12, 182, 1, [123, 76]), (15, 5, 9, 0, 0, 0, []), (2, 8, 2, 0, 0, 0, []), (0, 9, 0, 0, 0, 1, []), (0, 10, 0, 0, 0, 3, []), (32, 11, 148, 0, 178, 3, [122, 23]), (15, 14, 11, 0, 1, 0, []), (0, 17, 0, 0, 0, (-1), []), (34, 18, 0, 0, 0, 0, []), (2, 19, 0, 2, 0, 0, []), (22, 20, 12, 3, 16, 0, [165]), (2, 23, 1, 0, 0, 0, []), (25, 24, 100, 0, 0, 0, []), (3, 25, 3, 0, 0, 0, []), (2, 26, 0, 2, 0, 0, []), (22, 27, 12, 3, 16, 0, [165]), (2, 30, 1, 0, 0, 0, []), (2, 31, 2, 0, 0, 0, []), (26, 32, 100, 0, 0, 0, []), (2, 33, 3, 0, 0, 0, []), (34, 34, 0, 0, 0, 0, [])]
noncomputable def i_M_rounds : MI := (⟨"TakenInTurnsModel", "rounds", "(II)I"⟩, prog_14_method_17_code, 4, Option.some Jvm.ClassFile.FieldType.int, 12, 2, t_M_rounds)
set_option maxRecDepth 100000 in
noncomputable def t_M_level : List AI := [(2, 0, 0, 2, 0, 0, []), (2, 1, 1, 0, 0, 0, []), (2, 2, 2, 0, 0, 0, []), (31, 3, 150, 12, 210, 2, [129, 82]), (15, 6, 23, 0, 0, 0, []), (2, 9, 0, 2, 0, 0, []), (2, 10, 1, 0, 0, 0, []), (2, 11, 3, 0, 0, 0, []), (31, 12, 151, 12, 218, 2, [131, 84]), (15, 15, 23, 0, 0, 0, []), (2, 18, 0, 2, 0, 0, []), (22, 19, 12, 8, 31, 0, [170]), (0, 22, 0, 0, 1, 56, []), (2, 24, 1, 0, 0, 0, []), (5, 25, 0, 0, 2, 0, []), (0, 26, 0, 0, 1, 8, []), (2, 28, 2, 0, 0, 0, []), (5, 29, 0, 0, 2, 0, []), (5, 30, 0, 0, 0, 0, []), (2, 31, 3, 0, 0, 0, []), (5, 32, 0, 0, 0, 0, []), (25, 33, 100, 0, 0, 0, []), (19, 34, 24, 0, 0, 0, []), (0, 37, 217, 0, 3, (-2000000000), [6]), (34, 39, 0, 0, 0, 0, [])]
noncomputable def i_M_level : MI := (⟨"TakenInTurnsModel", "level", "(III)I"⟩, prog_14_method_18_code, 4, Option.some Jvm.ClassFile.FieldType.int, 12, 3, t_M_level)
set_option maxRecDepth 100000 in
noncomputable def t_M_listed : List AI := [(2, 0, 0, 2, 0, 0, []), (2, 1, 1, 0, 0, 0, []), (2, 2, 2, 0, 0, 0, []), (31, 3, 150, 12, 210, 2, [129, 82]), (15, 6, 33, 0, 0, 0, []), (2, 9, 3, 0, 0, 0, []), (0, 10, 0, 0, 0, (-1), []), (2, 11, 0, 2, 0, 0, []), (22, 12, 12, 6, 25, 0, [168]), (0, 15, 0, 0, 1, 7, []), (2, 17, 0, 2, 0, 0, []), (2, 18, 1, 0, 0, 0, []), (2, 19, 2, 0, 0, 0, []), (31, 20, 150, 12, 210, 2, [129, 82]), (15, 23, 17, 0, 0, 0, []), (2, 26, 1, 0, 0, 0, []), (19, 27, 18, 0, 0, 0, []), (0, 30, 0, 0, 0, 0, []), (5, 31, 0, 0, 2, 0, []), (2, 32, 0, 2, 0, 0, []), (2, 33, 1, 0, 0, 0, []), (2, 34, 2, 0, 0, 0, []), (31, 35, 150, 12, 210, 2, [129, 82]), (15, 38, 26, 0, 0, 0, []), (2, 41, 2, 0, 0, 0, []), (19, 42, 27, 0, 0, 0, []), (0, 45, 0, 0, 0, 0, []), (5, 46, 0, 0, 0, 0, []), (25, 47, 100, 0, 0, 0, []), (0, 48, 0, 0, 0, 1, []), (5, 49, 0, 0, 1, 0, []), (32, 50, 148, 0, 178, 3, [122, 23]), (15, 53, 35, 0, 1, 0, []), (0, 56, 0, 0, 0, (-1), []), (34, 57, 0, 0, 0, 0, []), (2, 58, 3, 0, 0, 0, []), (0, 59, 0, 0, 0, (-1), []), (16, 60, 47, 0, 1, 0, []), (2, 63, 0, 2, 0, 0, []), (22, 64, 12, 6, 25, 0, [168]), (0, 67, 0, 0, 1, 7, []), (2, 69, 1, 0, 0, 0, []), (5, 70, 0, 0, 2, 0, []), (2, 71, 2, 0, 0, 0, []), (5, 72, 0, 0, 0, 0, []), (25, 73, 100, 0, 0, 0, []), (19, 74, 63, 0, 0, 0, []), (2, 77, 0, 2, 0, 0, []), (22, 78, 12, 7, 28, 0, [169]), (0, 81, 0, 0, 1, 56, []), (2, 83, 1, 0, 0, 0, []), (5, 84, 0, 0, 2, 0, []), (0, 85, 0, 0, 1, 8, []), (2, 87, 2, 0, 0, 0, []), (5, 88, 0, 0, 2, 0, []), (5, 89, 0, 0, 0, 0, []), (2, 90, 3, 0, 0, 0, []), (15, 91, 60, 0, 3, 0, []), (0, 94, 0, 0, 0, 0, []), (19, 95, 61, 0, 0, 0, []), (2, 98, 3, 0, 0, 0, []), (5, 99, 0, 0, 0, 0, []), (25, 100, 100, 0, 0, 0, []), (34, 101, 0, 0, 0, 0, [])]
noncomputable def i_M_listed : MI := (⟨"TakenInTurnsModel", "listed", "(III)I"⟩, prog_14_method_19_code, 4, Option.some Jvm.ClassFile.FieldType.int, 12, 3, t_M_listed)
set_option maxRecDepth 100000 in
noncomputable def t_M_takes : List AI := [(2, 0, 0, 2, 0, 0, []), (2, 1, 1, 0, 0, 0, []), (2, 2, 2, 0, 0, 0, []), (31, 3, 150, 12, 210, 2, [129, 82]), (15, 6, 23, 0, 0, 0, []), (2, 9, 3, 0, 0, 0, []), (0, 10, 0, 0, 0, 0, []), (0, 11, 0, 0, 0, 1, []), (2, 12, 0, 2, 0, 0, []), (22, 13, 12, 2, 13, 0, [164]), (2, 16, 0, 2, 0, 0, []), (2, 17, 1, 0, 0, 0, []), (31, 18, 149, 12, 182, 1, [123, 76]), (15, 21, 16, 0, 0, 0, []), (2, 24, 1, 0, 0, 0, []), (19, 25, 17, 0, 0, 0, []), (0, 28, 0, 0, 0, 0, []), (25, 29, 100, 0, 0, 0, []), (5, 30, 0, 0, 6, 0, []), (0, 31, 0, 0, 0, 1, []), (5, 32, 0, 0, 1, 0, []), (32, 33, 148, 0, 178, 3, [122, 23]), (15, 36, 25, 0, 1, 0, []), (0, 39, 0, 0, 0, (-1), []), (34, 40, 0, 0, 0, 0, []), (0, 41, 0, 0, 0, 0, []), (3, 42, 4, 0, 1, 0, []), (2, 44, 4, 0, 1, 0, []), (2, 46, 0, 2, 0, 0, []), (22, 47, 12, 6, 25, 0, [168]), (0, 50, 0, 0, 1, 7, []), (2, 52, 1, 0, 0, 0, []), (5, 53, 0, 0, 2, 0, []), (2, 54, 2, 0, 0, 0, []), (5, 55, 0, 0, 0, 0, []), (25, 56, 100, 0, 0, 0, []), (16, 57, 61, 0, 3, 0, []), (2, 60, 0, 2, 0, 0, []), (22, 61, 12, 7, 28, 0, [169]), (0, 64, 0, 0, 1, 56, []), (2, 66, 1, 0, 0, 0, []), (5, 67, 0, 0, 2, 0, []), (0, 68, 0, 0, 1, 8, []), (2, 70, 2, 0, 0, 0, []), (5, 71, 0, 0, 2, 0, []), (5, 72, 0, 0, 0, 0, []), (2, 73, 4, 0, 1, 0, []), (5, 75, 0, 0, 0, 0, []), (25, 76, 100, 0, 0, 0, []), (3, 77, 5, 0, 1, 0, []), (2, 79, 3, 0, 0, 0, []), (2, 80, 5, 0, 1, 0, []), (5, 82, 0, 0, 7, 0, []), (0, 83, 0, 0, 0, 1, []), (5, 84, 0, 0, 3, 0, []), (0, 85, 0, 0, 0, 1, []), (16, 86, 59, 0, 1, 0, []), (2, 89, 5, 0, 1, 0, []), (34, 91, 0, 0, 0, 0, []), (4, 92, 4, 0, 0, 1, []), (19, 95, 27, 0, 0, 0, []), (0, 98, 0, 0, 1, (-2), []), (34, 100, 0, 0, 0, 0, [])]
noncomputable def i_M_takes : MI := (⟨"TakenInTurnsModel", "takes", "(III)I"⟩, prog_14_method_20_code, 6, Option.some Jvm.ClassFile.FieldType.int, 12, 3, t_M_takes)
set_option maxRecDepth 100000 in
noncomputable def t_M_isOrder : List AI := [(2, 0, 0, 2, 0, 0, []), (22, 1, 12, 1, 7, 0, [163]), (2, 4, 1, 0, 0, 0, []), (25, 5, 100, 0, 0, 0, []), (3, 6, 3, 0, 0, 0, []), (2, 7, 2, 0, 0, 0, []), (3, 8, 4, 0, 1, 0, []), (0, 10, 0, 0, 0, 0, []), (3, 11, 5, 0, 1, 0, []), (2, 13, 3, 0, 0, 0, []), (0, 14, 0, 0, 0, 1, []), (5, 15, 0, 0, 1, 0, []), (3, 16, 6, 0, 1, 0, []), (2, 18, 6, 0, 1, 0, []), (15, 20, 41, 0, 2, 0, []), (2, 23, 0, 2, 0, 0, []), (22, 24, 12, 32, 90, 0, [188]), (2, 27, 6, 0, 1, 0, []), (2, 29, 4, 0, 1, 0, []), (0, 31, 0, 0, 1, 10, []), (6, 33, 0, 0, 1, 0, []), (26, 34, 100, 0, 0, 0, []), (2, 35, 4, 0, 1, 0, []), (0, 37, 0, 0, 1, 10, []), (6, 39, 0, 0, 0, 0, []), (3, 40, 4, 0, 1, 0, []), (2, 42, 5, 0, 1, 0, []), (2, 44, 2, 0, 0, 0, []), (15, 45, 36, 0, 2, 0, []), (0, 48, 0, 0, 0, 1, []), (2, 49, 0, 2, 0, 0, []), (22, 50, 12, 32, 90, 0, [188]), (2, 53, 6, 0, 1, 0, []), (25, 55, 100, 0, 0, 0, []), (5, 56, 0, 0, 6, 0, []), (19, 57, 37, 0, 0, 0, []), (0, 60, 0, 0, 0, 0, []), (5, 61, 0, 0, 4, 0, []), (3, 62, 5, 0, 1, 0, []), (4, 64, 6, 0, 0, (-1), []), (19, 67, 13, 0, 0, 0, []), (2, 70, 2, 0, 0, 0, []), (15, 71, 54, 0, 2, 0, []), (2, 74, 4, 0, 1, 0, []), (15, 76, 54, 0, 1, 0, []), (2, 79, 5, 0, 1, 0, []), (0, 81, 0, 0, 0, 1, []), (2, 82, 3, 0, 0, 0, []), (5, 83, 0, 0, 6, 0, []), (0, 84, 0, 0, 0, 1, []), (5, 85, 0, 0, 1, 0, []), (16, 86, 54, 0, 1, 0, []), (0, 89, 0, 0, 0, 1, []), (19, 90, 55, 0, 0, 0, []), (0, 93, 0, 0, 0, 0, []), (34, 94, 0, 0, 0, 0, [])]
noncomputable def i_M_isOrder : MI := (⟨"TakenInTurnsModel", "isOrder", "(II)Z"⟩, prog_14_method_21_code, 7, Option.some Jvm.ClassFile.FieldType.boolean, 12, 2, t_M_isOrder)
set_option maxRecDepth 100000 in
noncomputable def t_M_asDigits : List AI := [(0, 0, 0, 0, 0, 0, []), (3, 1, 2, 0, 0, 0, []), (0, 2, 0, 0, 0, 0, []), (3, 3, 3, 0, 0, 0, []), (2, 4, 3, 0, 0, 0, []), (2, 5, 0, 2, 0, 0, []), (22, 6, 12, 1, 7, 0, [163]), (2, 9, 1, 0, 0, 0, []), (25, 10, 100, 0, 0, 0, []), (16, 11, 21, 0, 3, 0, []), (0, 14, 0, 0, 1, 10, []), (2, 16, 2, 0, 0, 0, []), (5, 17, 0, 0, 2, 0, []), (2, 18, 0, 2, 0, 0, []), (22, 19, 12, 32, 90, 0, [188]), (2, 22, 3, 0, 0, 0, []), (25, 23, 100, 0, 0, 0, []), (5, 24, 0, 0, 0, 0, []), (3, 25, 2, 0, 0, 0, []), (4, 26, 3, 0, 0, 1, []), (19, 29, 4, 0, 0, 0, []), (2, 32, 2, 0, 0, 0, []), (34, 33, 0, 0, 0, 0, [])]
noncomputable def i_M_asDigits : MI := (⟨"TakenInTurnsModel", "asDigits", "(I)I"⟩, prog_14_method_22_code, 4, Option.some Jvm.ClassFile.FieldType.int, 12, 1, t_M_asDigits)
set_option maxRecDepth 100000 in
noncomputable def t_M_firstLeft : List AI := [(0, 0, 0, 0, 0, 0, []), (3, 1, 3, 0, 0, 0, []), (2, 2, 3, 0, 0, 0, []), (2, 3, 0, 2, 0, 0, []), (22, 4, 12, 6, 25, 0, [168]), (0, 7, 0, 0, 1, 7, []), (2, 9, 1, 0, 0, 0, []), (5, 10, 0, 0, 2, 0, []), (2, 11, 2, 0, 0, 0, []), (5, 12, 0, 0, 0, 0, []), (25, 13, 100, 0, 0, 0, []), (16, 14, 34, 0, 3, 0, []), (2, 17, 0, 2, 0, 0, []), (22, 18, 12, 7, 28, 0, [169]), (0, 21, 0, 0, 1, 56, []), (2, 23, 1, 0, 0, 0, []), (5, 24, 0, 0, 2, 0, []), (0, 25, 0, 0, 1, 8, []), (2, 27, 2, 0, 0, 0, []), (5, 28, 0, 0, 2, 0, []), (5, 29, 0, 0, 0, 0, []), (2, 30, 3, 0, 0, 0, []), (5, 31, 0, 0, 0, 0, []), (25, 32, 100, 0, 0, 0, []), (3, 33, 4, 0, 1, 0, []), (2, 35, 0, 2, 0, 0, []), (22, 36, 12, 34, 96, 0, [190]), (2, 39, 4, 0, 1, 0, []), (25, 41, 100, 0, 0, 0, []), (15, 42, 32, 0, 5, 0, []), (2, 45, 4, 0, 1, 0, []), (34, 47, 0, 0, 0, 0, []), (4, 48, 3, 0, 0, 1, []), (19, 51, 2, 0, 0, 0, []), (0, 54, 0, 0, 1, (-2), []), (34, 56, 0, 0, 0, 0, [])]
noncomputable def i_M_firstLeft : MI := (⟨"TakenInTurnsModel", "firstLeft", "(II)I"⟩, prog_14_method_23_code, 5, Option.some Jvm.ClassFile.FieldType.int, 12, 2, t_M_firstLeft)
set_option maxRecDepth 100000 in
noncomputable def t_M_runs : List AI := [(2, 0, 0, 2, 0, 0, []), (22, 1, 12, 1, 7, 0, [163]), (2, 4, 1, 0, 0, 0, []), (25, 5, 100, 0, 0, 0, []), (3, 6, 3, 0, 0, 0, []), (0, 7, 0, 0, 0, 0, []), (3, 8, 4, 0, 1, 0, []), (2, 10, 4, 0, 1, 0, []), (2, 12, 0, 2, 0, 0, []), (22, 13, 12, 2, 13, 0, [164]), (2, 16, 1, 0, 0, 0, []), (25, 17, 100, 0, 0, 0, []), (16, 18, 27, 0, 3, 0, []), (2, 21, 0, 2, 0, 0, []), (22, 22, 12, 34, 96, 0, [190]), (2, 25, 4, 0, 1, 0, []), (2, 27, 0, 2, 0, 0, []), (22, 28, 12, 4, 19, 0, [166]), (0, 31, 0, 0, 1, 8, []), (2, 33, 1, 0, 0, 0, []), (5, 34, 0, 0, 2, 0, []), (2, 35, 4, 0, 1, 0, []), (5, 37, 0, 0, 0, 0, []), (25, 38, 100, 0, 0, 0, []), (26, 39, 100, 0, 0, 0, []), (4, 40, 4, 0, 0, 1, []), (19, 43, 7, 0, 0, 0, []), (0, 46, 0, 0, 0, 0, []), (3, 47, 4, 0, 1, 0, []), (2, 49, 4, 0, 1, 0, []), (0, 51, 0, 0, 1, 8, []), (2, 53, 3, 0, 0, 0, []), (5, 54, 0, 0, 2, 0, []), (16, 55, 41, 0, 3, 0, []), (2, 58, 0, 2, 0, 0, []), (22, 59, 12, 33, 93, 0, [189]), (2, 62, 4, 0, 1, 0, []), (0, 64, 0, 0, 0, 0, []), (26, 65, 100, 0, 0, 0, []), (4, 66, 4, 0, 0, 1, []), (19, 69, 29, 0, 0, 0, []), (0, 72, 0, 0, 0, 0, []), (3, 73, 4, 0, 1, 0, []), (2, 75, 4, 0, 1, 0, []), (2, 77, 3, 0, 0, 0, []), (16, 78, 53, 0, 3, 0, []), (2, 81, 0, 2, 0, 0, []), (22, 82, 12, 37, 105, 0, [193]), (2, 85, 4, 0, 1, 0, []), (0, 87, 0, 0, 0, 0, []), (26, 88, 100, 0, 0, 0, []), (4, 89, 4, 0, 0, 1, []), (19, 92, 43, 0, 0, 0, []), (0, 95, 0, 0, 0, 0, []), (3, 96, 4, 0, 1, 0, []), (2, 98, 4, 0, 1, 0, []), (2, 100, 0, 2, 0, 0, []), (22, 101, 12, 3, 16, 0, [165]), (2, 104, 1, 0, 0, 0, []), (25, 105, 100, 0, 0, 0, []), (2, 106, 3, 0, 0, 0, []), (5, 107, 0, 0, 2, 0, []), (16, 108, 153, 0, 3, 0, []), (2, 111, 2, 0, 0, 0, []), (15, 112, 72, 0, 0, 0, []), (2, 115, 4, 0, 1, 0, []), (2, 117, 3, 0, 0, 0, []), (6, 118, 0, 0, 0, 0, []), (0, 119, 0, 0, 0, 1, []), (16, 120, 72, 0, 1, 0, []), (0, 123, 0, 0, 0, 1, []), (19, 124, 73, 0, 0, 0, []), (0, 127, 0, 0, 0, 0, []), (3, 128, 5, 0, 1, 0, []), (2, 130, 0, 2, 0, 0, []), (22, 131, 12, 32, 90, 0, [188]), (2, 134, 5, 0, 1, 0, []), (15, 136, 86, 0, 0, 0, []), (2, 139, 3, 0, 0, 0, []), (0, 140, 0, 0, 0, 1, []), (5, 141, 0, 0, 1, 0, []), (2, 142, 4, 0, 1, 0, []), (2, 144, 3, 0, 0, 0, []), (6, 145, 0, 0, 1, 0, []), (5, 146, 0, 0, 1, 0, []), (19, 147, 89, 0, 0, 0, []), (2, 150, 4, 0, 1, 0, []), (2, 152, 3, 0, 0, 0, []), (6, 153, 0, 0, 1, 0, []), (25, 154, 100, 0, 0, 0, []), (3, 155, 6, 0, 1, 0, []), (2, 157, 0, 2, 0, 0, []), (2, 158, 1, 0, 0, 0, []), (2, 159, 6, 0, 1, 0, []), (31, 161, 168, 12, 221, 2, [132, 85]), (3, 164, 7, 0, 1, 0, []), (2, 166, 7, 0, 1, 0, []), (0, 168, 0, 0, 1, (-2), []), (16, 170, 151, 0, 0, 0, []), (2, 173, 0, 2, 0, 0, []), (22, 174, 12, 34, 96, 0, [190]), (2, 177, 7, 0, 1, 0, []), (29, 179, 0, 0, 0, 0, []), (25, 180, 100, 0, 0, 0, []), (0, 181, 0, 0, 0, 1, []), (5, 182, 0, 0, 1, 0, []), (26, 183, 100, 0, 0, 0, []), (2, 184, 0, 2, 0, 0, []), (22, 185, 12, 33, 93, 0, [189]), (0, 188, 0, 0, 1, 8, []), (2, 190, 6, 0, 1, 0, []), (5, 192, 0, 0, 2, 0, []), (2, 193, 7, 0, 1, 0, []), (5, 195, 0, 0, 0, 0, []), (29, 196, 0, 0, 0, 0, []), (25, 197, 100, 0, 0, 0, []), (0, 198, 0, 0, 0, 1, []), (5, 199, 0, 0, 0, 0, []), (26, 200, 100, 0, 0, 0, []), (2, 201, 0, 2, 0, 0, []), (22, 202, 12, 35, 99, 0, [191]), (0, 205, 0, 0, 0, 3, []), (2, 206, 6, 0, 1, 0, []), (5, 208, 0, 0, 2, 0, []), (2, 209, 0, 2, 0, 0, []), (22, 210, 12, 37, 105, 0, [193]), (2, 213, 6, 0, 1, 0, []), (25, 215, 100, 0, 0, 0, []), (5, 216, 0, 0, 0, 0, []), (2, 217, 4, 0, 1, 0, []), (26, 219, 100, 0, 0, 0, []), (2, 220, 0, 2, 0, 0, []), (22, 221, 12, 36, 102, 0, [192]), (0, 224, 0, 0, 0, 3, []), (2, 225, 6, 0, 1, 0, []), (5, 227, 0, 0, 2, 0, []), (2, 228, 0, 2, 0, 0, []), (22, 229, 12, 37, 105, 0, [193]), (2, 232, 6, 0, 1, 0, []), (25, 234, 100, 0, 0, 0, []), (5, 235, 0, 0, 0, 0, []), (2, 236, 7, 0, 1, 0, []), (26, 238, 100, 0, 0, 0, []), (2, 239, 0, 2, 0, 0, []), (22, 240, 12, 37, 105, 0, [193]), (2, 243, 6, 0, 1, 0, []), (29, 245, 0, 0, 0, 0, []), (25, 246, 100, 0, 0, 0, []), (0, 247, 0, 0, 0, 1, []), (5, 248, 0, 0, 0, 0, []), (26, 249, 100, 0, 0, 0, []), (4, 250, 4, 0, 0, 1, []), (19, 253, 55, 0, 0, 0, []), (34, 256, 0, 0, 0, 0, [])]
noncomputable def i_M_runs : MI := (⟨"TakenInTurnsModel", "runs", "(IZ)V"⟩, prog_14_method_24_code, 8, none, 12, 2, t_M_runs)
set_option maxRecDepth 100000 in
noncomputable def t_M_isWay : List AI := [(2, 0, 1, 0, 0, 0, []), (0, 1, 0, 0, 0, 0, []), (2, 2, 0, 2, 0, 0, []), (22, 3, 12, 10, 225, 0, [219]), (0, 6, 0, 0, 0, 1, []), (5, 7, 0, 0, 1, 0, []), (32, 8, 148, 0, 178, 3, [122, 23]), (34, 11, 0, 0, 0, 0, [])]
noncomputable def i_M_isWay : MI := (⟨"TakenInTurnsModel", "isWay", "(I)Z"⟩, prog_14_method_25_code, 2, Option.some Jvm.ClassFile.FieldType.boolean, 12, 1, t_M_isWay)
set_option maxRecDepth 100000 in
noncomputable def t_M_run : List AI := [(2, 0, 0, 2, 0, 0, []), (2, 1, 1, 0, 0, 0, []), (31, 2, 149, 12, 182, 1, [123, 76]), (15, 5, 8, 0, 0, 0, []), (2, 8, 0, 2, 0, 0, []), (2, 9, 2, 0, 0, 0, []), (31, 10, 170, 12, 228, 1, [133, 86]), (15, 13, 10, 0, 1, 0, []), (0, 16, 0, 0, 0, (-1), []), (34, 17, 0, 0, 0, 0, []), (2, 18, 0, 2, 0, 0, []), (22, 19, 12, 11, 37, 0, [172]), (2, 22, 2, 0, 0, 0, []), (25, 23, 100, 0, 0, 0, []), (0, 24, 0, 0, 0, 1, []), (0, 25, 0, 0, 0, 2, []), (32, 26, 148, 0, 178, 3, [122, 23]), (15, 29, 23, 0, 0, 0, []), (2, 32, 0, 2, 0, 0, []), (2, 33, 1, 0, 0, 0, []), (2, 34, 3, 0, 0, 0, []), (31, 35, 166, 12, 231, 2, [134, 87]), (15, 38, 25, 0, 1, 0, []), (0, 41, 0, 0, 0, (-1), []), (34, 42, 0, 0, 0, 0, []), (2, 43, 0, 2, 0, 0, []), (2, 44, 1, 0, 0, 0, []), (2, 45, 0, 2, 0, 0, []), (22, 46, 12, 11, 37, 0, [172]), (2, 49, 2, 0, 0, 0, []), (25, 50, 100, 0, 0, 0, []), (0, 51, 0, 0, 0, 2, []), (16, 52, 35, 0, 1, 0, []), (0, 55, 0, 0, 0, 1, []), (19, 56, 36, 0, 0, 0, []), (0, 59, 0, 0, 0, 0, []), (31, 60, 169, 12, 234, 2, [135, 88]), (2, 63, 0, 2, 0, 0, []), (2, 64, 1, 0, 0, 0, []), (23, 65, 12, 14, 43, 0, [174]), (0, 68, 0, 0, 0, 0, []), (3, 69, 4, 0, 1, 0, []), (2, 71, 4, 0, 1, 0, []), (0, 73, 0, 0, 1, 56, []), (16, 75, 65, 0, 3, 0, []), (2, 78, 0, 2, 0, 0, []), (22, 79, 12, 15, 47, 0, [175]), (2, 82, 4, 0, 1, 0, []), (2, 84, 4, 0, 1, 0, []), (0, 86, 0, 0, 1, 8, []), (2, 88, 0, 2, 0, 0, []), (22, 89, 12, 1, 7, 0, [163]), (2, 92, 1, 0, 0, 0, []), (25, 93, 100, 0, 0, 0, []), (5, 94, 0, 0, 2, 0, []), (16, 95, 61, 0, 3, 0, []), (2, 98, 0, 2, 0, 0, []), (22, 99, 12, 33, 93, 0, [189]), (2, 102, 4, 0, 1, 0, []), (25, 104, 100, 0, 0, 0, []), (19, 105, 62, 0, 0, 0, []), (0, 108, 0, 0, 0, 0, []), (26, 109, 100, 0, 0, 0, []), (4, 110, 4, 0, 0, 1, []), (19, 113, 42, 0, 0, 0, []), (0, 116, 0, 0, 0, 0, []), (3, 117, 4, 0, 1, 0, []), (2, 119, 4, 0, 1, 0, []), (0, 121, 0, 0, 1, 8, []), (16, 123, 80, 0, 3, 0, []), (2, 126, 0, 2, 0, 0, []), (22, 127, 12, 16, 50, 0, [176]), (2, 130, 4, 0, 1, 0, []), (2, 132, 0, 2, 0, 0, []), (22, 133, 12, 34, 96, 0, [190]), (2, 136, 4, 0, 1, 0, []), (25, 138, 100, 0, 0, 0, []), (26, 139, 100, 0, 0, 0, []), (4, 140, 4, 0, 0, 1, []), (19, 143, 67, 0, 0, 0, []), (0, 146, 0, 0, 0, 0, []), (3, 147, 4, 0, 1, 0, []), (2, 149, 4, 0, 1, 0, []), (0, 151, 0, 0, 1, 21, []), (16, 153, 103, 0, 3, 0, []), (2, 156, 0, 2, 0, 0, []), (22, 157, 12, 17, 53, 0, [177]), (2, 160, 4, 0, 1, 0, []), (2, 162, 0, 2, 0, 0, []), (22, 163, 12, 35, 99, 0, [191]), (2, 166, 4, 0, 1, 0, []), (25, 168, 100, 0, 0, 0, []), (26, 169, 100, 0, 0, 0, []), (2, 170, 0, 2, 0, 0, []), (22, 171, 12, 18, 56, 0, [178]), (2, 174, 4, 0, 1, 0, []), (2, 176, 0, 2, 0, 0, []), (22, 177, 12, 36, 102, 0, [192]), (2, 180, 4, 0, 1, 0, []), (25, 182, 100, 0, 0, 0, []), (26, 183, 100, 0, 0, 0, []), (4, 184, 4, 0, 0, 1, []), (19, 187, 82, 0, 0, 0, []), (0, 190, 0, 0, 0, 0, []), (3, 191, 4, 0, 1, 0, []), (2, 193, 4, 0, 1, 0, []), (0, 195, 0, 0, 1, 7, []), (16, 197, 118, 0, 3, 0, []), (2, 200, 0, 2, 0, 0, []), (22, 201, 12, 19, 59, 0, [179]), (2, 204, 4, 0, 1, 0, []), (2, 206, 0, 2, 0, 0, []), (22, 207, 12, 37, 105, 0, [193]), (2, 210, 4, 0, 1, 0, []), (25, 212, 100, 0, 0, 0, []), (26, 213, 100, 0, 0, 0, []), (4, 214, 4, 0, 0, 1, []), (19, 217, 105, 0, 0, 0, []), (0, 220, 0, 0, 0, 1, []), (34, 221, 0, 0, 0, 0, [])]
noncomputable def i_M_run : MI := (⟨"TakenInTurnsModel", "run", "(III)I"⟩, prog_14_method_26_code, 5, Option.some Jvm.ClassFile.FieldType.int, 12, 3, t_M_run)
set_option maxRecDepth 100000 in
noncomputable def t_M_has : List AI := [(2, 0, 0, 2, 0, 0, []), (2, 1, 0, 2, 0, 0, []), (22, 2, 12, 14, 43, 0, [174]), (2, 5, 1, 0, 0, 0, []), (31, 6, 150, 12, 210, 2, [129, 82]), (15, 9, 21, 0, 0, 0, []), (2, 12, 0, 2, 0, 0, []), (2, 13, 0, 2, 0, 0, []), (22, 14, 12, 14, 43, 0, [174]), (2, 17, 2, 0, 0, 0, []), (31, 18, 151, 12, 218, 2, [131, 84]), (15, 21, 21, 0, 0, 0, []), (2, 24, 0, 2, 0, 0, []), (22, 25, 12, 15, 47, 0, [175]), (0, 28, 0, 0, 1, 8, []), (2, 30, 1, 0, 0, 0, []), (5, 31, 0, 0, 2, 0, []), (2, 32, 2, 0, 0, 0, []), (5, 33, 0, 0, 0, 0, []), (25, 34, 100, 0, 0, 0, []), (19, 35, 22, 0, 0, 0, []), (0, 38, 0, 0, 0, (-1), []), (34, 39, 0, 0, 0, 0, [])]
noncomputable def i_M_has : MI := (⟨"TakenInTurnsModel", "has", "(II)I"⟩, prog_14_method_27_code, 3, Option.some Jvm.ClassFile.FieldType.int, 12, 2, t_M_has)
set_option maxRecDepth 100000 in
noncomputable def t_M_left : List AI := [(2, 0, 0, 2, 0, 0, []), (2, 1, 0, 2, 0, 0, []), (22, 2, 12, 14, 43, 0, [174]), (2, 5, 1, 0, 0, 0, []), (31, 6, 151, 12, 218, 2, [131, 84]), (15, 9, 11, 0, 0, 0, []), (2, 12, 0, 2, 0, 0, []), (22, 13, 12, 16, 50, 0, [176]), (2, 16, 1, 0, 0, 0, []), (25, 17, 100, 0, 0, 0, []), (19, 18, 12, 0, 0, 0, []), (0, 21, 0, 0, 0, (-1), []), (34, 22, 0, 0, 0, 0, [])]
noncomputable def i_M_left : MI := (⟨"TakenInTurnsModel", "left", "(I)I"⟩, prog_14_method_28_code, 2, Option.some Jvm.ClassFile.FieldType.int, 12, 1, t_M_left)
set_option maxRecDepth 100000 in
noncomputable def t_M_led : List AI := [(2, 0, 0, 2, 0, 0, []), (2, 1, 0, 2, 0, 0, []), (22, 2, 12, 14, 43, 0, [174]), (2, 5, 1, 0, 0, 0, []), (31, 6, 150, 12, 210, 2, [129, 82]), (15, 9, 28, 0, 0, 0, []), (2, 12, 3, 0, 0, 0, []), (0, 13, 0, 0, 0, 0, []), (0, 14, 0, 0, 0, 1, []), (32, 15, 148, 0, 178, 3, [122, 23]), (15, 18, 28, 0, 0, 0, []), (2, 21, 2, 0, 0, 0, []), (0, 22, 0, 0, 0, 0, []), (2, 23, 0, 2, 0, 0, []), (22, 24, 12, 19, 59, 0, [179]), (2, 27, 1, 0, 0, 0, []), (0, 28, 0, 0, 0, 0, []), (0, 29, 0, 0, 1, 6, []), (32, 31, 148, 0, 178, 3, [122, 23]), (15, 34, 22, 0, 0, 0, []), (2, 37, 1, 0, 0, 0, []), (19, 38, 23, 0, 0, 0, []), (0, 41, 0, 0, 0, 0, []), (25, 42, 100, 0, 0, 0, []), (0, 43, 0, 0, 0, 1, []), (5, 44, 0, 0, 1, 0, []), (32, 45, 148, 0, 178, 3, [122, 23]), (15, 48, 30, 0, 1, 0, []), (0, 51, 0, 0, 0, (-1), []), (34, 52, 0, 0, 0, 0, []), (2, 53, 3, 0, 0, 0, []), (15, 54, 41, 0, 1, 0, []), (2, 57, 0, 2, 0, 0, []), (22, 58, 12, 17, 53, 0, [177]), (0, 61, 0, 0, 0, 3, []), (2, 62, 1, 0, 0, 0, []), (5, 63, 0, 0, 2, 0, []), (2, 64, 2, 0, 0, 0, []), (5, 65, 0, 0, 0, 0, []), (25, 66, 100, 0, 0, 0, []), (19, 67, 49, 0, 0, 0, []), (2, 70, 0, 2, 0, 0, []), (22, 71, 12, 18, 56, 0, [178]), (0, 74, 0, 0, 0, 3, []), (2, 75, 1, 0, 0, 0, []), (5, 76, 0, 0, 2, 0, []), (2, 77, 2, 0, 0, 0, []), (5, 78, 0, 0, 0, 0, []), (25, 79, 100, 0, 0, 0, []), (34, 80, 0, 0, 0, 0, [])]
noncomputable def i_M_led : MI := (⟨"TakenInTurnsModel", "led", "(III)I"⟩, prog_14_method_29_code, 4, Option.some Jvm.ClassFile.FieldType.int, 12, 3, t_M_led)
set_option maxRecDepth 100000 in
noncomputable def t_M_levelIn : List AI := [(2, 0, 0, 2, 0, 0, []), (22, 1, 12, 8, 31, 0, [170]), (0, 4, 0, 0, 1, 56, []), (2, 6, 0, 2, 0, 0, []), (22, 7, 12, 14, 43, 0, [174]), (5, 10, 0, 0, 2, 0, []), (0, 11, 0, 0, 1, 8, []), (2, 13, 1, 0, 0, 0, []), (5, 14, 0, 0, 2, 0, []), (5, 15, 0, 0, 0, 0, []), (2, 16, 2, 0, 0, 0, []), (5, 17, 0, 0, 0, 0, []), (25, 18, 100, 0, 0, 0, []), (34, 19, 0, 0, 0, 0, [])]
noncomputable def i_M_levelIn : MI := (⟨"TakenInTurnsModel", "levelIn", "(II)I"⟩, prog_14_method_30_code, 3, Option.some Jvm.ClassFile.FieldType.int, 12, 2, t_M_levelIn)
set_option maxRecDepth 100000 in
noncomputable def t_M_wishes : List AI := [(2, 0, 0, 2, 0, 0, []), (2, 1, 1, 0, 0, 0, []), (2, 2, 2, 0, 0, 0, []), (31, 3, 175, 12, 238, 2, [136, 89]), (15, 6, 16, 0, 2, 0, []), (2, 9, 0, 2, 0, 0, []), (2, 10, 1, 0, 0, 0, []), (2, 11, 2, 0, 0, 0, []), (31, 12, 175, 12, 238, 2, [136, 89]), (2, 15, 0, 2, 0, 0, []), (2, 16, 1, 0, 0, 0, []), (2, 17, 3, 0, 0, 0, []), (31, 18, 175, 12, 238, 2, [136, 89]), (16, 21, 16, 0, 3, 0, []), (0, 24, 0, 0, 0, 1, []), (19, 25, 17, 0, 0, 0, []), (0, 28, 0, 0, 0, 0, []), (34, 29, 0, 0, 0, 0, [])]
noncomputable def i_M_wishes : MI := (⟨"TakenInTurnsModel", "wishes", "(III)Z"⟩, prog_14_method_31_code, 4, Option.some Jvm.ClassFile.FieldType.boolean, 12, 3, t_M_wishes)
set_option maxRecDepth 100000 in
noncomputable def t_M_findsOne : List AI := [(0, 0, 0, 0, 0, 0, []), (3, 1, 1, 0, 0, 0, []), (2, 2, 1, 0, 0, 0, []), (2, 3, 0, 2, 0, 0, []), (22, 4, 12, 1, 7, 0, [163]), (2, 7, 0, 2, 0, 0, []), (22, 8, 12, 14, 43, 0, [174]), (25, 11, 100, 0, 0, 0, []), (16, 12, 65, 0, 3, 0, []), (0, 15, 0, 0, 0, 0, []), (3, 16, 2, 0, 0, 0, []), (2, 17, 2, 0, 0, 0, []), (2, 18, 0, 2, 0, 0, []), (22, 19, 12, 2, 13, 0, [164]), (2, 22, 0, 2, 0, 0, []), (22, 23, 12, 14, 43, 0, [174]), (25, 26, 100, 0, 0, 0, []), (16, 27, 63, 0, 3, 0, []), (0, 30, 0, 0, 0, 0, []), (3, 31, 3, 0, 0, 0, []), (2, 32, 3, 0, 0, 0, []), (2, 33, 0, 2, 0, 0, []), (22, 34, 12, 2, 13, 0, [164]), (2, 37, 0, 2, 0, 0, []), (22, 38, 12, 14, 43, 0, [174]), (25, 41, 100, 0, 0, 0, []), (16, 42, 61, 0, 3, 0, []), (2, 45, 0, 2, 0, 0, []), (22, 46, 12, 15, 47, 0, [175]), (0, 49, 0, 0, 1, 8, []), (2, 51, 1, 0, 0, 0, []), (5, 52, 0, 0, 2, 0, []), (2, 53, 2, 0, 0, 0, []), (5, 54, 0, 0, 0, 0, []), (25, 55, 100, 0, 0, 0, []), (15, 56, 61, 0, 5, 0, []), (2, 59, 0, 2, 0, 0, []), (22, 60, 12, 16, 50, 0, [176]), (2, 63, 3, 0, 0, 0, []), (25, 64, 100, 0, 0, 0, []), (15, 65, 59, 0, 5, 0, []), (2, 68, 0, 2, 0, 0, []), (2, 69, 1, 0, 0, 0, []), (2, 70, 3, 0, 0, 0, []), (2, 71, 2, 0, 0, 0, []), (31, 72, 176, 12, 241, 3, [137, 90]), (15, 75, 59, 0, 0, 0, []), (2, 78, 0, 2, 0, 0, []), (22, 79, 12, 38, 108, 0, [194]), (0, 82, 0, 0, 0, 0, []), (2, 83, 1, 0, 0, 0, []), (26, 84, 100, 0, 0, 0, []), (2, 85, 0, 2, 0, 0, []), (22, 86, 12, 39, 111, 0, [195]), (0, 89, 0, 0, 0, 0, []), (2, 90, 2, 0, 0, 0, []), (26, 91, 100, 0, 0, 0, []), (0, 92, 0, 0, 0, 1, []), (34, 93, 0, 0, 0, 0, []), (4, 94, 3, 0, 0, 1, []), (19, 97, 20, 0, 0, 0, []), (4, 100, 2, 0, 0, 1, []), (19, 103, 11, 0, 0, 0, []), (4, 106, 1, 0, 0, 1, []), (19, 109, 2, 0, 0, 0, []), (0, 112, 0, 0, 0, 0, []), (34, 113, 0, 0, 0, 0, [])]
noncomputable def i_M_findsOne : MI := (⟨"TakenInTurnsModel", "findsOne", "()Z"⟩, prog_14_method_32_code, 4, Option.some Jvm.ClassFile.FieldType.boolean, 12, 0, t_M_findsOne)
set_option maxRecDepth 100000 in
noncomputable def t_M_findsThings : List AI := [(2, 0, 1, 0, 0, 0, []), (2, 1, 2, 0, 0, 0, []), (16, 2, 20, 0, 1, 0, []), (2, 5, 0, 2, 0, 0, []), (2, 6, 0, 2, 0, 0, []), (22, 7, 12, 38, 108, 0, [194]), (0, 10, 0, 0, 0, 0, []), (25, 11, 100, 0, 0, 0, []), (2, 12, 0, 2, 0, 0, []), (22, 13, 12, 39, 111, 0, [195]), (2, 16, 2, 0, 0, 0, []), (0, 17, 0, 0, 0, 1, []), (5, 18, 0, 0, 1, 0, []), (25, 19, 100, 0, 0, 0, []), (2, 20, 0, 2, 0, 0, []), (22, 21, 12, 39, 111, 0, [195]), (0, 24, 0, 0, 0, 0, []), (25, 25, 100, 0, 0, 0, []), (31, 26, 176, 12, 241, 3, [137, 90]), (34, 29, 0, 0, 0, 0, []), (0, 30, 0, 0, 0, 0, []), (3, 31, 3, 0, 0, 0, []), (2, 32, 3, 0, 0, 0, []), (2, 33, 0, 2, 0, 0, []), (22, 34, 12, 2, 13, 0, [164]), (2, 37, 0, 2, 0, 0, []), (22, 38, 12, 14, 43, 0, [174]), (25, 41, 100, 0, 0, 0, []), (16, 42, 79, 0, 3, 0, []), (2, 45, 0, 2, 0, 0, []), (22, 46, 12, 15, 47, 0, [175]), (0, 49, 0, 0, 1, 8, []), (2, 51, 0, 2, 0, 0, []), (22, 52, 12, 38, 108, 0, [194]), (2, 55, 1, 0, 0, 0, []), (25, 56, 100, 0, 0, 0, []), (5, 57, 0, 0, 2, 0, []), (2, 58, 3, 0, 0, 0, []), (5, 59, 0, 0, 0, 0, []), (25, 60, 100, 0, 0, 0, []), (15, 61, 59, 0, 5, 0, []), (2, 64, 1, 0, 0, 0, []), (15, 65, 57, 0, 0, 0, []), (2, 68, 0, 2, 0, 0, []), (2, 69, 0, 2, 0, 0, []), (22, 70, 12, 38, 108, 0, [194]), (2, 73, 1, 0, 0, 0, []), (25, 74, 100, 0, 0, 0, []), (2, 75, 0, 2, 0, 0, []), (22, 76, 12, 39, 111, 0, [195]), (2, 79, 1, 0, 0, 0, []), (0, 80, 0, 0, 0, 1, []), (5, 81, 0, 0, 1, 0, []), (25, 82, 100, 0, 0, 0, []), (2, 83, 3, 0, 0, 0, []), (31, 84, 176, 12, 241, 3, [137, 90]), (15, 87, 59, 0, 0, 0, []), (0, 90, 0, 0, 0, 1, []), (19, 91, 60, 0, 0, 0, []), (0, 94, 0, 0, 0, 0, []), (3, 95, 4, 0, 1, 0, []), (2, 97, 0, 2, 0, 0, []), (22, 98, 12, 39, 111, 0, [195]), (2, 101, 1, 0, 0, 0, []), (2, 102, 3, 0, 0, 0, []), (26, 103, 100, 0, 0, 0, []), (2, 104, 4, 0, 1, 0, []), (15, 106, 77, 0, 0, 0, []), (2, 109, 0, 2, 0, 0, []), (2, 110, 1, 0, 0, 0, []), (0, 111, 0, 0, 0, 1, []), (5, 112, 0, 0, 0, 0, []), (2, 113, 2, 0, 0, 0, []), (31, 114, 178, 12, 244, 2, [138, 91]), (15, 117, 77, 0, 0, 0, []), (0, 120, 0, 0, 0, 1, []), (34, 121, 0, 0, 0, 0, []), (4, 122, 3, 0, 0, 1, []), (19, 125, 22, 0, 0, 0, []), (0, 128, 0, 0, 0, 0, []), (34, 129, 0, 0, 0, 0, [])]
noncomputable def i_M_findsThings : MI := (⟨"TakenInTurnsModel", "findsThings", "(II)Z"⟩, prog_14_method_33_code, 5, Option.some Jvm.ClassFile.FieldType.boolean, 12, 2, t_M_findsThings)
set_option maxRecDepth 100000 in
noncomputable def t_M_findsPeople : List AI := [(2, 0, 1, 0, 0, 0, []), (2, 1, 2, 0, 0, 0, []), (16, 2, 8, 0, 1, 0, []), (2, 5, 0, 2, 0, 0, []), (0, 6, 0, 0, 0, 0, []), (2, 7, 2, 0, 0, 0, []), (31, 8, 178, 12, 244, 2, [138, 91]), (34, 11, 0, 0, 0, 0, []), (0, 12, 0, 0, 0, 0, []), (3, 13, 4, 0, 1, 0, []), (2, 15, 4, 0, 1, 0, []), (2, 17, 0, 2, 0, 0, []), (22, 18, 12, 1, 7, 0, [163]), (2, 21, 0, 2, 0, 0, []), (22, 22, 12, 14, 43, 0, [174]), (25, 25, 100, 0, 0, 0, []), (16, 26, 52, 0, 3, 0, []), (2, 29, 3, 0, 0, 0, []), (2, 30, 4, 0, 1, 0, []), (5, 32, 0, 0, 7, 0, []), (0, 33, 0, 0, 0, 1, []), (5, 34, 0, 0, 3, 0, []), (15, 35, 50, 0, 1, 0, []), (2, 38, 1, 0, 0, 0, []), (15, 39, 31, 0, 0, 0, []), (2, 42, 4, 0, 1, 0, []), (2, 44, 0, 2, 0, 0, []), (22, 45, 12, 38, 108, 0, [194]), (0, 48, 0, 0, 0, 0, []), (25, 49, 100, 0, 0, 0, []), (16, 50, 50, 0, 5, 0, []), (2, 53, 0, 2, 0, 0, []), (22, 54, 12, 38, 108, 0, [194]), (2, 57, 1, 0, 0, 0, []), (2, 58, 4, 0, 1, 0, []), (26, 60, 100, 0, 0, 0, []), (2, 61, 0, 2, 0, 0, []), (2, 62, 1, 0, 0, 0, []), (0, 63, 0, 0, 0, 1, []), (5, 64, 0, 0, 0, 0, []), (2, 65, 2, 0, 0, 0, []), (2, 66, 3, 0, 0, 0, []), (0, 67, 0, 0, 0, 1, []), (2, 68, 4, 0, 1, 0, []), (5, 70, 0, 0, 6, 0, []), (5, 71, 0, 0, 4, 0, []), (31, 72, 179, 12, 247, 3, [139, 92]), (15, 75, 50, 0, 0, 0, []), (0, 78, 0, 0, 0, 1, []), (34, 79, 0, 0, 0, 0, []), (4, 80, 4, 0, 0, 1, []), (19, 83, 10, 0, 0, 0, []), (0, 86, 0, 0, 0, 0, []), (34, 87, 0, 0, 0, 0, [])]
noncomputable def i_M_findsPeople : MI := (⟨"TakenInTurnsModel", "findsPeople", "(III)Z"⟩, prog_14_method_34_code, 5, Option.some Jvm.ClassFile.FieldType.boolean, 12, 3, t_M_findsPeople)
set_option maxRecDepth 100000 in
noncomputable def t_M_findsRing : List AI := [(2, 0, 0, 2, 0, 0, []), (2, 1, 0, 2, 0, 0, []), (31, 2, 177, 12, 250, 0, [140, 93]), (15, 5, 6, 0, 0, 0, []), (0, 8, 0, 0, 0, 1, []), (19, 9, 7, 0, 0, 0, []), (0, 12, 0, 0, 0, 0, []), (23, 13, 12, 40, 254, 0, [220]), (0, 16, 0, 0, 0, 2, []), (3, 17, 1, 0, 0, 0, []), (2, 18, 1, 0, 0, 0, []), (2, 19, 0, 2, 0, 0, []), (22, 20, 12, 1, 7, 0, [163]), (2, 23, 0, 2, 0, 0, []), (22, 24, 12, 14, 43, 0, [174]), (25, 27, 100, 0, 0, 0, []), (16, 28, 33, 0, 4, 0, []), (2, 31, 0, 2, 0, 0, []), (22, 32, 12, 40, 254, 0, [220]), (15, 35, 33, 0, 1, 0, []), (2, 38, 0, 2, 0, 0, []), (2, 39, 0, 2, 0, 0, []), (0, 40, 0, 0, 0, 0, []), (2, 41, 1, 0, 0, 0, []), (0, 42, 0, 0, 0, 0, []), (31, 43, 179, 12, 247, 3, [139, 92]), (15, 46, 29, 0, 0, 0, []), (2, 49, 1, 0, 0, 0, []), (19, 50, 30, 0, 0, 0, []), (0, 53, 0, 0, 0, 0, []), (23, 54, 12, 40, 254, 0, [220]), (4, 57, 1, 0, 0, 1, []), (19, 60, 10, 0, 0, 0, []), (34, 63, 0, 0, 0, 0, [])]
noncomputable def i_M_findsRing : MI := (⟨"TakenInTurnsModel", "findsRing", "()V"⟩, prog_14_method_35_code, 2, none, 12, 0, t_M_findsRing)
set_option maxRecDepth 100000 in
noncomputable def t_M_ring : List AI := [(2, 0, 0, 2, 0, 0, []), (22, 1, 12, 14, 43, 0, [174]), (15, 4, 6, 0, 2, 0, []), (2, 7, 1, 0, 0, 0, []), (0, 8, 0, 0, 0, (-1), []), (16, 9, 8, 0, 3, 0, []), (0, 12, 0, 0, 0, (-1), []), (34, 13, 0, 0, 0, 0, []), (2, 14, 0, 2, 0, 0, []), (31, 15, 180, 12, 257, 0, [141, 94]), (2, 18, 1, 0, 0, 0, []), (0, 19, 0, 0, 0, (-1), []), (16, 20, 21, 0, 1, 0, []), (2, 23, 0, 2, 0, 0, []), (22, 24, 12, 40, 254, 0, [220]), (15, 27, 18, 0, 1, 0, []), (0, 30, 0, 0, 1, (-2), []), (19, 32, 20, 0, 0, 0, []), (2, 35, 0, 2, 0, 0, []), (22, 36, 12, 40, 254, 0, [220]), (34, 39, 0, 0, 0, 0, []), (2, 40, 1, 0, 0, 0, []), (2, 41, 0, 2, 0, 0, []), (22, 42, 12, 40, 254, 0, [220]), (16, 45, 37, 0, 3, 0, []), (0, 48, 0, 0, 1, 10, []), (2, 50, 0, 2, 0, 0, []), (22, 51, 12, 38, 108, 0, [194]), (2, 54, 1, 0, 0, 0, []), (25, 55, 100, 0, 0, 0, []), (5, 56, 0, 0, 2, 0, []), (2, 57, 0, 2, 0, 0, []), (22, 58, 12, 39, 111, 0, [195]), (2, 61, 1, 0, 0, 0, []), (25, 62, 100, 0, 0, 0, []), (5, 63, 0, 0, 0, 0, []), (19, 64, 38, 0, 0, 0, []), (0, 67, 0, 0, 0, (-1), []), (34, 68, 0, 0, 0, 0, [])]
noncomputable def i_M_ring : MI := (⟨"TakenInTurnsModel", "ring", "(I)I"⟩, prog_14_method_36_code, 2, Option.some Jvm.ClassFile.FieldType.int, 12, 1, t_M_ring)
set_option maxRecDepth 100000 in
noncomputable def t_M_way : List AI := [(2, 0, 1, 0, 0, 0, []), (0, 1, 0, 0, 0, 0, []), (0, 2, 0, 0, 1, 6, []), (32, 4, 148, 0, 178, 3, [122, 23]), (15, 7, 7, 0, 1, 0, []), (0, 10, 0, 0, 0, (-1), []), (34, 11, 0, 0, 0, 0, []), (2, 12, 0, 2, 0, 0, []), (22, 13, 12, 10, 225, 0, [219]), (0, 16, 0, 0, 1, 15, []), (16, 18, 13, 0, 1, 0, []), (0, 21, 0, 0, 1, (-3), []), (34, 23, 0, 0, 0, 0, []), (2, 24, 0, 2, 0, 0, []), (22, 25, 12, 11, 37, 0, [172]), (2, 28, 0, 2, 0, 0, []), (22, 29, 12, 10, 225, 0, [219]), (2, 32, 1, 0, 0, 0, []), (26, 33, 100, 0, 0, 0, []), (2, 34, 0, 2, 0, 0, []), (28, 35, 0, 0, 0, 0, []), (22, 36, 12, 10, 225, 0, [219]), (0, 39, 0, 0, 0, 1, []), (5, 40, 0, 0, 0, 0, []), (23, 41, 12, 10, 225, 0, [219]), (2, 44, 0, 2, 0, 0, []), (22, 45, 12, 10, 225, 0, [219]), (0, 48, 0, 0, 0, 1, []), (5, 49, 0, 0, 1, 0, []), (34, 50, 0, 0, 0, 0, [])]
noncomputable def i_M_way : MI := (⟨"TakenInTurnsModel", "way", "(I)I"⟩, prog_14_method_37_code, 2, Option.some Jvm.ClassFile.FieldType.int, 12, 1, t_M_way)
set_option maxRecDepth 100000 in
noncomputable def t_M_kindOf : List AI := [(2, 0, 0, 2, 0, 0, []), (2, 1, 1, 0, 0, 0, []), (31, 2, 170, 12, 228, 1, [133, 86]), (15, 5, 9, 0, 0, 0, []), (2, 8, 0, 2, 0, 0, []), (22, 9, 12, 11, 37, 0, [172]), (2, 12, 1, 0, 0, 0, []), (25, 13, 100, 0, 0, 0, []), (19, 14, 10, 0, 0, 0, []), (0, 17, 0, 0, 0, (-1), []), (34, 18, 0, 0, 0, 0, [])]
noncomputable def i_M_kindOf : MI := (⟨"TakenInTurnsModel", "kindOf", "(I)I"⟩, prog_14_method_38_code, 2, Option.some Jvm.ClassFile.FieldType.int, 12, 1, t_M_kindOf)
set_option maxRecDepth 100000 in
noncomputable def t_M_common : List AI := [(2, 0, 0, 1, 0, 0, []), (1, 1, 0, 0, 0, 0, []), (14, 2, 7, 0, 3, 0, []), (15, 3, 7, 0, 3, 0, []), (2, 6, 0, 1, 0, 0, []), (13, 7, 0, 0, 0, 0, []), (19, 8, 8, 0, 0, 0, []), (2, 11, 0, 1, 0, 0, []), (3, 12, 4, 1, 1, 0, []), (2, 14, 2, 1, 0, 0, []), (3, 15, 6, 1, 1, 0, []), (2, 17, 6, 1, 1, 0, []), (1, 19, 0, 0, 0, 0, []), (14, 20, 24, 0, 0, 0, []), (15, 21, 24, 0, 0, 0, []), (2, 24, 4, 1, 1, 0, []), (2, 26, 6, 1, 1, 0, []), (8, 28, 0, 0, 1, 0, []), (3, 29, 8, 1, 1, 0, []), (2, 31, 6, 1, 1, 0, []), (3, 33, 4, 1, 1, 0, []), (2, 35, 8, 1, 1, 0, []), (3, 37, 6, 1, 1, 0, []), (19, 39, 11, 0, 0, 0, []), (2, 42, 4, 1, 1, 0, []), (1, 44, 0, 0, 0, 0, []), (14, 45, 30, 0, 1, 0, []), (15, 46, 30, 0, 1, 0, []), (1, 49, 0, 0, 0, 1, []), (19, 50, 31, 0, 0, 0, []), (2, 53, 4, 1, 1, 0, []), (34, 55, 0, 0, 0, 0, [])]
noncomputable def i_M_common : MI := (⟨"TakenInTurnsModel", "common", "(JJ)J"⟩, prog_14_method_39_code, 10, Option.some Jvm.ClassFile.FieldType.long, 12, 2, t_M_common)
set_option maxRecDepth 100000 in
noncomputable def t_M_clears : List AI := [(2, 0, 0, 2, 0, 0, []), (0, 1, 0, 0, 0, 0, []), (23, 2, 12, 43, 260, 0, [221]), (0, 5, 0, 0, 0, 0, []), (3, 6, 1, 0, 0, 0, []), (2, 7, 1, 0, 0, 0, []), (0, 8, 0, 0, 1, 56, []), (16, 10, 20, 0, 3, 0, []), (2, 13, 0, 2, 0, 0, []), (22, 14, 12, 41, 114, 0, [196]), (2, 17, 1, 0, 0, 0, []), (1, 18, 0, 0, 0, 0, []), (26, 19, 101, 0, 0, 0, []), (2, 20, 0, 2, 0, 0, []), (22, 21, 12, 42, 117, 0, [197]), (2, 24, 1, 0, 0, 0, []), (1, 25, 0, 0, 0, 1, []), (26, 26, 101, 0, 0, 0, []), (4, 27, 1, 0, 0, 1, []), (19, 30, 5, 0, 0, 0, []), (34, 33, 0, 0, 0, 0, [])]
noncomputable def i_M_clears : MI := (⟨"TakenInTurnsModel", "clears", "()V"⟩, prog_14_method_40_code, 2, none, 12, 0, t_M_clears)
set_option maxRecDepth 100000 in
noncomputable def t_M_puts : List AI := [(2, 0, 2, 1, 0, 0, []), (2, 1, 4, 1, 1, 0, []), (32, 3, 184, 0, 264, 2, [142, 24]), (3, 6, 6, 1, 1, 0, []), (2, 8, 0, 2, 0, 0, []), (22, 9, 12, 41, 114, 0, [196]), (2, 12, 1, 0, 0, 0, []), (2, 13, 2, 1, 0, 0, []), (2, 14, 6, 1, 1, 0, []), (8, 16, 0, 0, 0, 0, []), (26, 17, 101, 0, 0, 0, []), (2, 18, 0, 2, 0, 0, []), (22, 19, 12, 42, 117, 0, [197]), (2, 22, 1, 0, 0, 0, []), (2, 23, 4, 1, 1, 0, []), (2, 25, 6, 1, 1, 0, []), (8, 27, 0, 0, 0, 0, []), (26, 28, 101, 0, 0, 0, []), (34, 29, 0, 0, 0, 0, [])]
noncomputable def i_M_puts : MI := (⟨"TakenInTurnsModel", "puts", "(IJJ)V"⟩, prog_14_method_41_code, 8, none, 12, 3, t_M_puts)
set_option maxRecDepth 100000 in
noncomputable def t_M_nextOrder : List AI := [(2, 0, 1, 0, 0, 0, []), (0, 1, 0, 0, 0, 2, []), (5, 2, 0, 0, 1, 0, []), (3, 3, 2, 0, 0, 0, []), (2, 4, 2, 0, 0, 0, []), (15, 5, 23, 0, 2, 0, []), (2, 8, 0, 2, 0, 0, []), (22, 9, 12, 32, 90, 0, [188]), (2, 12, 2, 0, 0, 0, []), (15, 13, 12, 0, 3, 0, []), (0, 16, 0, 0, 0, 0, []), (19, 17, 13, 0, 0, 0, []), (2, 20, 2, 0, 0, 0, []), (25, 21, 100, 0, 0, 0, []), (2, 22, 0, 2, 0, 0, []), (22, 23, 12, 32, 90, 0, [188]), (2, 26, 2, 0, 0, 0, []), (0, 27, 0, 0, 0, 1, []), (5, 28, 0, 0, 0, 0, []), (25, 29, 100, 0, 0, 0, []), (16, 30, 23, 0, 5, 0, []), (4, 33, 2, 0, 0, (-1), []), (19, 36, 4, 0, 0, 0, []), (2, 39, 2, 0, 0, 0, []), (15, 40, 27, 0, 3, 0, []), (0, 43, 0, 0, 0, 0, []), (34, 44, 0, 0, 0, 0, []), (2, 45, 1, 0, 0, 0, []), (0, 46, 0, 0, 0, 1, []), (5, 47, 0, 0, 1, 0, []), (3, 48, 3, 0, 0, 0, []), (2, 49, 0, 2, 0, 0, []), (22, 50, 12, 32, 90, 0, [188]), (2, 53, 3, 0, 0, 0, []), (25, 54, 100, 0, 0, 0, []), (2, 55, 0, 2, 0, 0, []), (22, 56, 12, 32, 90, 0, [188]), (2, 59, 2, 0, 0, 0, []), (25, 60, 100, 0, 0, 0, []), (16, 61, 42, 0, 3, 0, []), (4, 64, 3, 0, 0, (-1), []), (19, 67, 31, 0, 0, 0, []), (2, 70, 0, 2, 0, 0, []), (22, 71, 12, 32, 90, 0, [188]), (2, 74, 2, 0, 0, 0, []), (25, 75, 100, 0, 0, 0, []), (3, 76, 4, 0, 1, 0, []), (2, 78, 0, 2, 0, 0, []), (22, 79, 12, 32, 90, 0, [188]), (2, 82, 2, 0, 0, 0, []), (2, 83, 0, 2, 0, 0, []), (22, 84, 12, 32, 90, 0, [188]), (2, 87, 3, 0, 0, 0, []), (25, 88, 100, 0, 0, 0, []), (26, 89, 100, 0, 0, 0, []), (2, 90, 0, 2, 0, 0, []), (22, 91, 12, 32, 90, 0, [188]), (2, 94, 3, 0, 0, 0, []), (2, 95, 4, 0, 1, 0, []), (26, 97, 100, 0, 0, 0, []), (2, 98, 1, 0, 0, 0, []), (0, 99, 0, 0, 0, 1, []), (5, 100, 0, 0, 1, 0, []), (3, 101, 5, 0, 1, 0, []), (2, 103, 2, 0, 0, 0, []), (0, 104, 0, 0, 0, 1, []), (5, 105, 0, 0, 0, 0, []), (3, 106, 6, 0, 1, 0, []), (2, 108, 6, 0, 1, 0, []), (2, 110, 5, 0, 1, 0, []), (16, 112, 92, 0, 3, 0, []), (2, 115, 0, 2, 0, 0, []), (22, 116, 12, 32, 90, 0, [188]), (2, 119, 6, 0, 1, 0, []), (25, 121, 100, 0, 0, 0, []), (3, 122, 7, 0, 1, 0, []), (2, 124, 0, 2, 0, 0, []), (22, 125, 12, 32, 90, 0, [188]), (2, 128, 6, 0, 1, 0, []), (2, 130, 0, 2, 0, 0, []), (22, 131, 12, 32, 90, 0, [188]), (2, 134, 5, 0, 1, 0, []), (25, 136, 100, 0, 0, 0, []), (26, 137, 100, 0, 0, 0, []), (2, 138, 0, 2, 0, 0, []), (22, 139, 12, 32, 90, 0, [188]), (2, 142, 5, 0, 1, 0, []), (2, 144, 7, 0, 1, 0, []), (26, 146, 100, 0, 0, 0, []), (4, 147, 5, 0, 0, (-1), []), (4, 150, 6, 0, 0, 1, []), (19, 153, 68, 0, 0, 0, []), (0, 156, 0, 0, 0, 1, []), (34, 157, 0, 0, 0, 0, [])]
noncomputable def i_M_nextOrder : MI := (⟨"TakenInTurnsModel", "nextOrder", "(I)Z"⟩, prog_14_method_42_code, 8, Option.some Jvm.ClassFile.FieldType.boolean, 12, 1, t_M_nextOrder)
set_option maxRecDepth 100000 in
noncomputable def t_M_firstOrder : List AI := [(0, 0, 0, 0, 0, 0, []), (3, 1, 2, 0, 0, 0, []), (2, 2, 2, 0, 0, 0, []), (2, 3, 1, 0, 0, 0, []), (16, 4, 12, 0, 3, 0, []), (2, 7, 0, 2, 0, 0, []), (22, 8, 12, 32, 90, 0, [188]), (2, 11, 2, 0, 0, 0, []), (2, 12, 2, 0, 0, 0, []), (26, 13, 100, 0, 0, 0, []), (4, 14, 2, 0, 0, 1, []), (19, 17, 2, 0, 0, 0, []), (34, 20, 0, 0, 0, 0, [])]
noncomputable def i_M_firstOrder : MI := (⟨"TakenInTurnsModel", "firstOrder", "(I)V"⟩, prog_14_method_43_code, 3, none, 12, 1, t_M_firstOrder)
set_option maxRecDepth 100000 in
noncomputable def t_M_means : List AI := [(2, 0, 0, 2, 0, 0, []), (22, 1, 12, 1, 7, 0, [163]), (2, 4, 1, 0, 0, 0, []), (25, 5, 100, 0, 0, 0, []), (3, 6, 3, 0, 0, 0, []), (2, 7, 0, 2, 0, 0, []), (2, 8, 3, 0, 0, 0, []), (31, 9, 188, 12, 268, 1, [143, 95]), (0, 12, 0, 0, 0, 0, []), (3, 13, 4, 0, 1, 0, []), (2, 15, 4, 0, 1, 0, []), (0, 17, 0, 0, 1, 56, []), (16, 19, 20, 0, 3, 0, []), (2, 22, 0, 2, 0, 0, []), (22, 23, 12, 45, 120, 0, [198]), (2, 26, 4, 0, 1, 0, []), (0, 28, 0, 0, 0, 0, []), (26, 29, 100, 0, 0, 0, []), (4, 30, 4, 0, 0, 1, []), (19, 33, 10, 0, 0, 0, []), (0, 36, 0, 0, 0, 0, []), (3, 37, 4, 0, 1, 0, []), (0, 39, 0, 0, 0, 1, []), (3, 40, 5, 0, 1, 0, []), (2, 42, 5, 0, 1, 0, []), (15, 44, 56, 0, 0, 0, []), (2, 47, 0, 2, 0, 0, []), (2, 48, 1, 0, 0, 0, []), (2, 49, 2, 0, 0, 0, []), (31, 50, 169, 12, 234, 2, [135, 88]), (4, 53, 4, 0, 0, 1, []), (0, 56, 0, 0, 0, 0, []), (3, 57, 6, 0, 1, 0, []), (2, 59, 6, 0, 1, 0, []), (0, 61, 0, 0, 1, 8, []), (2, 63, 3, 0, 0, 0, []), (5, 64, 0, 0, 2, 0, []), (16, 65, 51, 0, 3, 0, []), (2, 68, 0, 2, 0, 0, []), (22, 69, 12, 45, 120, 0, [198]), (2, 72, 6, 0, 1, 0, []), (29, 74, 0, 0, 0, 0, []), (25, 75, 100, 0, 0, 0, []), (2, 76, 0, 2, 0, 0, []), (22, 77, 12, 33, 93, 0, [189]), (2, 80, 6, 0, 1, 0, []), (25, 82, 100, 0, 0, 0, []), (5, 83, 0, 0, 0, 0, []), (26, 84, 100, 0, 0, 0, []), (4, 85, 6, 0, 0, 1, []), (19, 88, 33, 0, 0, 0, []), (2, 91, 0, 2, 0, 0, []), (2, 92, 3, 0, 0, 0, []), (31, 93, 187, 12, 272, 1, [144, 96]), (3, 96, 5, 0, 1, 0, []), (19, 98, 24, 0, 0, 0, []), (0, 101, 0, 0, 0, 0, []), (3, 102, 6, 0, 1, 0, []), (2, 104, 6, 0, 1, 0, []), (0, 106, 0, 0, 1, 8, []), (2, 108, 3, 0, 0, 0, []), (5, 109, 0, 0, 2, 0, []), (16, 110, 75, 0, 3, 0, []), (2, 113, 0, 2, 0, 0, []), (2, 114, 6, 0, 1, 0, []), (2, 116, 0, 2, 0, 0, []), (22, 117, 12, 45, 120, 0, [198]), (2, 120, 6, 0, 1, 0, []), (25, 122, 100, 0, 0, 0, []), (11, 123, 0, 0, 0, 0, []), (2, 124, 4, 0, 1, 0, []), (11, 126, 0, 0, 0, 0, []), (31, 127, 186, 12, 275, 3, [145, 97]), (4, 130, 6, 0, 0, 1, []), (19, 133, 58, 0, 0, 0, []), (34, 136, 0, 0, 0, 0, [])]
noncomputable def i_M_means : MI := (⟨"TakenInTurnsModel", "means", "(IZ)V"⟩, prog_14_method_44_code, 7, none, 12, 2, t_M_means)
set_option maxRecDepth 100000 in
noncomputable def t_M_adds : List AI := [(2, 0, 1, 1, 0, 0, []), (2, 1, 7, 1, 1, 0, []), (7, 3, 0, 0, 2, 0, []), (2, 4, 5, 1, 1, 0, []), (2, 6, 3, 1, 0, 0, []), (7, 7, 0, 0, 2, 0, []), (7, 8, 0, 0, 0, 0, []), (3, 9, 9, 1, 1, 0, []), (2, 11, 3, 1, 0, 0, []), (2, 12, 7, 1, 1, 0, []), (7, 14, 0, 0, 2, 0, []), (3, 15, 11, 1, 1, 0, []), (2, 17, 9, 1, 1, 0, []), (2, 19, 11, 1, 1, 0, []), (32, 21, 184, 0, 264, 2, [142, 24]), (3, 24, 13, 1, 1, 0, []), (2, 26, 0, 2, 0, 0, []), (2, 27, 9, 1, 1, 0, []), (2, 29, 13, 1, 1, 0, []), (8, 31, 0, 0, 0, 0, []), (23, 32, 12, 48, 279, 0, [222]), (2, 35, 0, 2, 0, 0, []), (2, 36, 11, 1, 1, 0, []), (2, 38, 13, 1, 1, 0, []), (8, 40, 0, 0, 0, 0, []), (23, 41, 12, 49, 282, 0, [223]), (2, 44, 0, 2, 0, 0, []), (2, 45, 0, 2, 0, 0, []), (22, 46, 12, 43, 260, 0, [221]), (15, 49, 45, 0, 1, 0, []), (2, 52, 0, 2, 0, 0, []), (22, 53, 12, 48, 279, 0, [222]), (1, 56, 285, 0, 1, 1000000000000, [7]), (14, 59, 45, 0, 4, 0, []), (15, 60, 45, 0, 4, 0, []), (2, 63, 0, 2, 0, 0, []), (22, 64, 12, 48, 279, 0, [222]), (1, 67, 287, 0, 1, (-1000000000000), [8]), (14, 70, 45, 0, 2, 0, []), (15, 71, 45, 0, 2, 0, []), (2, 74, 0, 2, 0, 0, []), (22, 75, 12, 49, 282, 0, [223]), (1, 78, 285, 0, 1, 1000000000000, [7]), (14, 81, 47, 0, 5, 0, []), (15, 82, 47, 0, 5, 0, []), (0, 85, 0, 0, 0, 1, []), (19, 86, 48, 0, 0, 0, []), (0, 89, 0, 0, 0, 0, []), (23, 90, 12, 43, 260, 0, [221]), (34, 93, 0, 0, 0, 0, [])]
noncomputable def i_M_adds : MI := (⟨"TakenInTurnsModel", "adds", "(JJJJ)V"⟩, prog_14_method_45_code, 15, none, 12, 4, t_M_adds)
set_option maxRecDepth 100000 in
noncomputable def t_M_firstUneaten : List AI := [(0, 0, 0, 0, 0, 0, []), (3, 1, 3, 0, 0, 0, []), (2, 2, 3, 0, 0, 0, []), (2, 3, 0, 2, 0, 0, []), (22, 4, 12, 6, 25, 0, [168]), (0, 7, 0, 0, 1, 7, []), (2, 9, 1, 0, 0, 0, []), (5, 10, 0, 0, 2, 0, []), (2, 11, 2, 0, 0, 0, []), (5, 12, 0, 0, 0, 0, []), (25, 13, 100, 0, 0, 0, []), (16, 14, 36, 0, 3, 0, []), (2, 17, 0, 2, 0, 0, []), (22, 18, 12, 7, 28, 0, [169]), (0, 21, 0, 0, 1, 56, []), (2, 23, 1, 0, 0, 0, []), (5, 24, 0, 0, 2, 0, []), (0, 25, 0, 0, 1, 8, []), (2, 27, 2, 0, 0, 0, []), (5, 28, 0, 0, 2, 0, []), (5, 29, 0, 0, 0, 0, []), (2, 30, 3, 0, 0, 0, []), (5, 31, 0, 0, 0, 0, []), (25, 32, 100, 0, 0, 0, []), (3, 33, 4, 0, 1, 0, []), (2, 35, 0, 2, 0, 0, []), (22, 36, 12, 46, 123, 0, [199]), (2, 39, 4, 0, 1, 0, []), (25, 41, 101, 0, 0, 0, []), (1, 42, 0, 0, 0, 0, []), (14, 43, 34, 0, 5, 0, []), (15, 44, 34, 0, 5, 0, []), (2, 47, 4, 0, 1, 0, []), (34, 49, 0, 0, 0, 0, []), (4, 50, 3, 0, 0, 1, []), (19, 53, 2, 0, 0, 0, []), (0, 56, 0, 0, 1, (-2), []), (34, 58, 0, 0, 0, 0, [])]
noncomputable def i_M_firstUneaten : MI := (⟨"TakenInTurnsModel", "firstUneaten", "(II)I"⟩, prog_14_method_46_code, 5, Option.some Jvm.ClassFile.FieldType.int, 12, 2, t_M_firstUneaten)
set_option maxRecDepth 100000 in
noncomputable def t_M_eatNow : List AI := [(0, 0, 0, 0, 0, 0, []), (3, 1, 2, 0, 0, 0, []), (0, 2, 0, 0, 0, 0, []), (3, 3, 3, 0, 0, 0, []), (2, 4, 3, 0, 0, 0, []), (0, 5, 0, 0, 1, 8, []), (16, 7, 14, 0, 3, 0, []), (2, 10, 0, 2, 0, 0, []), (22, 11, 12, 51, 132, 0, [202]), (2, 14, 3, 0, 0, 0, []), (0, 15, 0, 0, 0, 0, []), (26, 16, 100, 0, 0, 0, []), (4, 17, 3, 0, 0, 1, []), (19, 20, 4, 0, 0, 0, []), (0, 23, 0, 0, 0, 0, []), (3, 24, 3, 0, 0, 0, []), (2, 25, 3, 0, 0, 0, []), (2, 26, 0, 2, 0, 0, []), (22, 27, 12, 1, 7, 0, [163]), (2, 30, 1, 0, 0, 0, []), (25, 31, 100, 0, 0, 0, []), (16, 32, 50, 0, 3, 0, []), (2, 35, 0, 2, 0, 0, []), (22, 36, 12, 50, 129, 0, [201]), (2, 39, 3, 0, 0, 0, []), (2, 40, 0, 2, 0, 0, []), (2, 41, 1, 0, 0, 0, []), (2, 42, 3, 0, 0, 0, []), (31, 43, 191, 12, 289, 2, [146, 98]), (26, 46, 100, 0, 0, 0, []), (2, 47, 0, 2, 0, 0, []), (22, 48, 12, 50, 129, 0, [201]), (2, 51, 3, 0, 0, 0, []), (25, 52, 100, 0, 0, 0, []), (0, 53, 0, 0, 1, (-2), []), (16, 55, 48, 0, 0, 0, []), (2, 58, 0, 2, 0, 0, []), (22, 59, 12, 51, 132, 0, [202]), (2, 62, 0, 2, 0, 0, []), (22, 63, 12, 50, 129, 0, [201]), (2, 66, 3, 0, 0, 0, []), (25, 67, 100, 0, 0, 0, []), (29, 68, 0, 0, 0, 0, []), (25, 69, 100, 0, 0, 0, []), (0, 70, 0, 0, 0, 1, []), (5, 71, 0, 0, 0, 0, []), (26, 72, 100, 0, 0, 0, []), (4, 73, 2, 0, 0, 1, []), (4, 76, 3, 0, 0, 1, []), (19, 79, 16, 0, 0, 0, []), (2, 82, 2, 0, 0, 0, []), (34, 83, 0, 0, 0, 0, [])]
noncomputable def i_M_eatNow : MI := (⟨"TakenInTurnsModel", "eatNow", "(I)I"⟩, prog_14_method_47_code, 4, Option.some Jvm.ClassFile.FieldType.int, 12, 1, t_M_eatNow)
set_option maxRecDepth 100000 in
noncomputable def t_M_eating : List AI := [(2, 0, 0, 2, 0, 0, []), (0, 1, 0, 0, 0, 0, []), (23, 2, 12, 44, 292, 0, [224]), (0, 5, 0, 0, 0, 0, []), (3, 6, 2, 0, 0, 0, []), (2, 7, 2, 0, 0, 0, []), (0, 8, 0, 0, 1, 8, []), (16, 10, 36, 0, 3, 0, []), (2, 13, 0, 2, 0, 0, []), (22, 14, 12, 46, 123, 0, [199]), (2, 17, 2, 0, 0, 0, []), (2, 18, 2, 0, 0, 0, []), (2, 19, 0, 2, 0, 0, []), (22, 20, 12, 2, 13, 0, [164]), (2, 23, 1, 0, 0, 0, []), (25, 24, 100, 0, 0, 0, []), (16, 25, 27, 0, 3, 0, []), (2, 28, 0, 2, 0, 0, []), (22, 29, 12, 4, 19, 0, [166]), (0, 32, 0, 0, 1, 8, []), (2, 34, 1, 0, 0, 0, []), (5, 35, 0, 0, 2, 0, []), (2, 36, 2, 0, 0, 0, []), (5, 37, 0, 0, 0, 0, []), (25, 38, 100, 0, 0, 0, []), (11, 39, 0, 0, 0, 0, []), (19, 40, 28, 0, 0, 0, []), (1, 43, 0, 0, 0, 0, []), (26, 44, 101, 0, 0, 0, []), (2, 45, 0, 2, 0, 0, []), (22, 46, 12, 47, 126, 0, [200]), (2, 49, 2, 0, 0, 0, []), (1, 50, 0, 0, 0, 1, []), (26, 51, 101, 0, 0, 0, []), (4, 52, 2, 0, 0, 1, []), (19, 55, 5, 0, 0, 0, []), (2, 58, 0, 2, 0, 0, []), (22, 59, 12, 3, 16, 0, [165]), (2, 62, 1, 0, 0, 0, []), (25, 63, 100, 0, 0, 0, []), (11, 64, 0, 0, 0, 0, []), (3, 65, 2, 1, 0, 0, []), (1, 66, 0, 0, 0, 1, []), (3, 67, 4, 1, 1, 0, []), (2, 69, 2, 1, 0, 0, []), (1, 70, 0, 0, 0, 0, []), (14, 71, 245, 0, 5, 0, []), (15, 72, 245, 0, 5, 0, []), (2, 75, 0, 2, 0, 0, []), (22, 76, 12, 43, 260, 0, [221]), (15, 79, 245, 0, 1, 0, []), (2, 82, 0, 2, 0, 0, []), (2, 83, 1, 0, 0, 0, []), (31, 84, 192, 12, 295, 1, [147, 99]), (15, 87, 245, 0, 5, 0, []), (2, 90, 2, 1, 0, 0, []), (3, 91, 6, 1, 1, 0, []), (2, 93, 4, 1, 1, 0, []), (3, 95, 8, 1, 1, 0, []), (0, 97, 0, 0, 0, 0, []), (3, 98, 10, 0, 1, 0, []), (2, 100, 10, 0, 1, 0, []), (2, 102, 0, 2, 0, 0, []), (22, 103, 12, 2, 13, 0, [164]), (2, 106, 1, 0, 0, 0, []), (25, 107, 100, 0, 0, 0, []), (16, 108, 114, 0, 3, 0, []), (2, 111, 0, 2, 0, 0, []), (22, 112, 12, 47, 126, 0, [200]), (2, 115, 10, 0, 1, 0, []), (25, 117, 101, 0, 0, 0, []), (2, 118, 0, 2, 0, 0, []), (22, 119, 12, 51, 132, 0, [202]), (2, 122, 10, 0, 1, 0, []), (25, 124, 100, 0, 0, 0, []), (11, 125, 0, 0, 0, 0, []), (7, 126, 0, 0, 2, 0, []), (3, 127, 11, 1, 1, 0, []), (2, 129, 0, 2, 0, 0, []), (22, 130, 12, 51, 132, 0, [202]), (2, 133, 10, 0, 1, 0, []), (25, 135, 100, 0, 0, 0, []), (15, 136, 112, 0, 5, 0, []), (2, 139, 0, 2, 0, 0, []), (22, 140, 12, 46, 123, 0, [199]), (2, 143, 10, 0, 1, 0, []), (25, 145, 101, 0, 0, 0, []), (2, 146, 8, 1, 1, 0, []), (7, 148, 0, 0, 2, 0, []), (2, 149, 6, 1, 1, 0, []), (2, 151, 11, 1, 1, 0, []), (7, 153, 0, 0, 2, 0, []), (14, 154, 112, 0, 3, 0, []), (15, 155, 112, 0, 3, 0, []), (2, 158, 0, 2, 0, 0, []), (22, 159, 12, 46, 123, 0, [199]), (2, 162, 10, 0, 1, 0, []), (25, 164, 101, 0, 0, 0, []), (2, 165, 11, 1, 1, 0, []), (32, 167, 184, 0, 264, 2, [142, 24]), (3, 170, 13, 1, 1, 0, []), (2, 172, 0, 2, 0, 0, []), (22, 173, 12, 46, 123, 0, [199]), (2, 176, 10, 0, 1, 0, []), (25, 178, 101, 0, 0, 0, []), (2, 179, 13, 1, 1, 0, []), (8, 181, 0, 0, 0, 0, []), (3, 182, 6, 1, 1, 0, []), (2, 184, 11, 1, 1, 0, []), (2, 186, 13, 1, 1, 0, []), (8, 188, 0, 0, 0, 0, []), (3, 189, 8, 1, 1, 0, []), (4, 191, 10, 0, 0, 1, []), (19, 194, 61, 0, 0, 0, []), (2, 197, 0, 2, 0, 0, []), (2, 198, 0, 2, 0, 0, []), (22, 199, 12, 43, 260, 0, [221]), (15, 202, 126, 0, 1, 0, []), (2, 205, 6, 1, 1, 0, []), (1, 207, 285, 0, 1, 1000000000000, [7]), (14, 210, 126, 0, 4, 0, []), (15, 211, 126, 0, 4, 0, []), (2, 214, 8, 1, 1, 0, []), (1, 216, 285, 0, 1, 1000000000000, [7]), (14, 219, 128, 0, 5, 0, []), (15, 220, 128, 0, 5, 0, []), (0, 223, 0, 0, 0, 1, []), (19, 224, 129, 0, 0, 0, []), (0, 227, 0, 0, 0, 0, []), (23, 228, 12, 43, 260, 0, [221]), (0, 231, 0, 0, 0, 0, []), (3, 232, 10, 0, 1, 0, []), (2, 234, 10, 0, 1, 0, []), (2, 236, 0, 2, 0, 0, []), (22, 237, 12, 2, 13, 0, [164]), (2, 240, 1, 0, 0, 0, []), (25, 241, 100, 0, 0, 0, []), (16, 242, 176, 0, 3, 0, []), (2, 245, 0, 2, 0, 0, []), (22, 246, 12, 51, 132, 0, [202]), (2, 249, 10, 0, 1, 0, []), (25, 251, 100, 0, 0, 0, []), (15, 252, 174, 0, 5, 0, []), (2, 255, 0, 2, 0, 0, []), (2, 256, 0, 2, 0, 0, []), (22, 257, 12, 46, 123, 0, [199]), (2, 260, 10, 0, 1, 0, []), (25, 262, 101, 0, 0, 0, []), (2, 263, 0, 2, 0, 0, []), (22, 264, 12, 47, 126, 0, [200]), (2, 267, 10, 0, 1, 0, []), (25, 269, 101, 0, 0, 0, []), (2, 270, 6, 1, 1, 0, []), (13, 272, 0, 0, 0, 0, []), (2, 273, 0, 2, 0, 0, []), (22, 274, 12, 51, 132, 0, [202]), (2, 277, 10, 0, 1, 0, []), (25, 279, 100, 0, 0, 0, []), (11, 280, 0, 0, 0, 0, []), (7, 281, 0, 0, 2, 0, []), (2, 282, 8, 1, 1, 0, []), (31, 284, 190, 12, 299, 4, [148, 100]), (2, 287, 0, 2, 0, 0, []), (22, 288, 12, 46, 123, 0, [199]), (2, 291, 10, 0, 1, 0, []), (2, 293, 0, 2, 0, 0, []), (22, 294, 12, 48, 279, 0, [222]), (26, 297, 101, 0, 0, 0, []), (2, 298, 0, 2, 0, 0, []), (22, 299, 12, 47, 126, 0, [200]), (2, 302, 10, 0, 1, 0, []), (2, 304, 0, 2, 0, 0, []), (22, 305, 12, 49, 282, 0, [223]), (26, 308, 101, 0, 0, 0, []), (4, 309, 10, 0, 0, 1, []), (19, 312, 132, 0, 0, 0, []), (0, 315, 0, 0, 0, 0, []), (3, 316, 10, 0, 1, 0, []), (2, 318, 10, 0, 1, 0, []), (2, 320, 0, 2, 0, 0, []), (22, 321, 12, 1, 7, 0, [163]), (2, 324, 1, 0, 0, 0, []), (25, 325, 100, 0, 0, 0, []), (16, 326, 225, 0, 3, 0, []), (2, 329, 0, 2, 0, 0, []), (22, 330, 12, 50, 129, 0, [201]), (2, 333, 10, 0, 1, 0, []), (25, 335, 100, 0, 0, 0, []), (0, 336, 0, 0, 1, (-2), []), (16, 338, 223, 0, 0, 0, []), (0, 341, 0, 0, 1, 8, []), (2, 343, 10, 0, 1, 0, []), (5, 345, 0, 0, 2, 0, []), (2, 346, 0, 2, 0, 0, []), (22, 347, 12, 50, 129, 0, [201]), (2, 350, 10, 0, 1, 0, []), (25, 352, 100, 0, 0, 0, []), (5, 353, 0, 0, 0, 0, []), (3, 354, 11, 0, 1, 0, []), (2, 356, 0, 2, 0, 0, []), (2, 357, 0, 2, 0, 0, []), (22, 358, 12, 41, 114, 0, [196]), (2, 361, 11, 0, 1, 0, []), (25, 363, 101, 0, 0, 0, []), (2, 364, 0, 2, 0, 0, []), (22, 365, 12, 42, 117, 0, [197]), (2, 368, 11, 0, 1, 0, []), (25, 370, 101, 0, 0, 0, []), (2, 371, 6, 1, 1, 0, []), (2, 373, 8, 1, 1, 0, []), (31, 375, 190, 12, 299, 4, [148, 100]), (2, 378, 0, 2, 0, 0, []), (22, 379, 12, 41, 114, 0, [196]), (2, 382, 11, 0, 1, 0, []), (2, 384, 0, 2, 0, 0, []), (22, 385, 12, 48, 279, 0, [222]), (26, 388, 101, 0, 0, 0, []), (2, 389, 0, 2, 0, 0, []), (22, 390, 12, 42, 117, 0, [197]), (2, 393, 11, 0, 1, 0, []), (2, 395, 0, 2, 0, 0, []), (22, 396, 12, 49, 282, 0, [223]), (26, 399, 101, 0, 0, 0, []), (4, 400, 10, 0, 0, 1, []), (19, 403, 178, 0, 0, 0, []), (2, 406, 0, 2, 0, 0, []), (2, 407, 2, 1, 0, 0, []), (2, 408, 4, 1, 1, 0, []), (2, 410, 6, 1, 1, 0, []), (13, 412, 0, 0, 0, 0, []), (2, 413, 8, 1, 1, 0, []), (31, 415, 190, 12, 299, 4, [148, 100]), (2, 418, 0, 2, 0, 0, []), (22, 419, 12, 48, 279, 0, [222]), (3, 422, 2, 1, 0, 0, []), (2, 423, 0, 2, 0, 0, []), (22, 424, 12, 49, 282, 0, [223]), (3, 427, 4, 1, 1, 0, []), (2, 429, 0, 2, 0, 0, []), (28, 430, 0, 0, 0, 0, []), (22, 431, 12, 44, 292, 0, [224]), (0, 434, 0, 0, 0, 1, []), (5, 435, 0, 0, 0, 0, []), (23, 436, 12, 44, 292, 0, [224]), (19, 439, 44, 0, 0, 0, []), (34, 442, 0, 0, 0, 0, [])]
noncomputable def i_M_eating : MI := (⟨"TakenInTurnsModel", "eating", "(I)V"⟩, prog_14_method_48_code, 15, none, 12, 1, t_M_eating)
set_option maxRecDepth 100000 in
noncomputable def t_M_pointOf : List AI := [(0, 0, 0, 0, 0, 0, []), (3, 1, 3, 0, 0, 0, []), (2, 2, 3, 0, 0, 0, []), (2, 3, 0, 2, 0, 0, []), (22, 4, 12, 6, 25, 0, [168]), (0, 7, 0, 0, 1, 7, []), (2, 9, 1, 0, 0, 0, []), (5, 10, 0, 0, 2, 0, []), (2, 11, 2, 0, 0, 0, []), (5, 12, 0, 0, 0, 0, []), (25, 13, 100, 0, 0, 0, []), (16, 14, 63, 0, 3, 0, []), (2, 17, 0, 2, 0, 0, []), (22, 18, 12, 52, 135, 0, [203]), (2, 21, 2, 0, 0, 0, []), (25, 22, 100, 0, 0, 0, []), (15, 23, 63, 0, 2, 0, []), (2, 26, 0, 2, 0, 0, []), (22, 27, 12, 7, 28, 0, [169]), (0, 30, 0, 0, 1, 56, []), (2, 32, 1, 0, 0, 0, []), (5, 33, 0, 0, 2, 0, []), (0, 34, 0, 0, 1, 8, []), (2, 36, 2, 0, 0, 0, []), (5, 37, 0, 0, 2, 0, []), (5, 38, 0, 0, 0, 0, []), (2, 39, 3, 0, 0, 0, []), (5, 40, 0, 0, 0, 0, []), (25, 41, 100, 0, 0, 0, []), (3, 42, 4, 0, 1, 0, []), (2, 44, 0, 2, 0, 0, []), (22, 45, 12, 52, 135, 0, [203]), (2, 48, 2, 0, 0, 0, []), (25, 49, 100, 0, 0, 0, []), (2, 50, 4, 0, 1, 0, []), (16, 52, 38, 0, 1, 0, []), (2, 55, 2, 0, 0, 0, []), (34, 56, 0, 0, 0, 0, []), (0, 57, 0, 0, 0, 0, []), (3, 58, 5, 0, 1, 0, []), (2, 60, 5, 0, 1, 0, []), (2, 62, 0, 2, 0, 0, []), (22, 63, 12, 1, 7, 0, [163]), (2, 66, 1, 0, 0, 0, []), (25, 67, 100, 0, 0, 0, []), (16, 68, 61, 0, 3, 0, []), (2, 71, 0, 2, 0, 0, []), (22, 72, 12, 54, 141, 0, [205]), (2, 75, 5, 0, 1, 0, []), (25, 77, 102, 0, 0, 0, []), (15, 78, 59, 0, 1, 0, []), (2, 81, 0, 2, 0, 0, []), (22, 82, 12, 52, 135, 0, [203]), (2, 85, 5, 0, 1, 0, []), (25, 87, 100, 0, 0, 0, []), (2, 88, 4, 0, 1, 0, []), (16, 90, 59, 0, 1, 0, []), (2, 93, 5, 0, 1, 0, []), (34, 95, 0, 0, 0, 0, []), (4, 96, 5, 0, 0, 1, []), (19, 99, 40, 0, 0, 0, []), (4, 102, 3, 0, 0, 1, []), (19, 105, 2, 0, 0, 0, []), (0, 108, 0, 0, 1, (-2), []), (34, 110, 0, 0, 0, 0, [])]
noncomputable def i_M_pointOf : MI := (⟨"TakenInTurnsModel", "pointOf", "(II)I"⟩, prog_14_method_49_code, 6, Option.some Jvm.ClassFile.FieldType.int, 12, 2, t_M_pointOf)
set_option maxRecDepth 100000 in
noncomputable def t_M_endsSome : List AI := [(0, 0, 0, 0, 0, 0, []), (3, 1, 2, 0, 0, 0, []), (0, 2, 0, 0, 0, 0, []), (3, 3, 3, 0, 0, 0, []), (2, 4, 3, 0, 0, 0, []), (2, 5, 0, 2, 0, 0, []), (22, 6, 12, 1, 7, 0, [163]), (2, 9, 1, 0, 0, 0, []), (25, 10, 100, 0, 0, 0, []), (16, 11, 27, 0, 3, 0, []), (2, 14, 0, 2, 0, 0, []), (22, 15, 12, 55, 145, 0, [206]), (2, 18, 3, 0, 0, 0, []), (2, 19, 0, 2, 0, 0, []), (22, 20, 12, 54, 141, 0, [205]), (2, 23, 3, 0, 0, 0, []), (25, 24, 102, 0, 0, 0, []), (15, 25, 20, 0, 0, 0, []), (0, 28, 0, 0, 1, (-2), []), (19, 30, 24, 0, 0, 0, []), (2, 33, 0, 2, 0, 0, []), (2, 34, 1, 0, 0, 0, []), (2, 35, 3, 0, 0, 0, []), (31, 36, 194, 12, 303, 2, [149, 101]), (26, 39, 100, 0, 0, 0, []), (4, 40, 3, 0, 0, 1, []), (19, 43, 4, 0, 0, 0, []), (0, 46, 0, 0, 0, 0, []), (3, 47, 3, 0, 0, 0, []), (2, 48, 3, 0, 0, 0, []), (2, 49, 0, 2, 0, 0, []), (22, 50, 12, 1, 7, 0, [163]), (2, 53, 1, 0, 0, 0, []), (25, 54, 100, 0, 0, 0, []), (16, 55, 63, 0, 3, 0, []), (2, 58, 0, 2, 0, 0, []), (22, 59, 12, 54, 141, 0, [205]), (2, 62, 3, 0, 0, 0, []), (25, 63, 102, 0, 0, 0, []), (15, 64, 61, 0, 1, 0, []), (2, 67, 0, 2, 0, 0, []), (22, 68, 12, 55, 145, 0, [206]), (2, 71, 3, 0, 0, 0, []), (25, 72, 100, 0, 0, 0, []), (0, 73, 0, 0, 1, (-2), []), (16, 75, 61, 0, 1, 0, []), (2, 78, 0, 2, 0, 0, []), (22, 79, 12, 54, 141, 0, [205]), (2, 82, 3, 0, 0, 0, []), (0, 83, 0, 0, 0, 1, []), (26, 84, 102, 0, 0, 0, []), (2, 85, 0, 2, 0, 0, []), (22, 86, 12, 53, 138, 0, [204]), (2, 89, 3, 0, 0, 0, []), (2, 90, 0, 2, 0, 0, []), (22, 91, 12, 52, 135, 0, [203]), (2, 94, 3, 0, 0, 0, []), (25, 95, 100, 0, 0, 0, []), (26, 96, 100, 0, 0, 0, []), (0, 97, 0, 0, 0, 1, []), (3, 98, 2, 0, 0, 0, []), (4, 99, 3, 0, 0, 1, []), (19, 102, 29, 0, 0, 0, []), (2, 105, 2, 0, 0, 0, []), (34, 106, 0, 0, 0, 0, [])]
noncomputable def i_M_endsSome : MI := (⟨"TakenInTurnsModel", "endsSome", "(I)Z"⟩, prog_14_method_50_code, 4, Option.some Jvm.ClassFile.FieldType.boolean, 12, 1, t_M_endsSome)
set_option maxRecDepth 100000 in
noncomputable def t_M_endsRing : List AI := [(0, 0, 0, 0, 0, 0, []), (3, 1, 2, 0, 0, 0, []), (2, 2, 2, 0, 0, 0, []), (2, 3, 0, 2, 0, 0, []), (22, 4, 12, 1, 7, 0, [163]), (2, 7, 1, 0, 0, 0, []), (25, 8, 100, 0, 0, 0, []), (16, 9, 61, 0, 3, 0, []), (2, 12, 2, 0, 0, 0, []), (3, 13, 3, 0, 0, 0, []), (0, 14, 0, 0, 0, 0, []), (3, 15, 4, 0, 1, 0, []), (2, 17, 4, 0, 1, 0, []), (2, 19, 0, 2, 0, 0, []), (22, 20, 12, 1, 7, 0, [163]), (2, 23, 1, 0, 0, 0, []), (25, 24, 100, 0, 0, 0, []), (16, 25, 59, 0, 3, 0, []), (2, 28, 0, 2, 0, 0, []), (22, 29, 12, 54, 141, 0, [205]), (2, 32, 2, 0, 0, 0, []), (25, 33, 102, 0, 0, 0, []), (15, 34, 59, 0, 1, 0, []), (2, 37, 0, 2, 0, 0, []), (22, 38, 12, 55, 145, 0, [206]), (2, 41, 3, 0, 0, 0, []), (25, 42, 100, 0, 0, 0, []), (3, 43, 3, 0, 0, 0, []), (2, 44, 3, 0, 0, 0, []), (2, 45, 2, 0, 0, 0, []), (16, 46, 57, 0, 1, 0, []), (2, 49, 0, 2, 0, 0, []), (22, 50, 12, 53, 138, 0, [204]), (2, 53, 3, 0, 0, 0, []), (2, 54, 0, 2, 0, 0, []), (22, 55, 12, 52, 135, 0, [203]), (2, 58, 0, 2, 0, 0, []), (22, 59, 12, 55, 145, 0, [206]), (2, 62, 3, 0, 0, 0, []), (25, 63, 100, 0, 0, 0, []), (25, 64, 100, 0, 0, 0, []), (26, 65, 100, 0, 0, 0, []), (2, 66, 0, 2, 0, 0, []), (22, 67, 12, 54, 141, 0, [205]), (2, 70, 3, 0, 0, 0, []), (0, 71, 0, 0, 0, 1, []), (26, 72, 102, 0, 0, 0, []), (2, 73, 0, 2, 0, 0, []), (22, 74, 12, 55, 145, 0, [206]), (2, 77, 3, 0, 0, 0, []), (25, 78, 100, 0, 0, 0, []), (3, 79, 3, 0, 0, 0, []), (2, 80, 3, 0, 0, 0, []), (2, 81, 2, 0, 0, 0, []), (16, 82, 31, 0, 1, 0, []), (0, 85, 0, 0, 0, 1, []), (34, 86, 0, 0, 0, 0, []), (4, 87, 4, 0, 0, 1, []), (19, 90, 12, 0, 0, 0, []), (4, 93, 2, 0, 0, 1, []), (19, 96, 2, 0, 0, 0, []), (0, 99, 0, 0, 0, 0, []), (34, 100, 0, 0, 0, 0, [])]
noncomputable def i_M_endsRing : MI := (⟨"TakenInTurnsModel", "endsRing", "(I)Z"⟩, prog_14_method_51_code, 5, Option.some Jvm.ClassFile.FieldType.boolean, 12, 1, t_M_endsRing)
set_option maxRecDepth 100000 in
noncomputable def t_M_trades : List AI := [(0, 0, 0, 0, 0, 0, []), (3, 1, 2, 0, 0, 0, []), (2, 2, 2, 0, 0, 0, []), (2, 3, 0, 2, 0, 0, []), (22, 4, 12, 2, 13, 0, [164]), (2, 7, 1, 0, 0, 0, []), (25, 8, 100, 0, 0, 0, []), (16, 9, 22, 0, 3, 0, []), (2, 12, 0, 2, 0, 0, []), (22, 13, 12, 34, 96, 0, [190]), (2, 16, 2, 0, 0, 0, []), (2, 17, 0, 2, 0, 0, []), (22, 18, 12, 4, 19, 0, [166]), (0, 21, 0, 0, 1, 8, []), (2, 23, 1, 0, 0, 0, []), (5, 24, 0, 0, 2, 0, []), (2, 25, 2, 0, 0, 0, []), (5, 26, 0, 0, 0, 0, []), (25, 27, 100, 0, 0, 0, []), (26, 28, 100, 0, 0, 0, []), (4, 29, 2, 0, 0, 1, []), (19, 32, 2, 0, 0, 0, []), (0, 35, 0, 0, 0, 0, []), (3, 36, 2, 0, 0, 0, []), (2, 37, 2, 0, 0, 0, []), (2, 38, 0, 2, 0, 0, []), (22, 39, 12, 1, 7, 0, [163]), (2, 42, 1, 0, 0, 0, []), (25, 43, 100, 0, 0, 0, []), (16, 44, 70, 0, 3, 0, []), (2, 47, 0, 2, 0, 0, []), (22, 48, 12, 52, 135, 0, [203]), (2, 51, 2, 0, 0, 0, []), (2, 52, 0, 2, 0, 0, []), (22, 53, 12, 5, 22, 0, [167]), (0, 56, 0, 0, 1, 7, []), (2, 58, 1, 0, 0, 0, []), (5, 59, 0, 0, 2, 0, []), (2, 60, 2, 0, 0, 0, []), (5, 61, 0, 0, 0, 0, []), (25, 62, 100, 0, 0, 0, []), (26, 63, 100, 0, 0, 0, []), (2, 64, 0, 2, 0, 0, []), (22, 65, 12, 53, 138, 0, [204]), (2, 68, 2, 0, 0, 0, []), (0, 69, 0, 0, 0, (-1), []), (26, 70, 100, 0, 0, 0, []), (2, 71, 0, 2, 0, 0, []), (22, 72, 12, 54, 141, 0, [205]), (2, 75, 2, 0, 0, 0, []), (0, 76, 0, 0, 0, 0, []), (26, 77, 102, 0, 0, 0, []), (2, 78, 0, 2, 0, 0, []), (22, 79, 12, 52, 135, 0, [203]), (2, 82, 2, 0, 0, 0, []), (25, 83, 100, 0, 0, 0, []), (15, 84, 68, 0, 2, 0, []), (2, 87, 0, 2, 0, 0, []), (22, 88, 12, 34, 96, 0, [190]), (2, 91, 0, 2, 0, 0, []), (22, 92, 12, 52, 135, 0, [203]), (2, 95, 2, 0, 0, 0, []), (25, 96, 100, 0, 0, 0, []), (29, 97, 0, 0, 0, 0, []), (25, 98, 100, 0, 0, 0, []), (0, 99, 0, 0, 0, 1, []), (5, 100, 0, 0, 1, 0, []), (26, 101, 100, 0, 0, 0, []), (4, 102, 2, 0, 0, 1, []), (19, 105, 24, 0, 0, 0, []), (0, 108, 0, 0, 0, 1, []), (3, 109, 2, 0, 0, 0, []), (2, 110, 2, 0, 0, 0, []), (15, 111, 90, 0, 0, 0, []), (2, 114, 0, 2, 0, 0, []), (2, 115, 1, 0, 0, 0, []), (31, 116, 195, 12, 306, 1, [150, 102]), (3, 119, 3, 0, 0, 0, []), (2, 120, 3, 0, 0, 0, []), (15, 121, 85, 0, 0, 0, []), (2, 124, 0, 2, 0, 0, []), (2, 125, 1, 0, 0, 0, []), (31, 126, 195, 12, 306, 1, [150, 102]), (3, 129, 3, 0, 0, 0, []), (19, 130, 78, 0, 0, 0, []), (2, 133, 0, 2, 0, 0, []), (2, 134, 1, 0, 0, 0, []), (31, 135, 196, 12, 309, 1, [151, 103]), (3, 138, 2, 0, 0, 0, []), (19, 139, 72, 0, 0, 0, []), (0, 142, 0, 0, 0, 0, []), (3, 143, 3, 0, 0, 0, []), (2, 144, 3, 0, 0, 0, []), (2, 145, 0, 2, 0, 0, []), (22, 146, 12, 1, 7, 0, [163]), (2, 149, 1, 0, 0, 0, []), (25, 150, 100, 0, 0, 0, []), (16, 151, 146, 0, 3, 0, []), (2, 154, 0, 2, 0, 0, []), (22, 155, 12, 53, 138, 0, [204]), (2, 158, 3, 0, 0, 0, []), (25, 159, 100, 0, 0, 0, []), (15, 160, 127, 0, 3, 0, []), (2, 163, 0, 2, 0, 0, []), (22, 164, 12, 53, 138, 0, [204]), (2, 167, 3, 0, 0, 0, []), (2, 168, 0, 2, 0, 0, []), (2, 169, 1, 0, 0, 0, []), (2, 170, 3, 0, 0, 0, []), (31, 171, 168, 12, 221, 2, [132, 85]), (26, 174, 100, 0, 0, 0, []), (2, 175, 0, 2, 0, 0, []), (22, 176, 12, 53, 138, 0, [204]), (2, 179, 3, 0, 0, 0, []), (25, 180, 100, 0, 0, 0, []), (15, 181, 127, 0, 2, 0, []), (2, 184, 0, 2, 0, 0, []), (22, 185, 12, 34, 96, 0, [190]), (2, 188, 0, 2, 0, 0, []), (22, 189, 12, 53, 138, 0, [204]), (2, 192, 3, 0, 0, 0, []), (25, 193, 100, 0, 0, 0, []), (29, 194, 0, 0, 0, 0, []), (25, 195, 100, 0, 0, 0, []), (0, 196, 0, 0, 0, 1, []), (5, 197, 0, 0, 1, 0, []), (26, 198, 100, 0, 0, 0, []), (2, 199, 0, 2, 0, 0, []), (22, 200, 12, 53, 138, 0, [204]), (2, 203, 3, 0, 0, 0, []), (25, 204, 100, 0, 0, 0, []), (15, 205, 144, 0, 2, 0, []), (2, 208, 0, 2, 0, 0, []), (22, 209, 12, 41, 114, 0, [196]), (0, 212, 0, 0, 1, 8, []), (2, 214, 3, 0, 0, 0, []), (5, 215, 0, 0, 2, 0, []), (2, 216, 0, 2, 0, 0, []), (22, 217, 12, 53, 138, 0, [204]), (2, 220, 3, 0, 0, 0, []), (25, 221, 100, 0, 0, 0, []), (5, 222, 0, 0, 0, 0, []), (1, 223, 0, 0, 0, 1, []), (26, 224, 101, 0, 0, 0, []), (4, 225, 3, 0, 0, 1, []), (19, 228, 92, 0, 0, 0, []), (34, 231, 0, 0, 0, 0, [])]
noncomputable def i_M_trades : MI := (⟨"TakenInTurnsModel", "trades", "(I)V"⟩, prog_14_method_52_code, 4, none, 12, 1, t_M_trades)
set_option maxRecDepth 100000 in
noncomputable def t_M_takesParts : List AI := [(0, 0, 0, 0, 0, 0, []), (3, 1, 3, 0, 0, 0, []), (2, 2, 3, 0, 0, 0, []), (0, 3, 0, 0, 1, 56, []), (16, 5, 19, 0, 3, 0, []), (2, 8, 0, 2, 0, 0, []), (22, 9, 12, 56, 148, 0, [207]), (2, 12, 3, 0, 0, 0, []), (2, 13, 0, 2, 0, 0, []), (22, 14, 12, 9, 34, 0, [171]), (0, 17, 0, 0, 1, 56, []), (2, 19, 1, 0, 0, 0, []), (5, 20, 0, 0, 2, 0, []), (2, 21, 3, 0, 0, 0, []), (5, 22, 0, 0, 0, 0, []), (25, 23, 100, 0, 0, 0, []), (26, 24, 100, 0, 0, 0, []), (4, 25, 3, 0, 0, 1, []), (19, 28, 2, 0, 0, 0, []), (2, 31, 2, 0, 0, 0, []), (15, 32, 24, 0, 0, 0, []), (2, 35, 0, 2, 0, 0, []), (2, 36, 1, 0, 0, 0, []), (31, 37, 202, 12, 312, 1, [152, 104]), (0, 40, 0, 0, 0, 0, []), (3, 41, 3, 0, 0, 0, []), (2, 42, 3, 0, 0, 0, []), (0, 43, 0, 0, 1, 8, []), (2, 45, 0, 2, 0, 0, []), (22, 46, 12, 1, 7, 0, [163]), (2, 49, 1, 0, 0, 0, []), (25, 50, 100, 0, 0, 0, []), (5, 51, 0, 0, 2, 0, []), (16, 52, 45, 0, 3, 0, []), (2, 55, 0, 2, 0, 0, []), (2, 56, 3, 0, 0, 0, []), (2, 57, 0, 2, 0, 0, []), (22, 58, 12, 56, 148, 0, [207]), (2, 61, 3, 0, 0, 0, []), (25, 62, 100, 0, 0, 0, []), (11, 63, 0, 0, 0, 0, []), (1, 64, 315, 0, 1, 60, [9]), (31, 67, 186, 12, 275, 3, [145, 97]), (4, 70, 3, 0, 0, 1, []), (19, 73, 26, 0, 0, 0, []), (34, 76, 0, 0, 0, 0, [])]
noncomputable def i_M_takesParts : MI := (⟨"TakenInTurnsModel", "takesParts", "(IZ)V"⟩, prog_14_method_53_code, 4, none, 12, 2, t_M_takesParts)
set_option maxRecDepth 100000 in
noncomputable def t_M_sumOf : List AI := [(0, 0, 0, 0, 0, 0, []), (3, 1, 3, 0, 0, 0, []), (0, 2, 0, 0, 0, 0, []), (3, 3, 4, 0, 1, 0, []), (2, 5, 4, 0, 1, 0, []), (2, 7, 0, 2, 0, 0, []), (22, 8, 12, 2, 13, 0, [164]), (2, 11, 1, 0, 0, 0, []), (25, 12, 100, 0, 0, 0, []), (16, 13, 23, 0, 3, 0, []), (2, 16, 3, 0, 0, 0, []), (2, 17, 0, 2, 0, 0, []), (22, 18, 12, 56, 148, 0, [207]), (0, 21, 0, 0, 1, 8, []), (2, 23, 2, 0, 0, 0, []), (5, 24, 0, 0, 2, 0, []), (2, 25, 4, 0, 1, 0, []), (5, 27, 0, 0, 0, 0, []), (25, 28, 100, 0, 0, 0, []), (5, 29, 0, 0, 0, 0, []), (3, 30, 3, 0, 0, 0, []), (4, 31, 4, 0, 0, 1, []), (19, 34, 4, 0, 0, 0, []), (2, 37, 3, 0, 0, 0, []), (34, 38, 0, 0, 0, 0, [])]
noncomputable def i_M_sumOf : MI := (⟨"TakenInTurnsModel", "sumOf", "(II)I"⟩, prog_14_method_54_code, 5, Option.some Jvm.ClassFile.FieldType.int, 12, 2, t_M_sumOf)
set_option maxRecDepth 100000 in
noncomputable def t_M_sumOver : List AI := [(0, 0, 0, 0, 0, 0, []), (3, 1, 3, 0, 0, 0, []), (0, 2, 0, 0, 0, 0, []), (3, 3, 4, 0, 1, 0, []), (2, 5, 4, 0, 1, 0, []), (2, 7, 0, 2, 0, 0, []), (22, 8, 12, 1, 7, 0, [163]), (2, 11, 1, 0, 0, 0, []), (25, 12, 100, 0, 0, 0, []), (16, 13, 23, 0, 3, 0, []), (2, 16, 3, 0, 0, 0, []), (2, 17, 0, 2, 0, 0, []), (22, 18, 12, 56, 148, 0, [207]), (0, 21, 0, 0, 1, 8, []), (2, 23, 4, 0, 1, 0, []), (5, 25, 0, 0, 2, 0, []), (2, 26, 2, 0, 0, 0, []), (5, 27, 0, 0, 0, 0, []), (25, 28, 100, 0, 0, 0, []), (5, 29, 0, 0, 0, 0, []), (3, 30, 3, 0, 0, 0, []), (4, 31, 4, 0, 0, 1, []), (19, 34, 4, 0, 0, 0, []), (2, 37, 3, 0, 0, 0, []), (34, 38, 0, 0, 0, 0, [])]
noncomputable def i_M_sumOver : MI := (⟨"TakenInTurnsModel", "sumOver", "(II)I"⟩, prog_14_method_55_code, 5, Option.some Jvm.ClassFile.FieldType.int, 12, 2, t_M_sumOver)
set_option maxRecDepth 100000 in
noncomputable def t_M_less : List AI := [(2, 0, 2, 0, 0, 0, []), (2, 1, 0, 2, 0, 0, []), (22, 2, 12, 56, 148, 0, [207]), (2, 5, 1, 0, 0, 0, []), (25, 6, 100, 0, 0, 0, []), (16, 7, 11, 0, 5, 0, []), (2, 10, 0, 2, 0, 0, []), (22, 11, 12, 56, 148, 0, [207]), (2, 14, 1, 0, 0, 0, []), (25, 15, 100, 0, 0, 0, []), (19, 16, 12, 0, 0, 0, []), (2, 19, 2, 0, 0, 0, []), (3, 20, 3, 0, 0, 0, []), (2, 21, 0, 2, 0, 0, []), (22, 22, 12, 56, 148, 0, [207]), (2, 25, 1, 0, 0, 0, []), (29, 26, 0, 0, 0, 0, []), (25, 27, 100, 0, 0, 0, []), (2, 28, 3, 0, 0, 0, []), (15, 29, 22, 0, 5, 0, []), (2, 32, 3, 0, 0, 0, []), (19, 33, 23, 0, 0, 0, []), (0, 36, 0, 0, 0, 0, []), (5, 37, 0, 0, 1, 0, []), (26, 38, 100, 0, 0, 0, []), (34, 39, 0, 0, 0, 0, [])]
noncomputable def i_M_less : MI := (⟨"TakenInTurnsModel", "less", "(II)V"⟩, prog_14_method_56_code, 4, none, 12, 2, t_M_less)
set_option maxRecDepth 100000 in
noncomputable def t_M_mends : List AI := [(0, 0, 0, 0, 0, 0, []), (3, 1, 2, 0, 0, 0, []), (2, 2, 2, 0, 0, 0, []), (2, 3, 0, 2, 0, 0, []), (22, 4, 12, 1, 7, 0, [163]), (2, 7, 1, 0, 0, 0, []), (25, 8, 100, 0, 0, 0, []), (16, 9, 95, 0, 3, 0, []), (0, 12, 0, 0, 0, 0, []), (3, 13, 3, 0, 0, 0, []), (2, 14, 3, 0, 0, 0, []), (2, 15, 0, 2, 0, 0, []), (22, 16, 12, 2, 13, 0, [164]), (2, 19, 1, 0, 0, 0, []), (25, 20, 100, 0, 0, 0, []), (16, 21, 49, 0, 3, 0, []), (2, 24, 0, 2, 0, 0, []), (22, 25, 12, 56, 148, 0, [207]), (0, 28, 0, 0, 1, 8, []), (2, 30, 2, 0, 0, 0, []), (5, 31, 0, 0, 2, 0, []), (2, 32, 3, 0, 0, 0, []), (5, 33, 0, 0, 0, 0, []), (2, 34, 0, 2, 0, 0, []), (22, 35, 12, 8, 31, 0, [170]), (0, 38, 0, 0, 1, 56, []), (2, 40, 1, 0, 0, 0, []), (5, 41, 0, 0, 2, 0, []), (0, 42, 0, 0, 1, 8, []), (2, 44, 2, 0, 0, 0, []), (5, 45, 0, 0, 2, 0, []), (5, 46, 0, 0, 0, 0, []), (2, 47, 3, 0, 0, 0, []), (5, 48, 0, 0, 0, 0, []), (25, 49, 100, 0, 0, 0, []), (15, 50, 38, 0, 3, 0, []), (0, 53, 0, 0, 0, 0, []), (19, 54, 46, 0, 0, 0, []), (2, 57, 0, 2, 0, 0, []), (22, 58, 12, 56, 148, 0, [207]), (0, 61, 0, 0, 1, 8, []), (2, 63, 2, 0, 0, 0, []), (5, 64, 0, 0, 2, 0, []), (2, 65, 3, 0, 0, 0, []), (5, 66, 0, 0, 0, 0, []), (25, 67, 100, 0, 0, 0, []), (26, 68, 100, 0, 0, 0, []), (4, 69, 3, 0, 0, 1, []), (19, 72, 10, 0, 0, 0, []), (2, 75, 0, 2, 0, 0, []), (22, 76, 12, 6, 25, 0, [168]), (0, 79, 0, 0, 1, 7, []), (2, 81, 1, 0, 0, 0, []), (5, 82, 0, 0, 2, 0, []), (2, 83, 2, 0, 0, 0, []), (5, 84, 0, 0, 0, 0, []), (25, 85, 100, 0, 0, 0, []), (0, 86, 0, 0, 0, 1, []), (5, 87, 0, 0, 1, 0, []), (3, 88, 3, 0, 0, 0, []), (2, 89, 3, 0, 0, 0, []), (15, 90, 93, 0, 2, 0, []), (2, 93, 0, 2, 0, 0, []), (0, 94, 0, 0, 1, 8, []), (2, 96, 2, 0, 0, 0, []), (5, 97, 0, 0, 2, 0, []), (2, 98, 0, 2, 0, 0, []), (22, 99, 12, 7, 28, 0, [169]), (0, 102, 0, 0, 1, 56, []), (2, 104, 1, 0, 0, 0, []), (5, 105, 0, 0, 2, 0, []), (0, 106, 0, 0, 1, 8, []), (2, 108, 2, 0, 0, 0, []), (5, 109, 0, 0, 2, 0, []), (5, 110, 0, 0, 0, 0, []), (2, 111, 3, 0, 0, 0, []), (5, 112, 0, 0, 0, 0, []), (25, 113, 100, 0, 0, 0, []), (5, 114, 0, 0, 0, 0, []), (2, 115, 0, 2, 0, 0, []), (2, 116, 1, 0, 0, 0, []), (2, 117, 2, 0, 0, 0, []), (31, 118, 199, 12, 317, 2, [153, 105]), (0, 121, 0, 0, 1, 60, []), (2, 123, 0, 2, 0, 0, []), (22, 124, 12, 3, 16, 0, [165]), (2, 127, 1, 0, 0, 0, []), (25, 128, 100, 0, 0, 0, []), (5, 129, 0, 0, 2, 0, []), (5, 130, 0, 0, 1, 0, []), (31, 131, 201, 12, 320, 2, [154, 106]), (4, 134, 3, 0, 0, (-1), []), (19, 137, 60, 0, 0, 0, []), (4, 140, 2, 0, 0, 1, []), (19, 143, 2, 0, 0, 0, []), (0, 146, 0, 0, 0, 0, []), (3, 147, 2, 0, 0, 0, []), (2, 148, 2, 0, 0, 0, []), (2, 149, 0, 2, 0, 0, []), (22, 150, 12, 2, 13, 0, [164]), (2, 153, 1, 0, 0, 0, []), (25, 154, 100, 0, 0, 0, []), (16, 155, 138, 0, 3, 0, []), (2, 158, 0, 2, 0, 0, []), (22, 159, 12, 1, 7, 0, [163]), (2, 162, 1, 0, 0, 0, []), (25, 163, 100, 0, 0, 0, []), (0, 164, 0, 0, 0, 1, []), (5, 165, 0, 0, 1, 0, []), (3, 166, 3, 0, 0, 0, []), (2, 167, 3, 0, 0, 0, []), (15, 168, 136, 0, 2, 0, []), (2, 171, 0, 2, 0, 0, []), (0, 172, 0, 0, 1, 8, []), (2, 174, 3, 0, 0, 0, []), (5, 175, 0, 0, 2, 0, []), (2, 176, 2, 0, 0, 0, []), (5, 177, 0, 0, 0, 0, []), (2, 178, 0, 2, 0, 0, []), (2, 179, 1, 0, 0, 0, []), (2, 180, 2, 0, 0, 0, []), (31, 181, 200, 12, 323, 2, [155, 107]), (0, 184, 0, 0, 1, 60, []), (2, 186, 0, 2, 0, 0, []), (22, 187, 12, 4, 19, 0, [166]), (0, 190, 0, 0, 1, 8, []), (2, 192, 1, 0, 0, 0, []), (5, 193, 0, 0, 2, 0, []), (2, 194, 2, 0, 0, 0, []), (5, 195, 0, 0, 0, 0, []), (25, 196, 100, 0, 0, 0, []), (5, 197, 0, 0, 2, 0, []), (5, 198, 0, 0, 1, 0, []), (31, 199, 201, 12, 320, 2, [154, 106]), (4, 202, 3, 0, 0, (-1), []), (19, 205, 110, 0, 0, 0, []), (4, 208, 2, 0, 0, 1, []), (19, 211, 97, 0, 0, 0, []), (34, 214, 0, 0, 0, 0, [])]
noncomputable def i_M_mends : MI := (⟨"TakenInTurnsModel", "mends", "(I)V"⟩, prog_14_method_57_code, 4, none, 12, 1, t_M_mends)
set_option maxRecDepth 100000 in
noncomputable def t_M_shares : List AI := [(2, 0, 0, 2, 0, 0, []), (31, 1, 185, 12, 326, 0, [156, 108]), (2, 4, 2, 0, 0, 0, []), (20, 5, 23, 35, 0, 0, [4, 5, 5, 15, 19]), (19, 40, 32, 0, 0, 0, []), (2, 43, 0, 2, 0, 0, []), (2, 44, 1, 0, 0, 0, []), (2, 45, 2, 0, 0, 0, []), (0, 46, 0, 0, 0, 2, []), (16, 47, 12, 0, 1, 0, []), (0, 50, 0, 0, 0, 1, []), (19, 51, 13, 0, 0, 0, []), (0, 54, 0, 0, 0, 0, []), (31, 55, 189, 12, 329, 2, [157, 109]), (19, 58, 32, 0, 0, 0, []), (2, 61, 0, 2, 0, 0, []), (2, 62, 1, 0, 0, 0, []), (31, 63, 193, 12, 332, 1, [158, 110]), (19, 66, 32, 0, 0, 0, []), (2, 69, 0, 2, 0, 0, []), (2, 70, 1, 0, 0, 0, []), (31, 71, 197, 12, 335, 1, [159, 111]), (19, 74, 32, 0, 0, 0, []), (2, 77, 0, 2, 0, 0, []), (2, 78, 1, 0, 0, 0, []), (2, 79, 2, 0, 0, 0, []), (0, 80, 0, 0, 1, 6, []), (16, 82, 30, 0, 1, 0, []), (0, 85, 0, 0, 0, 1, []), (19, 86, 31, 0, 0, 0, []), (0, 89, 0, 0, 0, 0, []), (31, 90, 198, 12, 338, 2, [160, 112]), (34, 93, 0, 0, 0, 0, [])]
noncomputable def i_M_shares : MI := (⟨"TakenInTurnsModel", "shares", "(II)V"⟩, prog_14_method_58_code, 3, none, 12, 2, t_M_shares)
set_option maxRecDepth 100000 in
noncomputable def t_M_share : List AI := [(2, 0, 0, 2, 0, 0, []), (2, 1, 1, 0, 0, 0, []), (31, 2, 149, 12, 182, 1, [123, 76]), (15, 5, 15, 0, 0, 0, []), (2, 8, 0, 2, 0, 0, []), (2, 9, 2, 0, 0, 0, []), (31, 10, 170, 12, 228, 1, [133, 86]), (15, 13, 15, 0, 0, 0, []), (2, 16, 3, 0, 0, 0, []), (15, 17, 15, 0, 2, 0, []), (2, 20, 4, 0, 1, 0, []), (0, 22, 0, 0, 0, 0, []), (0, 23, 0, 0, 0, 1, []), (32, 24, 148, 0, 178, 3, [122, 23]), (15, 27, 17, 0, 1, 0, []), (1, 30, 65, 0, 1, (-1), [6]), (34, 33, 0, 0, 0, 0, []), (2, 34, 0, 2, 0, 0, []), (2, 35, 1, 0, 0, 0, []), (2, 36, 3, 0, 0, 0, []), (0, 37, 0, 0, 1, 10, []), (6, 39, 0, 0, 0, 0, []), (31, 40, 150, 12, 210, 2, [129, 82]), (15, 43, 31, 0, 0, 0, []), (2, 46, 0, 2, 0, 0, []), (2, 47, 1, 0, 0, 0, []), (2, 48, 3, 0, 0, 0, []), (0, 49, 0, 0, 1, 10, []), (6, 51, 0, 0, 1, 0, []), (31, 52, 151, 12, 218, 2, [131, 84]), (15, 55, 33, 0, 1, 0, []), (1, 58, 65, 0, 1, (-1), [6]), (34, 61, 0, 0, 0, 0, []), (2, 62, 0, 2, 0, 0, []), (2, 63, 1, 0, 0, 0, []), (2, 64, 0, 2, 0, 0, []), (22, 65, 12, 11, 37, 0, [172]), (2, 68, 2, 0, 0, 0, []), (25, 69, 100, 0, 0, 0, []), (31, 70, 203, 12, 341, 2, [161, 113]), (0, 73, 0, 0, 1, 8, []), (2, 75, 3, 0, 0, 0, []), (0, 76, 0, 0, 1, 10, []), (6, 78, 0, 0, 0, 0, []), (5, 79, 0, 0, 2, 0, []), (2, 80, 3, 0, 0, 0, []), (0, 81, 0, 0, 1, 10, []), (6, 83, 0, 0, 1, 0, []), (5, 84, 0, 0, 0, 0, []), (3, 85, 5, 0, 1, 0, []), (2, 87, 0, 2, 0, 0, []), (22, 88, 12, 43, 260, 0, [221]), (15, 91, 55, 0, 0, 0, []), (1, 94, 344, 0, 1, (-4), [10]), (19, 97, 66, 0, 0, 0, []), (2, 100, 4, 0, 1, 0, []), (15, 102, 62, 0, 1, 0, []), (2, 105, 0, 2, 0, 0, []), (22, 106, 12, 41, 114, 0, [196]), (2, 109, 5, 0, 1, 0, []), (25, 111, 101, 0, 0, 0, []), (19, 112, 66, 0, 0, 0, []), (2, 115, 0, 2, 0, 0, []), (22, 116, 12, 42, 117, 0, [197]), (2, 119, 5, 0, 1, 0, []), (25, 121, 101, 0, 0, 0, []), (34, 122, 0, 0, 0, 0, [])]
noncomputable def i_M_share : MI := (⟨"TakenInTurnsModel", "share", "(IIII)J"⟩, prog_14_method_59_code, 6, Option.some Jvm.ClassFile.FieldType.long, 12, 4, t_M_share)
set_option maxRecDepth 100000 in
noncomputable def t_M_stops : List AI := [(2, 0, 0, 2, 0, 0, []), (2, 1, 1, 0, 0, 0, []), (31, 2, 149, 12, 182, 1, [123, 76]), (15, 5, 6, 0, 1, 0, []), (0, 8, 0, 0, 0, (-1), []), (34, 9, 0, 0, 0, 0, []), (2, 10, 0, 2, 0, 0, []), (2, 11, 1, 0, 0, 0, []), (0, 12, 0, 0, 0, 3, []), (31, 13, 203, 12, 341, 2, [161, 113]), (2, 16, 0, 2, 0, 0, []), (22, 17, 12, 43, 260, 0, [221]), (15, 20, 15, 0, 0, 0, []), (0, 23, 0, 0, 1, (-4), []), (19, 25, 17, 0, 0, 0, []), (2, 28, 0, 2, 0, 0, []), (22, 29, 12, 44, 292, 0, [224]), (34, 32, 0, 0, 0, 0, [])]
noncomputable def i_M_stops : MI := (⟨"TakenInTurnsModel", "stops", "(I)I"⟩, prog_14_method_60_code, 2, Option.some Jvm.ClassFile.FieldType.int, 12, 1, t_M_stops)
set_option maxRecDepth 100000 in
noncomputable def t_M_keepsRow : List AI := [(0, 0, 0, 0, 0, 0, []), (3, 1, 2, 0, 0, 0, []), (2, 2, 2, 0, 0, 0, []), (0, 3, 0, 0, 1, 8, []), (16, 5, 31, 0, 3, 0, []), (2, 8, 0, 2, 0, 0, []), (22, 9, 12, 57, 151, 0, [208]), (2, 12, 2, 0, 0, 0, []), (2, 13, 0, 2, 0, 0, []), (22, 14, 12, 41, 114, 0, [196]), (0, 17, 0, 0, 1, 8, []), (2, 19, 1, 0, 0, 0, []), (5, 20, 0, 0, 2, 0, []), (2, 21, 2, 0, 0, 0, []), (5, 22, 0, 0, 0, 0, []), (25, 23, 101, 0, 0, 0, []), (26, 24, 101, 0, 0, 0, []), (2, 25, 0, 2, 0, 0, []), (22, 26, 12, 58, 154, 0, [209]), (2, 29, 2, 0, 0, 0, []), (2, 30, 0, 2, 0, 0, []), (22, 31, 12, 42, 117, 0, [197]), (0, 34, 0, 0, 1, 8, []), (2, 36, 1, 0, 0, 0, []), (5, 37, 0, 0, 2, 0, []), (2, 38, 2, 0, 0, 0, []), (5, 39, 0, 0, 0, 0, []), (25, 40, 101, 0, 0, 0, []), (26, 41, 101, 0, 0, 0, []), (4, 42, 2, 0, 0, 1, []), (19, 45, 2, 0, 0, 0, []), (34, 48, 0, 0, 0, 0, [])]
noncomputable def i_M_keepsRow : MI := (⟨"TakenInTurnsModel", "keepsRow", "(I)V"⟩, prog_14_method_61_code, 3, none, 12, 1, t_M_keepsRow)
set_option maxRecDepth 100000 in
noncomputable def t_M_against : List AI := [(0, 0, 0, 0, 0, 0, []), (3, 1, 4, 0, 1, 0, []), (0, 3, 0, 0, 0, 0, []), (3, 4, 5, 0, 1, 0, []), (0, 6, 0, 0, 0, 0, []), (3, 7, 6, 0, 1, 0, []), (2, 9, 6, 0, 1, 0, []), (0, 11, 0, 0, 1, 8, []), (16, 13, 117, 0, 3, 0, []), (1, 16, 0, 0, 0, 0, []), (3, 17, 7, 1, 1, 0, []), (1, 19, 0, 0, 0, 1, []), (3, 20, 9, 1, 1, 0, []), (1, 22, 0, 0, 0, 0, []), (3, 23, 11, 1, 1, 0, []), (1, 25, 0, 0, 0, 1, []), (3, 26, 13, 1, 1, 0, []), (0, 28, 0, 0, 0, 0, []), (3, 29, 15, 0, 1, 0, []), (2, 31, 15, 0, 1, 0, []), (2, 33, 0, 2, 0, 0, []), (22, 34, 12, 2, 13, 0, [164]), (2, 37, 1, 0, 0, 0, []), (25, 38, 100, 0, 0, 0, []), (16, 39, 87, 0, 3, 0, []), (2, 42, 0, 2, 0, 0, []), (22, 43, 12, 8, 31, 0, [170]), (0, 46, 0, 0, 1, 56, []), (2, 48, 1, 0, 0, 0, []), (5, 49, 0, 0, 2, 0, []), (0, 50, 0, 0, 1, 8, []), (2, 52, 2, 0, 0, 0, []), (5, 53, 0, 0, 2, 0, []), (5, 54, 0, 0, 0, 0, []), (2, 55, 15, 0, 1, 0, []), (5, 57, 0, 0, 0, 0, []), (25, 58, 100, 0, 0, 0, []), (0, 59, 0, 0, 0, 0, []), (2, 60, 6, 0, 1, 0, []), (32, 62, 148, 0, 178, 3, [122, 23]), (15, 65, 85, 0, 0, 0, []), (2, 68, 0, 2, 0, 0, []), (2, 69, 7, 1, 1, 0, []), (2, 71, 9, 1, 1, 0, []), (2, 73, 0, 2, 0, 0, []), (22, 74, 12, 41, 114, 0, [196]), (0, 77, 0, 0, 1, 8, []), (2, 79, 3, 0, 0, 0, []), (5, 80, 0, 0, 2, 0, []), (2, 81, 15, 0, 1, 0, []), (5, 83, 0, 0, 0, 0, []), (25, 84, 101, 0, 0, 0, []), (2, 85, 0, 2, 0, 0, []), (22, 86, 12, 42, 117, 0, [197]), (0, 89, 0, 0, 1, 8, []), (2, 91, 3, 0, 0, 0, []), (5, 92, 0, 0, 2, 0, []), (2, 93, 15, 0, 1, 0, []), (5, 95, 0, 0, 0, 0, []), (25, 96, 101, 0, 0, 0, []), (31, 97, 190, 12, 299, 4, [148, 100]), (2, 100, 0, 2, 0, 0, []), (22, 101, 12, 48, 279, 0, [222]), (3, 104, 7, 1, 1, 0, []), (2, 106, 0, 2, 0, 0, []), (22, 107, 12, 49, 282, 0, [223]), (3, 110, 9, 1, 1, 0, []), (2, 112, 0, 2, 0, 0, []), (2, 113, 11, 1, 1, 0, []), (2, 115, 13, 1, 1, 0, []), (2, 117, 0, 2, 0, 0, []), (22, 118, 12, 57, 151, 0, [208]), (2, 121, 15, 0, 1, 0, []), (25, 123, 101, 0, 0, 0, []), (2, 124, 0, 2, 0, 0, []), (22, 125, 12, 58, 154, 0, [209]), (2, 128, 15, 0, 1, 0, []), (25, 130, 101, 0, 0, 0, []), (31, 131, 190, 12, 299, 4, [148, 100]), (2, 134, 0, 2, 0, 0, []), (22, 135, 12, 48, 279, 0, [222]), (3, 138, 11, 1, 1, 0, []), (2, 140, 0, 2, 0, 0, []), (22, 141, 12, 49, 282, 0, [223]), (3, 144, 13, 1, 1, 0, []), (4, 146, 15, 0, 0, 1, []), (19, 149, 19, 0, 0, 0, []), (2, 152, 4, 0, 1, 0, []), (15, 154, 97, 0, 1, 0, []), (2, 157, 7, 1, 1, 0, []), (2, 159, 13, 1, 1, 0, []), (7, 161, 0, 0, 2, 0, []), (2, 162, 11, 1, 1, 0, []), (2, 164, 9, 1, 1, 0, []), (7, 166, 0, 0, 2, 0, []), (14, 167, 99, 0, 5, 0, []), (15, 168, 99, 0, 5, 0, []), (0, 171, 0, 0, 0, 1, []), (19, 172, 100, 0, 0, 0, []), (0, 175, 0, 0, 0, 0, []), (3, 176, 4, 0, 1, 0, []), (2, 178, 5, 0, 1, 0, []), (15, 180, 111, 0, 1, 0, []), (2, 183, 7, 1, 1, 0, []), (2, 185, 13, 1, 1, 0, []), (7, 187, 0, 0, 2, 0, []), (2, 188, 11, 1, 1, 0, []), (2, 190, 9, 1, 1, 0, []), (7, 192, 0, 0, 2, 0, []), (14, 193, 113, 0, 3, 0, []), (15, 194, 113, 0, 3, 0, []), (0, 197, 0, 0, 0, 1, []), (19, 198, 114, 0, 0, 0, []), (0, 201, 0, 0, 0, 0, []), (3, 202, 5, 0, 1, 0, []), (4, 204, 6, 0, 0, 1, []), (19, 207, 6, 0, 0, 0, []), (2, 210, 4, 0, 1, 0, []), (15, 212, 123, 0, 0, 0, []), (2, 215, 5, 0, 1, 0, []), (15, 217, 123, 0, 0, 0, []), (0, 220, 0, 0, 0, 2, []), (19, 221, 132, 0, 0, 0, []), (2, 224, 4, 0, 1, 0, []), (15, 226, 127, 0, 0, 0, []), (0, 229, 0, 0, 0, 1, []), (19, 230, 132, 0, 0, 0, []), (2, 233, 5, 0, 1, 0, []), (15, 235, 131, 0, 0, 0, []), (0, 238, 0, 0, 0, (-1), []), (19, 239, 132, 0, 0, 0, []), (0, 242, 0, 0, 0, 0, []), (34, 243, 0, 0, 0, 0, [])]
noncomputable def i_M_against : MI := (⟨"TakenInTurnsModel", "against", "(III)I"⟩, prog_14_method_62_code, 16, Option.some Jvm.ClassFile.FieldType.int, 12, 3, t_M_against)
set_option maxRecDepth 100000 in
noncomputable def t_M_rather : List AI := [(2, 0, 0, 2, 0, 0, []), (2, 1, 1, 0, 0, 0, []), (2, 2, 2, 0, 0, 0, []), (31, 3, 150, 12, 210, 2, [129, 82]), (15, 6, 13, 0, 0, 0, []), (2, 9, 0, 2, 0, 0, []), (2, 10, 3, 0, 0, 0, []), (31, 11, 170, 12, 228, 1, [133, 86]), (15, 14, 13, 0, 0, 0, []), (2, 17, 0, 2, 0, 0, []), (2, 18, 4, 0, 1, 0, []), (31, 20, 170, 12, 228, 1, [133, 86]), (15, 23, 15, 0, 1, 0, []), (0, 26, 217, 0, 3, (-2000000000), [6]), (34, 28, 0, 0, 0, 0, []), (2, 29, 0, 2, 0, 0, []), (2, 30, 1, 0, 0, 0, []), (2, 31, 0, 2, 0, 0, []), (22, 32, 12, 11, 37, 0, [172]), (2, 35, 4, 0, 1, 0, []), (25, 37, 100, 0, 0, 0, []), (31, 38, 203, 12, 341, 2, [161, 113]), (2, 41, 0, 2, 0, 0, []), (22, 42, 12, 43, 260, 0, [221]), (15, 45, 27, 0, 0, 0, []), (0, 48, 0, 0, 1, (-4), []), (34, 50, 0, 0, 0, 0, []), (2, 51, 0, 2, 0, 0, []), (2, 52, 2, 0, 0, 0, []), (31, 53, 206, 12, 346, 1, [162, 114]), (2, 56, 0, 2, 0, 0, []), (2, 57, 1, 0, 0, 0, []), (2, 58, 0, 2, 0, 0, []), (22, 59, 12, 11, 37, 0, [172]), (2, 62, 3, 0, 0, 0, []), (25, 63, 100, 0, 0, 0, []), (31, 64, 203, 12, 341, 2, [161, 113]), (2, 67, 0, 2, 0, 0, []), (22, 68, 12, 43, 260, 0, [221]), (15, 71, 42, 0, 0, 0, []), (0, 74, 0, 0, 1, (-4), []), (19, 76, 47, 0, 0, 0, []), (2, 79, 0, 2, 0, 0, []), (2, 80, 1, 0, 0, 0, []), (2, 81, 2, 0, 0, 0, []), (2, 82, 2, 0, 0, 0, []), (31, 83, 207, 12, 349, 3, [163, 115]), (34, 86, 0, 0, 0, 0, [])]
noncomputable def i_M_rather : MI := (⟨"TakenInTurnsModel", "rather", "(IIII)I"⟩, prog_14_method_63_code, 5, Option.some Jvm.ClassFile.FieldType.int, 12, 4, t_M_rather)
set_option maxRecDepth 100000 in
noncomputable def t_M_envy : List AI := [(2, 0, 0, 2, 0, 0, []), (2, 1, 1, 0, 0, 0, []), (31, 2, 149, 12, 182, 1, [123, 76]), (15, 5, 8, 0, 0, 0, []), (2, 8, 0, 2, 0, 0, []), (2, 9, 2, 0, 0, 0, []), (31, 10, 170, 12, 228, 1, [133, 86]), (15, 13, 10, 0, 1, 0, []), (0, 16, 0, 0, 0, (-1), []), (34, 17, 0, 0, 0, 0, []), (2, 18, 0, 2, 0, 0, []), (2, 19, 1, 0, 0, 0, []), (2, 20, 0, 2, 0, 0, []), (22, 21, 12, 11, 37, 0, [172]), (2, 24, 2, 0, 0, 0, []), (25, 25, 100, 0, 0, 0, []), (31, 26, 203, 12, 341, 2, [161, 113]), (2, 29, 0, 2, 0, 0, []), (22, 30, 12, 43, 260, 0, [221]), (15, 33, 22, 0, 0, 0, []), (0, 36, 0, 0, 1, (-4), []), (34, 38, 0, 0, 0, 0, []), (0, 39, 0, 0, 0, 0, []), (3, 40, 3, 0, 0, 0, []), (2, 41, 3, 0, 0, 0, []), (2, 42, 0, 2, 0, 0, []), (22, 43, 12, 1, 7, 0, [163]), (2, 46, 1, 0, 0, 0, []), (25, 47, 100, 0, 0, 0, []), (16, 48, 61, 0, 3, 0, []), (2, 51, 0, 2, 0, 0, []), (2, 52, 3, 0, 0, 0, []), (31, 53, 206, 12, 346, 1, [162, 114]), (0, 56, 0, 0, 0, 0, []), (3, 57, 4, 0, 1, 0, []), (2, 59, 4, 0, 1, 0, []), (2, 61, 0, 2, 0, 0, []), (22, 62, 12, 1, 7, 0, [163]), (2, 65, 1, 0, 0, 0, []), (25, 66, 100, 0, 0, 0, []), (16, 67, 59, 0, 3, 0, []), (2, 70, 4, 0, 1, 0, []), (2, 72, 3, 0, 0, 0, []), (16, 73, 57, 0, 0, 0, []), (2, 76, 0, 2, 0, 0, []), (2, 77, 1, 0, 0, 0, []), (2, 78, 3, 0, 0, 0, []), (2, 79, 4, 0, 1, 0, []), (31, 81, 207, 12, 349, 3, [163, 115]), (0, 84, 0, 0, 0, 1, []), (16, 85, 57, 0, 1, 0, []), (0, 88, 0, 0, 1, 10, []), (2, 90, 3, 0, 0, 0, []), (5, 91, 0, 0, 2, 0, []), (2, 92, 4, 0, 1, 0, []), (5, 94, 0, 0, 0, 0, []), (34, 95, 0, 0, 0, 0, []), (4, 96, 4, 0, 0, 1, []), (19, 99, 35, 0, 0, 0, []), (4, 102, 3, 0, 0, 1, []), (19, 105, 24, 0, 0, 0, []), (0, 108, 0, 0, 1, (-2), []), (34, 110, 0, 0, 0, 0, [])]
noncomputable def i_M_envy : MI := (⟨"TakenInTurnsModel", "envy", "(II)I"⟩, prog_14_method_64_code, 5, Option.some Jvm.ClassFile.FieldType.int, 12, 2, t_M_envy)
set_option maxRecDepth 100000 in
noncomputable def t_M_areDigits : List AI := [(2, 0, 2, 0, 0, 0, []), (3, 1, 3, 0, 0, 0, []), (0, 2, 0, 0, 0, 0, []), (3, 3, 4, 0, 1, 0, []), (2, 5, 1, 0, 0, 0, []), (0, 6, 0, 0, 0, 1, []), (5, 7, 0, 0, 1, 0, []), (3, 8, 5, 0, 1, 0, []), (2, 10, 5, 0, 1, 0, []), (15, 12, 36, 0, 2, 0, []), (2, 15, 0, 2, 0, 0, []), (22, 16, 12, 59, 157, 0, [210]), (2, 19, 5, 0, 1, 0, []), (2, 21, 3, 0, 0, 0, []), (0, 22, 0, 0, 1, 10, []), (6, 24, 0, 0, 1, 0, []), (26, 25, 100, 0, 0, 0, []), (2, 26, 3, 0, 0, 0, []), (0, 27, 0, 0, 1, 10, []), (6, 29, 0, 0, 0, 0, []), (3, 30, 3, 0, 0, 0, []), (2, 31, 4, 0, 1, 0, []), (2, 33, 2, 0, 0, 0, []), (15, 34, 31, 0, 2, 0, []), (0, 37, 0, 0, 0, 1, []), (2, 38, 0, 2, 0, 0, []), (22, 39, 12, 59, 157, 0, [210]), (2, 42, 5, 0, 1, 0, []), (25, 44, 100, 0, 0, 0, []), (5, 45, 0, 0, 6, 0, []), (19, 46, 32, 0, 0, 0, []), (0, 49, 0, 0, 0, 0, []), (5, 50, 0, 0, 4, 0, []), (3, 51, 4, 0, 1, 0, []), (4, 53, 5, 0, 0, (-1), []), (19, 56, 8, 0, 0, 0, []), (2, 59, 2, 0, 0, 0, []), (15, 60, 51, 0, 2, 0, []), (2, 63, 3, 0, 0, 0, []), (15, 64, 51, 0, 1, 0, []), (2, 67, 4, 0, 1, 0, []), (0, 69, 0, 0, 0, 1, []), (2, 70, 1, 0, 0, 0, []), (0, 71, 0, 0, 0, 1, []), (5, 72, 0, 0, 0, 0, []), (5, 73, 0, 0, 6, 0, []), (0, 74, 0, 0, 0, 2, []), (5, 75, 0, 0, 1, 0, []), (16, 76, 51, 0, 1, 0, []), (0, 79, 0, 0, 0, 1, []), (19, 80, 52, 0, 0, 0, []), (0, 83, 0, 0, 0, 0, []), (34, 84, 0, 0, 0, 0, [])]
noncomputable def i_M_areDigits : MI := (⟨"TakenInTurnsModel", "areDigits", "(II)Z"⟩, prog_14_method_65_code, 6, Option.some Jvm.ClassFile.FieldType.boolean, 12, 2, t_M_areDigits)
set_option maxRecDepth 100000 in
noncomputable def t_M_tries : List AI := [(2, 0, 0, 2, 0, 0, []), (2, 1, 1, 0, 0, 0, []), (0, 2, 0, 0, 0, 5, []), (31, 3, 159, 12, 213, 2, [130, 83]), (0, 6, 0, 0, 0, 0, []), (3, 7, 4, 0, 1, 0, []), (2, 9, 4, 0, 1, 0, []), (2, 11, 0, 2, 0, 0, []), (22, 12, 12, 6, 25, 0, [168]), (0, 15, 0, 0, 1, 7, []), (2, 17, 1, 0, 0, 0, []), (5, 18, 0, 0, 2, 0, []), (2, 19, 2, 0, 0, 0, []), (5, 20, 0, 0, 0, 0, []), (25, 21, 100, 0, 0, 0, []), (16, 22, 45, 0, 3, 0, []), (2, 25, 0, 2, 0, 0, []), (22, 26, 12, 7, 28, 0, [169]), (0, 29, 0, 0, 2, 280, []), (0, 32, 0, 0, 1, 8, []), (2, 34, 2, 0, 0, 0, []), (5, 35, 0, 0, 2, 0, []), (5, 36, 0, 0, 0, 0, []), (2, 37, 4, 0, 1, 0, []), (5, 39, 0, 0, 0, 0, []), (2, 40, 0, 2, 0, 0, []), (22, 41, 12, 7, 28, 0, [169]), (0, 44, 0, 0, 1, 56, []), (2, 46, 1, 0, 0, 0, []), (5, 47, 0, 0, 2, 0, []), (0, 48, 0, 0, 1, 8, []), (2, 50, 2, 0, 0, 0, []), (5, 51, 0, 0, 2, 0, []), (5, 52, 0, 0, 0, 0, []), (2, 53, 0, 2, 0, 0, []), (22, 54, 12, 59, 157, 0, [210]), (2, 57, 4, 0, 1, 0, []), (25, 59, 100, 0, 0, 0, []), (5, 60, 0, 0, 0, 0, []), (0, 61, 0, 0, 0, 1, []), (5, 62, 0, 0, 1, 0, []), (25, 63, 100, 0, 0, 0, []), (26, 64, 100, 0, 0, 0, []), (4, 65, 4, 0, 0, 1, []), (19, 68, 6, 0, 0, 0, []), (2, 71, 0, 2, 0, 0, []), (0, 72, 0, 0, 0, 5, []), (2, 73, 0, 2, 0, 0, []), (22, 74, 12, 11, 37, 0, [172]), (2, 77, 3, 0, 0, 0, []), (25, 78, 100, 0, 0, 0, []), (31, 79, 203, 12, 341, 2, [161, 113]), (2, 82, 0, 2, 0, 0, []), (22, 83, 12, 43, 260, 0, [221]), (15, 86, 57, 0, 0, 0, []), (0, 89, 0, 0, 1, (-4), []), (19, 91, 62, 0, 0, 0, []), (2, 94, 0, 2, 0, 0, []), (2, 95, 1, 0, 0, 0, []), (2, 96, 2, 0, 0, 0, []), (2, 97, 2, 0, 0, 0, []), (31, 98, 207, 12, 349, 3, [163, 115]), (34, 101, 0, 0, 0, 0, [])]
noncomputable def i_M_tries : MI := (⟨"TakenInTurnsModel", "tries", "(III)I"⟩, prog_14_method_66_code, 5, Option.some Jvm.ClassFile.FieldType.int, 12, 3, t_M_tries)
set_option maxRecDepth 100000 in
noncomputable def t_M_keepsOwn : List AI := [(2, 0, 0, 2, 0, 0, []), (2, 1, 1, 0, 0, 0, []), (2, 2, 0, 2, 0, 0, []), (22, 3, 12, 11, 37, 0, [172]), (2, 6, 3, 0, 0, 0, []), (25, 7, 100, 0, 0, 0, []), (31, 8, 203, 12, 341, 2, [161, 113]), (2, 11, 0, 2, 0, 0, []), (2, 12, 2, 0, 0, 0, []), (31, 13, 206, 12, 346, 1, [162, 114]), (2, 16, 0, 2, 0, 0, []), (22, 17, 12, 43, 260, 0, [221]), (15, 20, 15, 0, 1, 0, []), (0, 23, 0, 0, 0, 1, []), (19, 24, 16, 0, 0, 0, []), (0, 27, 0, 0, 0, 0, []), (34, 28, 0, 0, 0, 0, [])]
noncomputable def i_M_keepsOwn : MI := (⟨"TakenInTurnsModel", "keepsOwn", "(III)Z"⟩, prog_14_method_67_code, 4, Option.some Jvm.ClassFile.FieldType.boolean, 12, 3, t_M_keepsOwn)
set_option maxRecDepth 100000 in
noncomputable def t_M_isLie : List AI := [(2, 0, 0, 2, 0, 0, []), (2, 1, 1, 0, 0, 0, []), (2, 2, 2, 0, 0, 0, []), (31, 3, 150, 12, 210, 2, [129, 82]), (15, 6, 35, 0, 0, 0, []), (2, 9, 0, 2, 0, 0, []), (2, 10, 3, 0, 0, 0, []), (31, 11, 170, 12, 228, 1, [133, 86]), (15, 14, 35, 0, 0, 0, []), (2, 17, 0, 2, 0, 0, []), (22, 18, 12, 11, 37, 0, [172]), (2, 21, 0, 2, 0, 0, []), (2, 22, 3, 0, 0, 0, []), (31, 23, 170, 12, 228, 1, [133, 86]), (15, 26, 17, 0, 0, 0, []), (2, 29, 3, 0, 0, 0, []), (19, 30, 18, 0, 0, 0, []), (0, 33, 0, 0, 0, 0, []), (25, 34, 100, 0, 0, 0, []), (0, 35, 0, 0, 0, 1, []), (16, 36, 33, 0, 0, 0, []), (2, 39, 0, 2, 0, 0, []), (22, 40, 12, 11, 37, 0, [172]), (2, 43, 0, 2, 0, 0, []), (2, 44, 3, 0, 0, 0, []), (31, 45, 170, 12, 228, 1, [133, 86]), (15, 48, 29, 0, 0, 0, []), (2, 51, 3, 0, 0, 0, []), (19, 52, 30, 0, 0, 0, []), (0, 55, 0, 0, 0, 0, []), (25, 56, 100, 0, 0, 0, []), (0, 57, 0, 0, 0, 3, []), (16, 58, 35, 0, 1, 0, []), (0, 61, 0, 0, 0, 1, []), (19, 62, 36, 0, 0, 0, []), (0, 65, 0, 0, 0, 0, []), (34, 66, 0, 0, 0, 0, [])]
noncomputable def i_M_isLie : MI := (⟨"TakenInTurnsModel", "isLie", "(III)Z"⟩, prog_14_method_68_code, 4, Option.some Jvm.ClassFile.FieldType.boolean, 12, 3, t_M_isLie)
set_option maxRecDepth 100000 in
noncomputable def t_M_wrongly : List AI := [(2, 0, 0, 2, 0, 0, []), (2, 1, 1, 0, 0, 0, []), (2, 2, 2, 0, 0, 0, []), (2, 3, 3, 0, 0, 0, []), (31, 4, 213, 12, 352, 3, [164, 116]), (15, 7, 8, 0, 1, 0, []), (0, 10, 217, 0, 3, (-2000000000), [6]), (34, 12, 0, 0, 0, 0, []), (2, 13, 0, 2, 0, 0, []), (2, 14, 0, 2, 0, 0, []), (22, 15, 12, 6, 25, 0, [168]), (0, 18, 0, 0, 1, 7, []), (2, 20, 1, 0, 0, 0, []), (5, 21, 0, 0, 2, 0, []), (2, 22, 2, 0, 0, 0, []), (5, 23, 0, 0, 0, 0, []), (25, 24, 100, 0, 0, 0, []), (2, 25, 4, 0, 1, 0, []), (31, 27, 210, 12, 355, 2, [165, 117]), (15, 30, 22, 0, 1, 0, []), (0, 33, 217, 0, 3, (-2000000000), [6]), (34, 35, 0, 0, 0, 0, []), (2, 36, 0, 2, 0, 0, []), (2, 37, 1, 0, 0, 0, []), (2, 38, 2, 0, 0, 0, []), (2, 39, 3, 0, 0, 0, []), (31, 40, 212, 12, 358, 3, [166, 118]), (15, 43, 34, 0, 0, 0, []), (2, 46, 0, 2, 0, 0, []), (2, 47, 1, 0, 0, 0, []), (2, 48, 2, 0, 0, 0, []), (2, 49, 3, 0, 0, 0, []), (31, 50, 211, 12, 361, 3, [167, 119]), (19, 53, 35, 0, 0, 0, []), (0, 56, 0, 0, 1, (-4), []), (34, 58, 0, 0, 0, 0, [])]
noncomputable def i_M_wrongly : MI := (⟨"TakenInTurnsModel", "wrongly", "(IIII)I"⟩, prog_14_method_69_code, 5, Option.some Jvm.ClassFile.FieldType.int, 12, 4, t_M_wrongly)
set_option maxRecDepth 100000 in
noncomputable def t_M_triesAll : List AI := [(2, 0, 0, 2, 0, 0, []), (22, 1, 12, 6, 25, 0, [168]), (0, 4, 0, 0, 1, 7, []), (2, 6, 1, 0, 0, 0, []), (5, 7, 0, 0, 2, 0, []), (2, 8, 2, 0, 0, 0, []), (5, 9, 0, 0, 0, 0, []), (25, 10, 100, 0, 0, 0, []), (3, 11, 7, 0, 1, 0, []), (2, 13, 4, 0, 1, 0, []), (2, 15, 7, 0, 1, 0, []), (16, 17, 30, 0, 1, 0, []), (2, 20, 0, 2, 0, 0, []), (2, 21, 1, 0, 0, 0, []), (2, 22, 2, 0, 0, 0, []), (2, 23, 3, 0, 0, 0, []), (31, 24, 211, 12, 361, 3, [167, 119]), (3, 27, 8, 0, 1, 0, []), (2, 29, 8, 0, 1, 0, []), (0, 31, 0, 0, 0, 1, []), (16, 32, 23, 0, 1, 0, []), (2, 35, 6, 0, 1, 0, []), (19, 37, 29, 0, 0, 0, []), (2, 40, 8, 0, 1, 0, []), (0, 42, 0, 0, 1, (-4), []), (16, 44, 28, 0, 1, 0, []), (0, 47, 0, 0, 1, (-4), []), (19, 49, 29, 0, 0, 0, []), (0, 52, 0, 0, 1, (-2), []), (34, 54, 0, 0, 0, 0, []), (0, 55, 0, 0, 0, 1, []), (3, 56, 8, 0, 1, 0, []), (2, 58, 8, 0, 1, 0, []), (2, 60, 7, 0, 1, 0, []), (16, 62, 72, 0, 4, 0, []), (2, 65, 5, 0, 1, 0, []), (2, 67, 8, 0, 1, 0, []), (5, 69, 0, 0, 7, 0, []), (0, 70, 0, 0, 0, 1, []), (5, 71, 0, 0, 3, 0, []), (15, 72, 70, 0, 1, 0, []), (2, 75, 0, 2, 0, 0, []), (22, 76, 12, 59, 157, 0, [210]), (2, 79, 4, 0, 1, 0, []), (2, 81, 8, 0, 1, 0, []), (26, 83, 100, 0, 0, 0, []), (2, 84, 0, 2, 0, 0, []), (2, 85, 1, 0, 0, 0, []), (2, 86, 2, 0, 0, 0, []), (2, 87, 3, 0, 0, 0, []), (2, 88, 4, 0, 1, 0, []), (0, 90, 0, 0, 0, 1, []), (5, 91, 0, 0, 0, 0, []), (2, 92, 5, 0, 1, 0, []), (0, 94, 0, 0, 0, 1, []), (2, 95, 8, 0, 1, 0, []), (5, 97, 0, 0, 6, 0, []), (5, 98, 0, 0, 4, 0, []), (0, 99, 0, 0, 1, 10, []), (2, 101, 6, 0, 1, 0, []), (5, 103, 0, 0, 2, 0, []), (2, 104, 8, 0, 1, 0, []), (5, 106, 0, 0, 0, 0, []), (31, 107, 215, 12, 364, 6, [168, 120]), (3, 110, 9, 0, 1, 0, []), (2, 112, 9, 0, 1, 0, []), (0, 114, 0, 0, 1, (-2), []), (16, 116, 70, 0, 0, 0, []), (2, 119, 9, 0, 1, 0, []), (34, 121, 0, 0, 0, 0, []), (4, 122, 8, 0, 0, 1, []), (19, 125, 32, 0, 0, 0, []), (0, 128, 0, 0, 1, (-2), []), (34, 130, 0, 0, 0, 0, [])]
noncomputable def i_M_triesAll : MI := (⟨"TakenInTurnsModel", "triesAll", "(IIIIII)I"⟩, prog_14_method_70_code, 10, Option.some Jvm.ClassFile.FieldType.int, 12, 6, t_M_triesAll)
set_option maxRecDepth 100000 in
noncomputable def t_M_gains : List AI := [(2, 0, 0, 2, 0, 0, []), (2, 1, 1, 0, 0, 0, []), (2, 2, 2, 0, 0, 0, []), (2, 3, 3, 0, 0, 0, []), (31, 4, 213, 12, 352, 3, [164, 116]), (15, 7, 8, 0, 1, 0, []), (0, 10, 0, 0, 0, (-1), []), (34, 11, 0, 0, 0, 0, []), (2, 12, 0, 2, 0, 0, []), (22, 13, 12, 6, 25, 0, [168]), (0, 16, 0, 0, 1, 7, []), (2, 18, 1, 0, 0, 0, []), (5, 19, 0, 0, 2, 0, []), (2, 20, 2, 0, 0, 0, []), (5, 21, 0, 0, 0, 0, []), (25, 22, 100, 0, 0, 0, []), (0, 23, 0, 0, 0, 5, []), (16, 24, 24, 0, 4, 0, []), (2, 27, 0, 2, 0, 0, []), (2, 28, 1, 0, 0, 0, []), (2, 29, 2, 0, 0, 0, []), (2, 30, 3, 0, 0, 0, []), (31, 31, 212, 12, 358, 3, [166, 118]), (15, 34, 26, 0, 1, 0, []), (0, 37, 0, 0, 1, (-4), []), (34, 39, 0, 0, 0, 0, []), (2, 40, 0, 2, 0, 0, []), (2, 41, 1, 0, 0, 0, []), (2, 42, 2, 0, 0, 0, []), (2, 43, 3, 0, 0, 0, []), (0, 44, 0, 0, 0, 0, []), (0, 45, 0, 0, 0, 0, []), (0, 46, 0, 0, 0, 0, []), (31, 47, 215, 12, 364, 6, [168, 120]), (34, 50, 0, 0, 0, 0, [])]
noncomputable def i_M_gains : MI := (⟨"TakenInTurnsModel", "gains", "(III)I"⟩, prog_14_method_71_code, 4, Option.some Jvm.ClassFile.FieldType.int, 12, 3, t_M_gains)
set_option maxRecDepth 100000 in
noncomputable def t_M_told : List AI := [(2, 0, 2, 0, 0, 0, []), (15, 1, 21, 0, 2, 0, []), (2, 4, 0, 2, 0, 0, []), (2, 5, 1, 0, 0, 0, []), (2, 6, 2, 0, 0, 0, []), (0, 7, 0, 0, 1, 10, []), (6, 9, 0, 0, 0, 0, []), (31, 10, 150, 12, 210, 2, [129, 82]), (15, 13, 21, 0, 0, 0, []), (2, 16, 0, 2, 0, 0, []), (2, 17, 1, 0, 0, 0, []), (2, 18, 2, 0, 0, 0, []), (0, 19, 0, 0, 1, 10, []), (6, 21, 0, 0, 1, 0, []), (31, 22, 151, 12, 218, 2, [131, 84]), (15, 25, 21, 0, 0, 0, []), (2, 28, 3, 0, 0, 0, []), (0, 29, 0, 0, 0, 0, []), (0, 30, 0, 0, 1, 60, []), (32, 32, 148, 0, 178, 3, [122, 23]), (15, 35, 23, 0, 1, 0, []), (0, 38, 0, 0, 0, (-1), []), (34, 39, 0, 0, 0, 0, []), (0, 40, 0, 0, 1, 56, []), (2, 42, 1, 0, 0, 0, []), (5, 43, 0, 0, 2, 0, []), (0, 44, 0, 0, 1, 8, []), (2, 46, 2, 0, 0, 0, []), (0, 47, 0, 0, 1, 10, []), (6, 49, 0, 0, 0, 0, []), (5, 50, 0, 0, 2, 0, []), (5, 51, 0, 0, 0, 0, []), (2, 52, 2, 0, 0, 0, []), (0, 53, 0, 0, 1, 10, []), (6, 55, 0, 0, 1, 0, []), (5, 56, 0, 0, 0, 0, []), (3, 57, 4, 0, 1, 0, []), (2, 59, 0, 2, 0, 0, []), (22, 60, 12, 9, 34, 0, [171]), (2, 63, 4, 0, 1, 0, []), (25, 65, 100, 0, 0, 0, []), (3, 66, 5, 0, 1, 0, []), (2, 68, 0, 2, 0, 0, []), (22, 69, 12, 9, 34, 0, [171]), (2, 72, 4, 0, 1, 0, []), (2, 74, 3, 0, 0, 0, []), (26, 75, 100, 0, 0, 0, []), (2, 76, 5, 0, 1, 0, []), (34, 78, 0, 0, 0, 0, [])]
noncomputable def i_M_told : MI := (⟨"TakenInTurnsModel", "told", "(III)I"⟩, prog_14_method_72_code, 6, Option.some Jvm.ClassFile.FieldType.int, 12, 3, t_M_told)
set_option maxRecDepth 100000 in
noncomputable def t_M_table : List AI := [(2, 0, 0, 2, 0, 0, []), (2, 1, 1, 0, 0, 0, []), (31, 2, 149, 12, 182, 1, [123, 76]), (15, 5, 9, 0, 0, 0, []), (2, 8, 2, 0, 0, 0, []), (0, 9, 0, 0, 0, 0, []), (0, 10, 0, 0, 0, 5, []), (32, 11, 148, 0, 178, 3, [122, 23]), (15, 14, 11, 0, 1, 0, []), (0, 17, 0, 0, 0, (-1), []), (34, 18, 0, 0, 0, 0, []), (2, 19, 0, 2, 0, 0, []), (22, 20, 12, 27, 77, 0, [184]), (2, 23, 2, 0, 0, 0, []), (25, 24, 100, 0, 0, 0, []), (15, 25, 21, 0, 3, 0, []), (2, 28, 0, 2, 0, 0, []), (22, 29, 12, 28, 80, 0, [185]), (2, 32, 2, 0, 0, 0, []), (25, 33, 100, 0, 0, 0, []), (15, 34, 23, 0, 5, 0, []), (0, 37, 0, 0, 1, (-12), []), (34, 39, 0, 0, 0, 0, []), (0, 40, 0, 0, 0, 0, []), (3, 41, 4, 0, 1, 0, []), (2, 43, 0, 2, 0, 0, []), (22, 44, 12, 28, 80, 0, [185]), (2, 47, 2, 0, 0, 0, []), (25, 48, 100, 0, 0, 0, []), (15, 49, 34, 0, 1, 0, []), (2, 52, 3, 0, 0, 0, []), (15, 53, 34, 0, 2, 0, []), (0, 56, 0, 0, 0, 1, []), (19, 57, 35, 0, 0, 0, []), (0, 60, 0, 0, 0, 0, []), (3, 61, 5, 0, 1, 0, []), (0, 63, 0, 0, 0, 0, []), (3, 64, 6, 0, 1, 0, []), (2, 66, 6, 0, 1, 0, []), (2, 68, 0, 2, 0, 0, []), (22, 69, 12, 1, 7, 0, [163]), (2, 72, 1, 0, 0, 0, []), (25, 73, 100, 0, 0, 0, []), (16, 74, 109, 0, 3, 0, []), (0, 77, 0, 0, 0, 0, []), (3, 78, 7, 0, 1, 0, []), (2, 80, 7, 0, 1, 0, []), (2, 82, 0, 2, 0, 0, []), (22, 83, 12, 2, 13, 0, [164]), (2, 86, 1, 0, 0, 0, []), (25, 87, 100, 0, 0, 0, []), (16, 88, 107, 0, 3, 0, []), (2, 91, 5, 0, 1, 0, []), (15, 93, 107, 0, 0, 0, []), (2, 96, 3, 0, 0, 0, []), (2, 97, 0, 2, 0, 0, []), (22, 98, 12, 29, 83, 0, [186]), (2, 101, 2, 0, 0, 0, []), (25, 102, 100, 0, 0, 0, []), (0, 103, 0, 0, 0, 1, []), (5, 104, 0, 0, 1, 0, []), (2, 105, 4, 0, 1, 0, []), (5, 107, 0, 0, 1, 0, []), (16, 108, 66, 0, 4, 0, []), (0, 111, 0, 0, 0, 1, []), (19, 112, 67, 0, 0, 0, []), (0, 115, 0, 0, 0, 0, []), (3, 116, 5, 0, 1, 0, []), (2, 118, 5, 0, 1, 0, []), (15, 120, 82, 0, 0, 0, []), (2, 123, 0, 2, 0, 0, []), (22, 124, 12, 30, 86, 0, [187]), (0, 127, 0, 0, 1, 60, []), (2, 129, 2, 0, 0, 0, []), (5, 130, 0, 0, 2, 0, []), (2, 131, 3, 0, 0, 0, []), (5, 132, 0, 0, 0, 0, []), (2, 133, 4, 0, 1, 0, []), (5, 135, 0, 0, 0, 0, []), (25, 136, 101, 0, 0, 0, []), (12, 137, 0, 0, 0, 0, []), (19, 138, 83, 0, 0, 0, []), (0, 141, 0, 0, 0, (-1), []), (3, 142, 8, 0, 1, 0, []), (2, 144, 8, 0, 1, 0, []), (0, 146, 0, 0, 0, 0, []), (0, 147, 0, 0, 1, 60, []), (32, 149, 148, 0, 178, 3, [122, 23]), (3, 152, 5, 0, 1, 0, []), (2, 154, 5, 0, 1, 0, []), (15, 156, 105, 0, 0, 0, []), (2, 159, 0, 2, 0, 0, []), (22, 160, 12, 9, 34, 0, [171]), (0, 163, 0, 0, 1, 56, []), (2, 165, 1, 0, 0, 0, []), (5, 166, 0, 0, 2, 0, []), (0, 167, 0, 0, 1, 8, []), (2, 169, 6, 0, 1, 0, []), (5, 171, 0, 0, 2, 0, []), (5, 172, 0, 0, 0, 0, []), (2, 173, 7, 0, 1, 0, []), (5, 175, 0, 0, 0, 0, []), (2, 176, 8, 0, 1, 0, []), (26, 178, 100, 0, 0, 0, []), (4, 179, 4, 0, 0, 1, []), (4, 182, 7, 0, 0, 1, []), (19, 185, 46, 0, 0, 0, []), (4, 188, 6, 0, 0, 1, []), (19, 191, 38, 0, 0, 0, []), (2, 194, 4, 0, 1, 0, []), (34, 196, 0, 0, 0, 0, [])]
noncomputable def i_M_table : MI := (⟨"TakenInTurnsModel", "table", "(III)I"⟩, prog_14_method_73_code, 9, Option.some Jvm.ClassFile.FieldType.int, 12, 3, t_M_table)
set_option maxRecDepth 100000 in
noncomputable def t_M_barsOf : List AI := [(0, 0, 0, 0, 0, 0, []), (3, 1, 2, 0, 0, 0, []), (2, 2, 2, 0, 0, 0, []), (0, 3, 0, 0, 1, 56, []), (16, 5, 19, 0, 3, 0, []), (2, 8, 0, 2, 0, 0, []), (22, 9, 12, 56, 148, 0, [207]), (2, 12, 2, 0, 0, 0, []), (2, 13, 0, 2, 0, 0, []), (22, 14, 12, 9, 34, 0, [171]), (0, 17, 0, 0, 1, 56, []), (2, 19, 1, 0, 0, 0, []), (5, 20, 0, 0, 2, 0, []), (2, 21, 2, 0, 0, 0, []), (5, 22, 0, 0, 0, 0, []), (25, 23, 100, 0, 0, 0, []), (26, 24, 100, 0, 0, 0, []), (4, 25, 2, 0, 0, 1, []), (19, 28, 2, 0, 0, 0, []), (0, 31, 0, 0, 0, 0, []), (3, 32, 2, 0, 0, 0, []), (2, 33, 2, 0, 0, 0, []), (2, 34, 0, 2, 0, 0, []), (22, 35, 12, 1, 7, 0, [163]), (2, 38, 1, 0, 0, 0, []), (25, 39, 100, 0, 0, 0, []), (16, 40, 86, 0, 3, 0, []), (2, 43, 0, 2, 0, 0, []), (2, 44, 1, 0, 0, 0, []), (2, 45, 2, 0, 0, 0, []), (31, 46, 199, 12, 317, 2, [153, 105]), (0, 49, 0, 0, 1, 60, []), (2, 51, 0, 2, 0, 0, []), (22, 52, 12, 3, 16, 0, [165]), (2, 55, 1, 0, 0, 0, []), (25, 56, 100, 0, 0, 0, []), (5, 57, 0, 0, 2, 0, []), (16, 58, 40, 0, 4, 0, []), (0, 61, 0, 0, 0, 1, []), (19, 62, 41, 0, 0, 0, []), (0, 65, 0, 0, 0, 0, []), (3, 66, 3, 0, 0, 0, []), (0, 67, 0, 0, 0, 0, []), (3, 68, 4, 0, 1, 0, []), (2, 70, 4, 0, 1, 0, []), (2, 72, 0, 2, 0, 0, []), (22, 73, 12, 2, 13, 0, [164]), (2, 76, 1, 0, 0, 0, []), (25, 77, 100, 0, 0, 0, []), (16, 78, 80, 0, 3, 0, []), (2, 81, 3, 0, 0, 0, []), (15, 82, 76, 0, 0, 0, []), (2, 85, 0, 2, 0, 0, []), (22, 86, 12, 56, 148, 0, [207]), (0, 89, 0, 0, 1, 8, []), (2, 91, 2, 0, 0, 0, []), (5, 92, 0, 0, 2, 0, []), (2, 93, 4, 0, 1, 0, []), (5, 95, 0, 0, 0, 0, []), (25, 96, 100, 0, 0, 0, []), (15, 97, 74, 0, 0, 0, []), (2, 100, 0, 2, 0, 0, []), (22, 101, 12, 8, 31, 0, [170]), (0, 104, 0, 0, 1, 56, []), (2, 106, 1, 0, 0, 0, []), (5, 107, 0, 0, 2, 0, []), (0, 108, 0, 0, 1, 8, []), (2, 110, 2, 0, 0, 0, []), (5, 111, 0, 0, 2, 0, []), (5, 112, 0, 0, 0, 0, []), (2, 113, 4, 0, 1, 0, []), (5, 115, 0, 0, 0, 0, []), (25, 116, 100, 0, 0, 0, []), (15, 117, 76, 0, 2, 0, []), (0, 120, 0, 0, 0, 1, []), (19, 121, 77, 0, 0, 0, []), (0, 124, 0, 0, 0, 0, []), (3, 125, 3, 0, 0, 0, []), (4, 126, 4, 0, 0, 1, []), (19, 129, 44, 0, 0, 0, []), (2, 132, 3, 0, 0, 0, []), (15, 133, 84, 0, 1, 0, []), (2, 136, 2, 0, 0, 0, []), (34, 137, 0, 0, 0, 0, []), (4, 138, 2, 0, 0, 1, []), (19, 141, 21, 0, 0, 0, []), (0, 144, 0, 0, 0, 0, []), (3, 145, 2, 0, 0, 0, []), (2, 146, 2, 0, 0, 0, []), (2, 147, 0, 2, 0, 0, []), (22, 148, 12, 2, 13, 0, [164]), (2, 151, 1, 0, 0, 0, []), (25, 152, 100, 0, 0, 0, []), (16, 153, 115, 0, 3, 0, []), (2, 156, 0, 2, 0, 0, []), (2, 157, 1, 0, 0, 0, []), (2, 158, 2, 0, 0, 0, []), (31, 159, 200, 12, 323, 2, [155, 107]), (0, 162, 0, 0, 1, 60, []), (2, 164, 0, 2, 0, 0, []), (22, 165, 12, 4, 19, 0, [166]), (0, 168, 0, 0, 1, 8, []), (2, 170, 1, 0, 0, 0, []), (5, 171, 0, 0, 2, 0, []), (2, 172, 2, 0, 0, 0, []), (5, 173, 0, 0, 0, 0, []), (25, 174, 100, 0, 0, 0, []), (5, 175, 0, 0, 2, 0, []), (16, 176, 113, 0, 5, 0, []), (0, 179, 0, 0, 1, 10, []), (2, 181, 2, 0, 0, 0, []), (5, 182, 0, 0, 0, 0, []), (34, 183, 0, 0, 0, 0, []), (4, 184, 2, 0, 0, 1, []), (19, 187, 88, 0, 0, 0, []), (0, 190, 0, 0, 1, (-2), []), (34, 192, 0, 0, 0, 0, [])]
noncomputable def i_M_barsOf : MI := (⟨"TakenInTurnsModel", "barsOf", "(I)I"⟩, prog_14_method_74_code, 5, Option.some Jvm.ClassFile.FieldType.int, 12, 1, t_M_barsOf)
set_option maxRecDepth 100000 in
noncomputable def t_M_bars : List AI := [(2, 0, 0, 2, 0, 0, []), (2, 1, 1, 0, 0, 0, []), (31, 2, 149, 12, 182, 1, [123, 76]), (15, 5, 8, 0, 0, 0, []), (2, 8, 0, 2, 0, 0, []), (2, 9, 1, 0, 0, 0, []), (31, 10, 219, 12, 368, 1, [169, 121]), (19, 13, 9, 0, 0, 0, []), (0, 16, 0, 0, 0, (-1), []), (34, 17, 0, 0, 0, 0, [])]
noncomputable def i_M_bars : MI := (⟨"TakenInTurnsModel", "bars", "(I)I"⟩, prog_14_method_75_code, 2, Option.some Jvm.ClassFile.FieldType.int, 12, 1, t_M_bars)
set_option maxRecDepth 100000 in
noncomputable def t_M_finds : List AI := [(0, 0, 0, 0, 0, 0, []), (3, 1, 3, 0, 0, 0, []), (0, 2, 0, 0, 0, 0, []), (3, 3, 4, 0, 1, 0, []), (2, 5, 4, 0, 1, 0, []), (2, 7, 0, 2, 0, 0, []), (22, 8, 12, 2, 13, 0, [164]), (2, 11, 1, 0, 0, 0, []), (25, 12, 100, 0, 0, 0, []), (16, 13, 35, 0, 3, 0, []), (2, 16, 3, 0, 0, 0, []), (2, 17, 0, 2, 0, 0, []), (22, 18, 12, 62, 166, 0, [213]), (2, 21, 4, 0, 1, 0, []), (25, 23, 100, 0, 0, 0, []), (2, 24, 0, 2, 0, 0, []), (22, 25, 12, 61, 163, 0, [212]), (2, 28, 4, 0, 1, 0, []), (25, 30, 100, 0, 0, 0, []), (16, 31, 30, 0, 5, 0, []), (2, 34, 0, 2, 0, 0, []), (22, 35, 12, 62, 166, 0, [213]), (2, 38, 4, 0, 1, 0, []), (25, 40, 100, 0, 0, 0, []), (2, 41, 0, 2, 0, 0, []), (22, 42, 12, 61, 163, 0, [212]), (2, 45, 4, 0, 1, 0, []), (25, 47, 100, 0, 0, 0, []), (5, 48, 0, 0, 1, 0, []), (19, 49, 31, 0, 0, 0, []), (0, 52, 0, 0, 0, 0, []), (5, 53, 0, 0, 0, 0, []), (3, 54, 3, 0, 0, 0, []), (4, 55, 4, 0, 0, 1, []), (19, 58, 4, 0, 0, 0, []), (2, 61, 3, 0, 0, 0, []), (2, 62, 0, 2, 0, 0, []), (22, 63, 12, 1, 7, 0, [163]), (2, 66, 1, 0, 0, 0, []), (25, 67, 100, 0, 0, 0, []), (2, 68, 2, 0, 0, 0, []), (5, 69, 0, 0, 1, 0, []), (16, 70, 45, 0, 5, 0, []), (0, 73, 0, 0, 0, 0, []), (34, 74, 0, 0, 0, 0, []), (2, 75, 2, 0, 0, 0, []), (2, 76, 0, 2, 0, 0, []), (22, 77, 12, 1, 7, 0, [163]), (2, 80, 1, 0, 0, 0, []), (25, 81, 100, 0, 0, 0, []), (16, 82, 53, 0, 1, 0, []), (0, 85, 0, 0, 0, 1, []), (34, 86, 0, 0, 0, 0, []), (0, 87, 0, 0, 0, 0, []), (3, 88, 4, 0, 1, 0, []), (2, 90, 4, 0, 1, 0, []), (2, 92, 0, 2, 0, 0, []), (22, 93, 12, 2, 13, 0, [164]), (2, 96, 1, 0, 0, 0, []), (25, 97, 100, 0, 0, 0, []), (16, 98, 121, 0, 3, 0, []), (2, 101, 0, 2, 0, 0, []), (22, 102, 12, 56, 148, 0, [207]), (0, 105, 0, 0, 1, 8, []), (2, 107, 2, 0, 0, 0, []), (5, 108, 0, 0, 2, 0, []), (2, 109, 4, 0, 1, 0, []), (5, 111, 0, 0, 0, 0, []), (25, 112, 100, 0, 0, 0, []), (15, 113, 119, 0, 5, 0, []), (2, 116, 0, 2, 0, 0, []), (22, 117, 12, 61, 163, 0, [212]), (2, 120, 4, 0, 1, 0, []), (25, 122, 100, 0, 0, 0, []), (2, 123, 0, 2, 0, 0, []), (22, 124, 12, 4, 19, 0, [166]), (0, 127, 0, 0, 1, 8, []), (2, 129, 1, 0, 0, 0, []), (5, 130, 0, 0, 2, 0, []), (2, 131, 4, 0, 1, 0, []), (5, 133, 0, 0, 0, 0, []), (25, 134, 100, 0, 0, 0, []), (16, 135, 119, 0, 3, 0, []), (2, 138, 0, 2, 0, 0, []), (22, 139, 12, 60, 160, 0, [211]), (2, 142, 2, 0, 0, 0, []), (2, 143, 4, 0, 1, 0, []), (26, 145, 100, 0, 0, 0, []), (2, 146, 0, 2, 0, 0, []), (22, 147, 12, 61, 163, 0, [212]), (2, 150, 4, 0, 1, 0, []), (29, 152, 0, 0, 0, 0, []), (25, 153, 100, 0, 0, 0, []), (0, 154, 0, 0, 0, 1, []), (5, 155, 0, 0, 0, 0, []), (26, 156, 100, 0, 0, 0, []), (2, 157, 0, 2, 0, 0, []), (2, 158, 1, 0, 0, 0, []), (2, 159, 2, 0, 0, 0, []), (0, 160, 0, 0, 0, 1, []), (5, 161, 0, 0, 0, 0, []), (31, 162, 221, 12, 371, 2, [170, 122]), (3, 165, 5, 0, 1, 0, []), (2, 167, 0, 2, 0, 0, []), (22, 168, 12, 61, 163, 0, [212]), (2, 171, 4, 0, 1, 0, []), (29, 173, 0, 0, 0, 0, []), (25, 174, 100, 0, 0, 0, []), (2, 175, 5, 0, 1, 0, []), (15, 177, 112, 0, 0, 0, []), (0, 180, 0, 0, 0, 0, []), (19, 181, 113, 0, 0, 0, []), (0, 184, 0, 0, 0, 1, []), (5, 185, 0, 0, 1, 0, []), (26, 186, 100, 0, 0, 0, []), (2, 187, 5, 0, 1, 0, []), (15, 189, 119, 0, 0, 0, []), (0, 192, 0, 0, 0, 1, []), (34, 193, 0, 0, 0, 0, []), (4, 194, 4, 0, 0, 1, []), (19, 197, 55, 0, 0, 0, []), (0, 200, 0, 0, 0, 0, []), (34, 201, 0, 0, 0, 0, [])]
noncomputable def i_M_finds : MI := (⟨"TakenInTurnsModel", "finds", "(II)Z"⟩, prog_14_method_76_code, 6, Option.some Jvm.ClassFile.FieldType.boolean, 12, 2, t_M_finds)
set_option maxRecDepth 100000 in
noncomputable def t_M_most : List AI := [(2, 0, 2, 0, 0, 0, []), (3, 1, 3, 0, 0, 0, []), (0, 2, 0, 0, 0, 0, []), (3, 3, 4, 0, 1, 0, []), (2, 5, 4, 0, 1, 0, []), (2, 7, 0, 2, 0, 0, []), (22, 8, 12, 1, 7, 0, [163]), (2, 11, 1, 0, 0, 0, []), (25, 12, 100, 0, 0, 0, []), (16, 13, 39, 0, 3, 0, []), (2, 16, 0, 2, 0, 0, []), (22, 17, 12, 56, 148, 0, [207]), (0, 20, 0, 0, 1, 8, []), (2, 22, 4, 0, 1, 0, []), (5, 24, 0, 0, 2, 0, []), (2, 25, 0, 2, 0, 0, []), (22, 26, 12, 60, 160, 0, [211]), (2, 29, 4, 0, 1, 0, []), (25, 31, 100, 0, 0, 0, []), (5, 32, 0, 0, 0, 0, []), (25, 33, 100, 0, 0, 0, []), (2, 34, 3, 0, 0, 0, []), (16, 35, 35, 0, 3, 0, []), (2, 38, 0, 2, 0, 0, []), (22, 39, 12, 56, 148, 0, [207]), (0, 42, 0, 0, 1, 8, []), (2, 44, 4, 0, 1, 0, []), (5, 46, 0, 0, 2, 0, []), (2, 47, 0, 2, 0, 0, []), (22, 48, 12, 60, 160, 0, [211]), (2, 51, 4, 0, 1, 0, []), (25, 53, 100, 0, 0, 0, []), (5, 54, 0, 0, 0, 0, []), (25, 55, 100, 0, 0, 0, []), (19, 56, 36, 0, 0, 0, []), (2, 59, 3, 0, 0, 0, []), (3, 60, 3, 0, 0, 0, []), (4, 61, 4, 0, 0, 1, []), (19, 64, 4, 0, 0, 0, []), (0, 67, 0, 0, 0, 0, []), (3, 68, 4, 0, 1, 0, []), (2, 70, 4, 0, 1, 0, []), (2, 72, 0, 2, 0, 0, []), (22, 73, 12, 2, 13, 0, [164]), (2, 76, 1, 0, 0, 0, []), (25, 77, 100, 0, 0, 0, []), (16, 78, 92, 0, 3, 0, []), (2, 81, 0, 2, 0, 0, []), (22, 82, 12, 4, 19, 0, [166]), (0, 85, 0, 0, 1, 8, []), (2, 87, 1, 0, 0, 0, []), (5, 88, 0, 0, 2, 0, []), (2, 89, 4, 0, 1, 0, []), (5, 91, 0, 0, 0, 0, []), (25, 92, 100, 0, 0, 0, []), (2, 93, 0, 2, 0, 0, []), (22, 94, 12, 61, 163, 0, [212]), (2, 97, 4, 0, 1, 0, []), (25, 99, 100, 0, 0, 0, []), (5, 100, 0, 0, 1, 0, []), (3, 101, 5, 0, 1, 0, []), (2, 103, 5, 0, 1, 0, []), (15, 105, 81, 0, 5, 0, []), (2, 108, 0, 2, 0, 0, []), (22, 109, 12, 4, 19, 0, [166]), (0, 112, 0, 0, 1, 8, []), (2, 114, 1, 0, 0, 0, []), (5, 115, 0, 0, 2, 0, []), (2, 116, 4, 0, 1, 0, []), (5, 118, 0, 0, 0, 0, []), (25, 119, 100, 0, 0, 0, []), (2, 120, 2, 0, 0, 0, []), (5, 121, 0, 0, 2, 0, []), (2, 122, 0, 2, 0, 0, []), (2, 123, 1, 0, 0, 0, []), (2, 124, 4, 0, 1, 0, []), (31, 126, 200, 12, 323, 2, [155, 107]), (5, 129, 0, 0, 1, 0, []), (2, 130, 5, 0, 1, 0, []), (6, 132, 0, 0, 0, 0, []), (19, 133, 82, 0, 0, 0, []), (2, 136, 3, 0, 0, 0, []), (3, 137, 6, 0, 1, 0, []), (2, 139, 6, 0, 1, 0, []), (2, 141, 3, 0, 0, 0, []), (16, 142, 88, 0, 3, 0, []), (2, 145, 6, 0, 1, 0, []), (19, 147, 89, 0, 0, 0, []), (2, 150, 3, 0, 0, 0, []), (3, 151, 3, 0, 0, 0, []), (4, 152, 4, 0, 0, 1, []), (19, 155, 41, 0, 0, 0, []), (2, 158, 3, 0, 0, 0, []), (34, 159, 0, 0, 0, 0, [])]
noncomputable def i_M_most : MI := (⟨"TakenInTurnsModel", "most", "(II)I"⟩, prog_14_method_77_code, 7, Option.some Jvm.ClassFile.FieldType.int, 12, 2, t_M_most)
set_option maxRecDepth 100000 in
noncomputable def t_M_parted : List AI := [(2, 0, 0, 2, 0, 0, []), (2, 1, 1, 0, 0, 0, []), (31, 2, 149, 12, 182, 1, [123, 76]), (15, 5, 12, 0, 0, 0, []), (2, 8, 2, 0, 0, 0, []), (0, 9, 0, 0, 0, (-1), []), (16, 10, 12, 0, 2, 0, []), (2, 13, 3, 0, 0, 0, []), (0, 14, 0, 0, 0, 0, []), (0, 15, 0, 0, 0, 1, []), (32, 16, 148, 0, 178, 3, [122, 23]), (15, 19, 14, 0, 1, 0, []), (0, 22, 0, 0, 0, (-1), []), (34, 23, 0, 0, 0, 0, []), (2, 24, 0, 2, 0, 0, []), (22, 25, 12, 3, 16, 0, [165]), (2, 28, 1, 0, 0, 0, []), (25, 29, 100, 0, 0, 0, []), (0, 30, 0, 0, 0, 1, []), (16, 31, 25, 0, 1, 0, []), (2, 34, 0, 2, 0, 0, []), (2, 35, 1, 0, 0, 0, []), (31, 36, 219, 12, 368, 1, [169, 121]), (0, 39, 0, 0, 1, (-2), []), (16, 41, 27, 0, 0, 0, []), (0, 44, 0, 0, 1, (-5), []), (34, 46, 0, 0, 0, 0, []), (0, 47, 0, 0, 0, 0, []), (3, 48, 4, 0, 1, 0, []), (2, 50, 4, 0, 1, 0, []), (2, 52, 0, 2, 0, 0, []), (22, 53, 12, 1, 7, 0, [163]), (2, 56, 1, 0, 0, 0, []), (25, 57, 100, 0, 0, 0, []), (16, 58, 45, 0, 3, 0, []), (2, 61, 0, 2, 0, 0, []), (2, 62, 1, 0, 0, 0, []), (2, 63, 4, 0, 1, 0, []), (31, 65, 199, 12, 317, 2, [153, 105]), (0, 68, 0, 0, 1, 60, []), (16, 70, 43, 0, 0, 0, []), (0, 73, 0, 0, 1, (-5), []), (34, 75, 0, 0, 0, 0, []), (4, 76, 4, 0, 0, 1, []), (19, 79, 29, 0, 0, 0, []), (0, 82, 0, 0, 1, 60, []), (3, 84, 4, 0, 1, 0, []), (0, 86, 0, 0, 0, 0, []), (3, 87, 5, 0, 1, 0, []), (2, 89, 4, 0, 1, 0, []), (15, 91, 148, 0, 5, 0, []), (0, 94, 0, 0, 0, 0, []), (3, 95, 6, 0, 1, 0, []), (2, 97, 6, 0, 1, 0, []), (2, 99, 0, 2, 0, 0, []), (22, 100, 12, 2, 13, 0, [164]), (2, 103, 1, 0, 0, 0, []), (25, 104, 100, 0, 0, 0, []), (16, 105, 87, 0, 3, 0, []), (2, 108, 0, 2, 0, 0, []), (22, 109, 12, 61, 163, 0, [212]), (2, 112, 6, 0, 1, 0, []), (0, 114, 0, 0, 0, 0, []), (26, 115, 100, 0, 0, 0, []), (2, 116, 0, 2, 0, 0, []), (22, 117, 12, 62, 166, 0, [213]), (2, 120, 6, 0, 1, 0, []), (2, 122, 0, 2, 0, 0, []), (2, 123, 1, 0, 0, 0, []), (2, 124, 6, 0, 1, 0, []), (31, 126, 200, 12, 323, 2, [155, 107]), (2, 129, 0, 2, 0, 0, []), (22, 130, 12, 4, 19, 0, [166]), (0, 133, 0, 0, 1, 8, []), (2, 135, 1, 0, 0, 0, []), (5, 136, 0, 0, 2, 0, []), (2, 137, 6, 0, 1, 0, []), (5, 139, 0, 0, 0, 0, []), (25, 140, 100, 0, 0, 0, []), (2, 141, 4, 0, 1, 0, []), (0, 143, 0, 0, 0, 1, []), (5, 144, 0, 0, 1, 0, []), (5, 145, 0, 0, 2, 0, []), (5, 146, 0, 0, 1, 0, []), (26, 147, 100, 0, 0, 0, []), (4, 148, 6, 0, 0, 1, []), (19, 151, 53, 0, 0, 0, []), (2, 154, 0, 2, 0, 0, []), (2, 155, 1, 0, 0, 0, []), (0, 156, 0, 0, 0, 0, []), (31, 157, 221, 12, 371, 2, [170, 122]), (30, 160, 0, 0, 0, 0, []), (2, 161, 0, 2, 0, 0, []), (2, 162, 1, 0, 0, 0, []), (2, 163, 4, 0, 1, 0, []), (31, 165, 222, 12, 374, 2, [171, 123]), (3, 168, 6, 0, 1, 0, []), (0, 170, 0, 0, 0, 0, []), (3, 171, 7, 0, 1, 0, []), (0, 173, 0, 0, 0, 0, []), (3, 174, 8, 0, 1, 0, []), (2, 176, 8, 0, 1, 0, []), (2, 178, 0, 2, 0, 0, []), (22, 179, 12, 1, 7, 0, [163]), (2, 182, 1, 0, 0, 0, []), (25, 183, 100, 0, 0, 0, []), (16, 184, 133, 0, 3, 0, []), (2, 187, 0, 2, 0, 0, []), (22, 188, 12, 56, 148, 0, [207]), (0, 191, 0, 0, 1, 8, []), (2, 193, 8, 0, 1, 0, []), (5, 195, 0, 0, 2, 0, []), (2, 196, 0, 2, 0, 0, []), (22, 197, 12, 60, 160, 0, [211]), (2, 200, 8, 0, 1, 0, []), (25, 202, 100, 0, 0, 0, []), (5, 203, 0, 0, 0, 0, []), (29, 204, 0, 0, 0, 0, []), (25, 205, 100, 0, 0, 0, []), (2, 206, 6, 0, 1, 0, []), (5, 208, 0, 0, 1, 0, []), (26, 209, 100, 0, 0, 0, []), (0, 210, 0, 0, 1, 10, []), (2, 212, 7, 0, 1, 0, []), (5, 214, 0, 0, 2, 0, []), (2, 215, 0, 2, 0, 0, []), (22, 216, 12, 60, 160, 0, [211]), (2, 219, 8, 0, 1, 0, []), (25, 221, 100, 0, 0, 0, []), (5, 222, 0, 0, 0, 0, []), (3, 223, 7, 0, 1, 0, []), (4, 225, 8, 0, 0, 1, []), (19, 228, 101, 0, 0, 0, []), (2, 231, 5, 0, 1, 0, []), (2, 233, 2, 0, 0, 0, []), (16, 234, 142, 0, 1, 0, []), (2, 237, 3, 0, 0, 0, []), (15, 238, 140, 0, 1, 0, []), (2, 241, 7, 0, 1, 0, []), (19, 243, 141, 0, 0, 0, []), (2, 246, 6, 0, 1, 0, []), (34, 248, 0, 0, 0, 0, []), (4, 249, 5, 0, 0, 1, []), (2, 252, 4, 0, 1, 0, []), (2, 254, 6, 0, 1, 0, []), (5, 256, 0, 0, 1, 0, []), (3, 257, 4, 0, 1, 0, []), (19, 259, 49, 0, 0, 0, []), (2, 262, 2, 0, 0, 0, []), (0, 263, 0, 0, 0, (-1), []), (16, 264, 153, 0, 1, 0, []), (2, 267, 5, 0, 1, 0, []), (19, 269, 154, 0, 0, 0, []), (0, 272, 0, 0, 0, (-1), []), (34, 273, 0, 0, 0, 0, [])]
noncomputable def i_M_parted : MI := (⟨"TakenInTurnsModel", "parted", "(III)I"⟩, prog_14_method_78_code, 9, Option.some Jvm.ClassFile.FieldType.int, 12, 3, t_M_parted)
set_option maxRecDepth 100000 in
noncomputable def t_M_pointsOf : List AI := [(0, 0, 0, 0, 0, 0, []), (3, 1, 3, 0, 0, 0, []), (0, 2, 0, 0, 0, 0, []), (3, 3, 4, 0, 1, 0, []), (2, 5, 4, 0, 1, 0, []), (2, 7, 0, 2, 0, 0, []), (22, 8, 12, 2, 13, 0, [164]), (2, 11, 1, 0, 0, 0, []), (25, 12, 100, 0, 0, 0, []), (16, 13, 38, 0, 3, 0, []), (2, 16, 3, 0, 0, 0, []), (2, 17, 0, 2, 0, 0, []), (22, 18, 12, 33, 93, 0, [189]), (0, 21, 0, 0, 1, 8, []), (2, 23, 2, 0, 0, 0, []), (5, 24, 0, 0, 2, 0, []), (2, 25, 4, 0, 1, 0, []), (5, 27, 0, 0, 0, 0, []), (25, 28, 100, 0, 0, 0, []), (0, 29, 0, 0, 1, 8, []), (2, 31, 0, 2, 0, 0, []), (22, 32, 12, 8, 31, 0, [170]), (0, 35, 0, 0, 1, 56, []), (2, 37, 1, 0, 0, 0, []), (5, 38, 0, 0, 2, 0, []), (0, 39, 0, 0, 1, 8, []), (2, 41, 2, 0, 0, 0, []), (5, 42, 0, 0, 2, 0, []), (5, 43, 0, 0, 0, 0, []), (2, 44, 4, 0, 1, 0, []), (5, 46, 0, 0, 0, 0, []), (25, 47, 100, 0, 0, 0, []), (5, 48, 0, 0, 1, 0, []), (5, 49, 0, 0, 2, 0, []), (5, 50, 0, 0, 0, 0, []), (3, 51, 3, 0, 0, 0, []), (4, 52, 4, 0, 0, 1, []), (19, 55, 4, 0, 0, 0, []), (2, 58, 3, 0, 0, 0, []), (34, 59, 0, 0, 0, 0, [])]
noncomputable def i_M_pointsOf : MI := (⟨"TakenInTurnsModel", "pointsOf", "(II)I"⟩, prog_14_method_79_code, 5, Option.some Jvm.ClassFile.FieldType.int, 12, 2, t_M_pointsOf)
set_option maxRecDepth 100000 in
noncomputable def t_M_order : List AI := [(2, 0, 0, 2, 0, 0, []), (2, 1, 1, 0, 0, 0, []), (31, 2, 149, 12, 182, 1, [123, 76]), (15, 5, 6, 0, 1, 0, []), (0, 8, 0, 0, 0, (-1), []), (34, 9, 0, 0, 0, 0, []), (2, 10, 0, 2, 0, 0, []), (2, 11, 1, 0, 0, 0, []), (2, 12, 2, 0, 0, 0, []), (31, 13, 166, 12, 231, 2, [134, 87]), (15, 16, 20, 0, 0, 0, []), (2, 19, 0, 2, 0, 0, []), (22, 20, 12, 20, 377, 0, [225]), (15, 23, 18, 0, 0, 0, []), (2, 26, 0, 2, 0, 0, []), (22, 27, 12, 21, 380, 0, [226]), (2, 30, 1, 0, 0, 0, []), (16, 31, 20, 0, 1, 0, []), (0, 34, 0, 0, 0, 1, []), (19, 35, 21, 0, 0, 0, []), (0, 38, 0, 0, 0, 0, []), (3, 39, 3, 0, 0, 0, []), (0, 40, 0, 0, 0, 0, []), (3, 41, 4, 0, 1, 0, []), (2, 43, 4, 0, 1, 0, []), (2, 45, 0, 2, 0, 0, []), (22, 46, 12, 20, 377, 0, [225]), (16, 49, 42, 0, 3, 0, []), (2, 52, 3, 0, 0, 0, []), (15, 53, 38, 0, 0, 0, []), (2, 56, 0, 2, 0, 0, []), (22, 57, 12, 22, 62, 0, [180]), (2, 60, 4, 0, 1, 0, []), (25, 62, 100, 0, 0, 0, []), (2, 63, 2, 0, 0, 0, []), (16, 64, 38, 0, 0, 0, []), (0, 67, 0, 0, 0, 1, []), (19, 68, 39, 0, 0, 0, []), (0, 71, 0, 0, 0, 0, []), (3, 72, 3, 0, 0, 0, []), (4, 73, 4, 0, 0, 1, []), (19, 76, 24, 0, 0, 0, []), (2, 79, 3, 0, 0, 0, []), (15, 80, 46, 0, 1, 0, []), (0, 83, 0, 0, 0, (-1), []), (34, 84, 0, 0, 0, 0, []), (2, 85, 0, 2, 0, 0, []), (22, 86, 12, 20, 377, 0, [225]), (0, 89, 0, 0, 1, 6, []), (16, 91, 52, 0, 1, 0, []), (0, 94, 0, 0, 1, (-3), []), (34, 96, 0, 0, 0, 0, []), (2, 97, 0, 2, 0, 0, []), (2, 98, 1, 0, 0, 0, []), (23, 99, 12, 21, 380, 0, [226]), (2, 102, 0, 2, 0, 0, []), (22, 103, 12, 22, 62, 0, [180]), (2, 106, 0, 2, 0, 0, []), (22, 107, 12, 20, 377, 0, [225]), (2, 110, 2, 0, 0, 0, []), (26, 111, 100, 0, 0, 0, []), (2, 112, 0, 2, 0, 0, []), (28, 113, 0, 0, 0, 0, []), (22, 114, 12, 20, 377, 0, [225]), (0, 117, 0, 0, 0, 1, []), (5, 118, 0, 0, 0, 0, []), (23, 119, 12, 20, 377, 0, [225]), (2, 122, 0, 2, 0, 0, []), (22, 123, 12, 20, 377, 0, [225]), (34, 126, 0, 0, 0, 0, [])]
noncomputable def i_M_order : MI := (⟨"TakenInTurnsModel", "order", "(II)I"⟩, prog_14_method_80_code, 5, Option.some Jvm.ClassFile.FieldType.int, 12, 2, t_M_order)
set_option maxRecDepth 100000 in
noncomputable def t_M_even : List AI := [(2, 0, 0, 2, 0, 0, []), (22, 1, 12, 20, 377, 0, [225]), (15, 4, 5, 0, 1, 0, []), (0, 7, 0, 0, 0, (-1), []), (34, 8, 0, 0, 0, 0, []), (2, 9, 0, 2, 0, 0, []), (22, 10, 12, 21, 380, 0, [226]), (3, 13, 1, 0, 0, 0, []), (0, 14, 0, 0, 0, 0, []), (3, 15, 2, 0, 0, 0, []), (2, 16, 2, 0, 0, 0, []), (2, 17, 0, 2, 0, 0, []), (22, 18, 12, 20, 377, 0, [225]), (16, 21, 50, 0, 3, 0, []), (2, 24, 0, 2, 0, 0, []), (2, 25, 1, 0, 0, 0, []), (2, 26, 0, 2, 0, 0, []), (22, 27, 12, 22, 62, 0, [180]), (2, 30, 2, 0, 0, 0, []), (25, 31, 100, 0, 0, 0, []), (31, 32, 166, 12, 231, 2, [134, 87]), (30, 35, 0, 0, 0, 0, []), (2, 36, 0, 2, 0, 0, []), (2, 37, 1, 0, 0, 0, []), (0, 38, 0, 0, 0, 0, []), (31, 39, 169, 12, 234, 2, [135, 88]), (0, 42, 0, 0, 0, 0, []), (3, 43, 3, 0, 0, 0, []), (2, 44, 3, 0, 0, 0, []), (2, 45, 0, 2, 0, 0, []), (22, 46, 12, 1, 7, 0, [163]), (2, 49, 1, 0, 0, 0, []), (25, 50, 100, 0, 0, 0, []), (16, 51, 48, 0, 3, 0, []), (2, 54, 0, 2, 0, 0, []), (22, 55, 12, 63, 169, 0, [214]), (0, 58, 0, 0, 1, 7, []), (2, 60, 2, 0, 0, 0, []), (5, 61, 0, 0, 2, 0, []), (2, 62, 3, 0, 0, 0, []), (5, 63, 0, 0, 0, 0, []), (2, 64, 0, 2, 0, 0, []), (2, 65, 1, 0, 0, 0, []), (2, 66, 3, 0, 0, 0, []), (31, 67, 224, 12, 383, 2, [172, 124]), (26, 70, 100, 0, 0, 0, []), (4, 71, 3, 0, 0, 1, []), (19, 74, 28, 0, 0, 0, []), (4, 77, 2, 0, 0, 1, []), (19, 80, 10, 0, 0, 0, []), (0, 83, 0, 0, 0, 0, []), (3, 84, 2, 0, 0, 0, []), (0, 85, 0, 0, 0, 0, []), (3, 86, 3, 0, 0, 0, []), (0, 87, 0, 0, 0, 1, []), (3, 88, 4, 0, 1, 0, []), (0, 90, 0, 0, 0, 1, []), (3, 91, 5, 0, 1, 0, []), (2, 93, 5, 0, 1, 0, []), (0, 95, 0, 0, 0, 1, []), (2, 96, 0, 2, 0, 0, []), (22, 97, 12, 20, 377, 0, [225]), (5, 100, 0, 0, 6, 0, []), (16, 101, 156, 0, 3, 0, []), (0, 104, 0, 0, 0, 0, []), (3, 105, 6, 0, 1, 0, []), (0, 107, 0, 0, 0, 0, []), (3, 108, 7, 0, 1, 0, []), (2, 110, 7, 0, 1, 0, []), (2, 112, 0, 2, 0, 0, []), (22, 113, 12, 20, 377, 0, [225]), (16, 116, 82, 0, 3, 0, []), (2, 119, 6, 0, 1, 0, []), (2, 121, 5, 0, 1, 0, []), (2, 123, 7, 0, 1, 0, []), (5, 125, 0, 0, 7, 0, []), (0, 126, 0, 0, 0, 1, []), (5, 127, 0, 0, 3, 0, []), (5, 128, 0, 0, 0, 0, []), (3, 129, 6, 0, 1, 0, []), (4, 131, 7, 0, 0, 1, []), (19, 134, 68, 0, 0, 0, []), (0, 137, 386, 0, 4, 1000000, [7]), (3, 140, 7, 0, 1, 0, []), (0, 142, 0, 0, 0, 0, []), (3, 143, 8, 0, 1, 0, []), (2, 145, 8, 0, 1, 0, []), (2, 147, 0, 2, 0, 0, []), (22, 148, 12, 1, 7, 0, [163]), (2, 151, 1, 0, 0, 0, []), (25, 152, 100, 0, 0, 0, []), (16, 153, 131, 0, 3, 0, []), (0, 156, 0, 0, 0, 0, []), (3, 157, 9, 0, 1, 0, []), (0, 159, 0, 0, 0, 0, []), (3, 160, 10, 0, 1, 0, []), (2, 162, 10, 0, 1, 0, []), (2, 164, 0, 2, 0, 0, []), (22, 165, 12, 20, 377, 0, [225]), (16, 168, 122, 0, 3, 0, []), (2, 171, 9, 0, 1, 0, []), (2, 173, 5, 0, 1, 0, []), (2, 175, 10, 0, 1, 0, []), (5, 177, 0, 0, 7, 0, []), (0, 178, 0, 0, 0, 1, []), (5, 179, 0, 0, 3, 0, []), (0, 180, 0, 0, 0, 1, []), (16, 181, 117, 0, 1, 0, []), (2, 184, 0, 2, 0, 0, []), (22, 185, 12, 63, 169, 0, [214]), (0, 188, 0, 0, 1, 7, []), (2, 190, 10, 0, 1, 0, []), (5, 192, 0, 0, 2, 0, []), (2, 193, 8, 0, 1, 0, []), (5, 195, 0, 0, 0, 0, []), (25, 196, 100, 0, 0, 0, []), (19, 197, 118, 0, 0, 0, []), (0, 200, 0, 0, 0, 0, []), (5, 201, 0, 0, 0, 0, []), (3, 202, 9, 0, 1, 0, []), (4, 204, 10, 0, 0, 1, []), (19, 207, 96, 0, 0, 0, []), (2, 210, 9, 0, 1, 0, []), (2, 212, 7, 0, 1, 0, []), (16, 214, 127, 0, 3, 0, []), (2, 217, 9, 0, 1, 0, []), (19, 219, 128, 0, 0, 0, []), (2, 222, 7, 0, 1, 0, []), (3, 224, 7, 0, 1, 0, []), (4, 226, 8, 0, 0, 1, []), (19, 229, 86, 0, 0, 0, []), (2, 232, 7, 0, 1, 0, []), (2, 234, 4, 0, 1, 0, []), (5, 236, 0, 0, 2, 0, []), (2, 237, 3, 0, 0, 0, []), (2, 238, 6, 0, 1, 0, []), (5, 240, 0, 0, 2, 0, []), (5, 241, 0, 0, 1, 0, []), (3, 242, 8, 0, 1, 0, []), (2, 244, 2, 0, 0, 0, []), (15, 245, 148, 0, 0, 0, []), (2, 248, 8, 0, 1, 0, []), (15, 250, 148, 0, 4, 0, []), (2, 253, 8, 0, 1, 0, []), (15, 255, 154, 0, 1, 0, []), (2, 258, 6, 0, 1, 0, []), (2, 260, 4, 0, 1, 0, []), (16, 262, 154, 0, 3, 0, []), (2, 265, 5, 0, 1, 0, []), (3, 267, 2, 0, 0, 0, []), (2, 268, 7, 0, 1, 0, []), (3, 270, 3, 0, 0, 0, []), (2, 271, 6, 0, 1, 0, []), (3, 273, 4, 0, 1, 0, []), (4, 275, 5, 0, 0, 1, []), (19, 278, 58, 0, 0, 0, []), (2, 281, 0, 2, 0, 0, []), (0, 282, 0, 0, 0, 0, []), (23, 283, 12, 20, 377, 0, [225]), (2, 286, 3, 0, 0, 0, []), (11, 287, 0, 0, 0, 0, []), (2, 288, 4, 0, 1, 0, []), (11, 290, 0, 0, 0, 0, []), (32, 291, 184, 0, 264, 2, [142, 24]), (3, 294, 5, 1, 1, 0, []), (2, 296, 0, 2, 0, 0, []), (2, 297, 3, 0, 0, 0, []), (11, 298, 0, 0, 0, 0, []), (2, 299, 5, 1, 1, 0, []), (8, 301, 0, 0, 0, 0, []), (23, 302, 12, 23, 67, 0, [181]), (2, 305, 0, 2, 0, 0, []), (2, 306, 4, 0, 1, 0, []), (11, 308, 0, 0, 0, 0, []), (2, 309, 5, 1, 1, 0, []), (8, 311, 0, 0, 0, 0, []), (23, 312, 12, 24, 71, 0, [182]), (2, 315, 2, 0, 0, 0, []), (34, 316, 0, 0, 0, 0, [])]
noncomputable def i_M_even : MI := (⟨"TakenInTurnsModel", "even", "()I"⟩, prog_14_method_81_code, 11, Option.some Jvm.ClassFile.FieldType.int, 12, 0, t_M_even)
set_option maxRecDepth 100000 in
noncomputable def t_M_evenIs : List AI := [(2, 0, 0, 2, 0, 0, []), (22, 1, 12, 23, 67, 0, [181]), (1, 4, 0, 0, 0, 0, []), (14, 5, 10, 0, 2, 0, []), (15, 6, 10, 0, 2, 0, []), (2, 9, 1, 0, 0, 0, []), (0, 10, 0, 0, 0, 0, []), (0, 11, 0, 0, 0, 1, []), (32, 12, 148, 0, 178, 3, [122, 23]), (15, 15, 12, 0, 1, 0, []), (0, 18, 0, 0, 0, (-1), []), (19, 19, 20, 0, 0, 0, []), (2, 22, 1, 0, 0, 0, []), (15, 23, 17, 0, 1, 0, []), (2, 26, 0, 2, 0, 0, []), (22, 27, 12, 23, 67, 0, [181]), (19, 30, 19, 0, 0, 0, []), (2, 33, 0, 2, 0, 0, []), (22, 34, 12, 24, 71, 0, [182]), (12, 37, 0, 0, 0, 0, []), (34, 38, 0, 0, 0, 0, [])]
noncomputable def i_M_evenIs : MI := (⟨"TakenInTurnsModel", "evenIs", "(I)I"⟩, prog_14_method_82_code, 2, Option.some Jvm.ClassFile.FieldType.int, 12, 1, t_M_evenIs)
set_option maxRecDepth 100000 in
noncomputable def t_M_swap : List AI := [(2, 0, 0, 2, 0, 0, []), (2, 1, 1, 0, 0, 0, []), (31, 2, 149, 12, 182, 1, [123, 76]), (15, 5, 9, 0, 0, 0, []), (2, 8, 2, 0, 0, 0, []), (0, 9, 0, 0, 0, 0, []), (0, 10, 0, 0, 0, 1, []), (32, 11, 148, 0, 178, 3, [122, 23]), (15, 14, 11, 0, 1, 0, []), (0, 17, 0, 0, 0, (-1), []), (34, 18, 0, 0, 0, 0, []), (2, 19, 0, 2, 0, 0, []), (2, 20, 0, 2, 0, 0, []), (22, 21, 12, 1, 7, 0, [163]), (2, 24, 1, 0, 0, 0, []), (25, 25, 100, 0, 0, 0, []), (31, 26, 188, 12, 268, 1, [143, 95]), (0, 29, 0, 0, 0, (-1), []), (3, 30, 3, 0, 0, 0, []), (0, 31, 0, 0, 0, 0, []), (3, 32, 4, 0, 1, 0, []), (0, 34, 0, 0, 0, 1, []), (3, 35, 5, 0, 1, 0, []), (2, 37, 5, 0, 1, 0, []), (15, 39, 85, 0, 0, 0, []), (2, 42, 0, 2, 0, 0, []), (2, 43, 1, 0, 0, 0, []), (0, 44, 0, 0, 0, 1, []), (31, 45, 169, 12, 234, 2, [135, 88]), (0, 48, 0, 0, 0, 0, []), (3, 49, 6, 0, 1, 0, []), (0, 51, 386, 0, 4, 1000000, [7]), (3, 54, 7, 0, 1, 0, []), (0, 56, 0, 0, 0, 0, []), (3, 57, 8, 0, 1, 0, []), (2, 59, 8, 0, 1, 0, []), (2, 61, 0, 2, 0, 0, []), (22, 62, 12, 1, 7, 0, [163]), (2, 65, 1, 0, 0, 0, []), (25, 66, 100, 0, 0, 0, []), (16, 67, 62, 0, 3, 0, []), (2, 70, 0, 2, 0, 0, []), (2, 71, 1, 0, 0, 0, []), (2, 72, 8, 0, 1, 0, []), (31, 74, 224, 12, 383, 2, [172, 124]), (3, 77, 9, 0, 1, 0, []), (2, 79, 9, 0, 1, 0, []), (2, 81, 6, 0, 1, 0, []), (16, 83, 51, 0, 5, 0, []), (2, 86, 9, 0, 1, 0, []), (19, 88, 52, 0, 0, 0, []), (2, 91, 6, 0, 1, 0, []), (3, 93, 6, 0, 1, 0, []), (2, 95, 9, 0, 1, 0, []), (2, 97, 7, 0, 1, 0, []), (16, 99, 58, 0, 3, 0, []), (2, 102, 9, 0, 1, 0, []), (19, 104, 59, 0, 0, 0, []), (2, 107, 7, 0, 1, 0, []), (3, 109, 7, 0, 1, 0, []), (4, 111, 8, 0, 0, 1, []), (19, 114, 35, 0, 0, 0, []), (2, 117, 3, 0, 0, 0, []), (15, 118, 69, 0, 2, 0, []), (2, 121, 6, 0, 1, 0, []), (2, 123, 7, 0, 1, 0, []), (5, 125, 0, 0, 1, 0, []), (2, 126, 4, 0, 1, 0, []), (16, 128, 77, 0, 3, 0, []), (2, 131, 0, 2, 0, 0, []), (2, 132, 1, 0, 0, 0, []), (31, 133, 167, 12, 387, 1, [173, 125]), (3, 136, 3, 0, 0, 0, []), (2, 137, 6, 0, 1, 0, []), (2, 139, 7, 0, 1, 0, []), (5, 141, 0, 0, 1, 0, []), (3, 142, 4, 0, 1, 0, []), (2, 144, 0, 2, 0, 0, []), (2, 145, 0, 2, 0, 0, []), (22, 146, 12, 1, 7, 0, [163]), (2, 149, 1, 0, 0, 0, []), (25, 150, 100, 0, 0, 0, []), (31, 151, 187, 12, 272, 1, [144, 96]), (3, 154, 5, 0, 1, 0, []), (19, 156, 23, 0, 0, 0, []), (2, 159, 2, 0, 0, 0, []), (15, 160, 89, 0, 1, 0, []), (2, 163, 3, 0, 0, 0, []), (19, 164, 90, 0, 0, 0, []), (2, 167, 4, 0, 1, 0, []), (34, 169, 0, 0, 0, 0, [])]
noncomputable def i_M_swap : MI := (⟨"TakenInTurnsModel", "swap", "(II)I"⟩, prog_14_method_83_code, 10, Option.some Jvm.ClassFile.FieldType.int, 12, 2, t_M_swap)
set_option maxRecDepth 100000 in
noncomputable def t_M_years : List AI := [(2, 0, 0, 2, 0, 0, []), (2, 1, 1, 0, 0, 0, []), (31, 2, 149, 12, 182, 1, [123, 76]), (15, 5, 6, 0, 1, 0, []), (0, 8, 0, 0, 0, (-1), []), (34, 9, 0, 0, 0, 0, []), (2, 10, 0, 2, 0, 0, []), (2, 11, 1, 0, 0, 0, []), (2, 12, 2, 0, 0, 0, []), (31, 13, 166, 12, 231, 2, [134, 87]), (15, 16, 26, 0, 0, 0, []), (2, 19, 3, 0, 0, 0, []), (0, 20, 0, 0, 0, 1, []), (0, 21, 0, 0, 1, 9, []), (32, 23, 148, 0, 178, 3, [122, 23]), (15, 26, 26, 0, 0, 0, []), (2, 29, 4, 0, 1, 0, []), (0, 31, 0, 0, 0, (-1), []), (2, 32, 0, 2, 0, 0, []), (22, 33, 12, 1, 7, 0, [163]), (2, 36, 1, 0, 0, 0, []), (25, 37, 100, 0, 0, 0, []), (0, 38, 0, 0, 0, 1, []), (5, 39, 0, 0, 1, 0, []), (32, 40, 148, 0, 178, 3, [122, 23]), (15, 43, 28, 0, 1, 0, []), (0, 46, 0, 0, 0, (-1), []), (34, 47, 0, 0, 0, 0, []), (0, 48, 0, 0, 0, 0, []), (3, 49, 5, 0, 1, 0, []), (2, 51, 5, 0, 1, 0, []), (0, 53, 0, 0, 1, 7, []), (16, 55, 40, 0, 3, 0, []), (2, 58, 0, 2, 0, 0, []), (22, 59, 12, 64, 172, 0, [215]), (2, 62, 5, 0, 1, 0, []), (0, 64, 0, 0, 0, 0, []), (26, 65, 100, 0, 0, 0, []), (4, 66, 5, 0, 0, 1, []), (19, 69, 30, 0, 0, 0, []), (0, 72, 0, 0, 0, 0, []), (3, 73, 5, 0, 1, 0, []), (2, 75, 5, 0, 1, 0, []), (2, 77, 3, 0, 0, 0, []), (16, 78, 126, 0, 3, 0, []), (2, 81, 0, 2, 0, 0, []), (2, 82, 1, 0, 0, 0, []), (0, 83, 0, 0, 0, 0, []), (31, 84, 169, 12, 234, 2, [135, 88]), (0, 87, 0, 0, 0, 0, []), (3, 88, 6, 0, 1, 0, []), (2, 90, 6, 0, 1, 0, []), (2, 92, 0, 2, 0, 0, []), (22, 93, 12, 1, 7, 0, [163]), (2, 96, 1, 0, 0, 0, []), (25, 97, 100, 0, 0, 0, []), (16, 98, 70, 0, 3, 0, []), (2, 101, 0, 2, 0, 0, []), (22, 102, 12, 64, 172, 0, [215]), (2, 105, 6, 0, 1, 0, []), (29, 107, 0, 0, 0, 0, []), (25, 108, 100, 0, 0, 0, []), (2, 109, 0, 2, 0, 0, []), (2, 110, 1, 0, 0, 0, []), (2, 111, 6, 0, 1, 0, []), (31, 113, 224, 12, 383, 2, [172, 124]), (5, 116, 0, 0, 0, 0, []), (26, 117, 100, 0, 0, 0, []), (4, 118, 6, 0, 0, 1, []), (19, 121, 51, 0, 0, 0, []), (0, 124, 0, 0, 0, 1, []), (3, 125, 6, 0, 1, 0, []), (2, 127, 6, 0, 1, 0, []), (2, 129, 0, 2, 0, 0, []), (22, 130, 12, 1, 7, 0, [163]), (2, 133, 1, 0, 0, 0, []), (25, 134, 100, 0, 0, 0, []), (16, 135, 124, 0, 3, 0, []), (2, 138, 0, 2, 0, 0, []), (22, 139, 12, 32, 90, 0, [188]), (2, 142, 6, 0, 1, 0, []), (25, 144, 100, 0, 0, 0, []), (3, 145, 7, 0, 1, 0, []), (2, 147, 6, 0, 1, 0, []), (3, 149, 8, 0, 1, 0, []), (2, 151, 8, 0, 1, 0, []), (15, 153, 117, 0, 5, 0, []), (2, 156, 0, 2, 0, 0, []), (22, 157, 12, 64, 172, 0, [215]), (2, 160, 0, 2, 0, 0, []), (22, 161, 12, 32, 90, 0, [188]), (2, 164, 8, 0, 1, 0, []), (15, 166, 97, 0, 5, 0, []), (2, 169, 8, 0, 1, 0, []), (0, 171, 0, 0, 0, 1, []), (5, 172, 0, 0, 1, 0, []), (19, 173, 98, 0, 0, 0, []), (0, 176, 0, 0, 0, 0, []), (25, 177, 100, 0, 0, 0, []), (25, 178, 100, 0, 0, 0, []), (2, 179, 0, 2, 0, 0, []), (22, 180, 12, 64, 172, 0, [215]), (2, 183, 7, 0, 1, 0, []), (25, 185, 100, 0, 0, 0, []), (16, 186, 117, 0, 5, 0, []), (2, 189, 0, 2, 0, 0, []), (22, 190, 12, 32, 90, 0, [188]), (2, 193, 8, 0, 1, 0, []), (2, 195, 0, 2, 0, 0, []), (22, 196, 12, 32, 90, 0, [188]), (2, 199, 8, 0, 1, 0, []), (0, 201, 0, 0, 0, 1, []), (5, 202, 0, 0, 1, 0, []), (25, 203, 100, 0, 0, 0, []), (26, 204, 100, 0, 0, 0, []), (4, 205, 8, 0, 0, (-1), []), (19, 208, 85, 0, 0, 0, []), (2, 211, 0, 2, 0, 0, []), (22, 212, 12, 32, 90, 0, [188]), (2, 215, 8, 0, 1, 0, []), (2, 217, 7, 0, 1, 0, []), (26, 219, 100, 0, 0, 0, []), (4, 220, 6, 0, 0, 1, []), (19, 223, 72, 0, 0, 0, []), (4, 226, 5, 0, 0, 1, []), (19, 229, 42, 0, 0, 0, []), (2, 232, 4, 0, 1, 0, []), (0, 234, 0, 0, 0, (-1), []), (16, 235, 133, 0, 1, 0, []), (2, 238, 0, 2, 0, 0, []), (2, 239, 1, 0, 0, 0, []), (31, 240, 167, 12, 387, 1, [173, 125]), (19, 243, 141, 0, 0, 0, []), (2, 246, 0, 2, 0, 0, []), (22, 247, 12, 64, 172, 0, [215]), (2, 250, 4, 0, 1, 0, []), (15, 252, 139, 0, 3, 0, []), (0, 255, 0, 0, 0, 0, []), (19, 256, 140, 0, 0, 0, []), (2, 259, 4, 0, 1, 0, []), (25, 261, 100, 0, 0, 0, []), (34, 262, 0, 0, 0, 0, [])]
noncomputable def i_M_years : MI := (⟨"TakenInTurnsModel", "years", "(IIII)I"⟩, prog_14_method_84_code, 9, Option.some Jvm.ClassFile.FieldType.int, 12, 4, t_M_years)
set_option maxRecDepth 100000 in
noncomputable def t_M_begins : List AI := [(2, 0, 0, 2, 0, 0, []), (22, 1, 12, 26, 390, 0, [227]), (0, 4, 0, 0, 1, 24, []), (16, 6, 10, 0, 3, 0, []), (2, 9, 0, 2, 0, 0, []), (22, 10, 12, 25, 74, 0, [183]), (2, 13, 0, 2, 0, 0, []), (22, 14, 12, 26, 390, 0, [227]), (2, 17, 1, 0, 0, 0, []), (26, 18, 100, 0, 0, 0, []), (2, 19, 0, 2, 0, 0, []), (28, 20, 0, 0, 0, 0, []), (22, 21, 12, 26, 390, 0, [227]), (0, 24, 0, 0, 0, 1, []), (5, 25, 0, 0, 0, 0, []), (23, 26, 12, 26, 390, 0, [227]), (34, 29, 0, 0, 0, 0, [])]
noncomputable def i_M_begins : MI := (⟨"TakenInTurnsModel", "begins", "(I)V"⟩, prog_14_method_85_code, 2, none, 12, 1, t_M_begins)
set_option maxRecDepth 100000 in
noncomputable def t_M_aboveOf : List AI := [(2, 0, 0, 0, 0, 0, []), (0, 1, 0, 0, 0, 2, []), (16, 2, 5, 0, 1, 0, []), (0, 5, 0, 0, 0, 1, []), (19, 6, 11, 0, 0, 0, []), (2, 9, 0, 0, 0, 0, []), (0, 10, 0, 0, 1, 6, []), (16, 12, 10, 0, 1, 0, []), (0, 15, 0, 0, 0, 5, []), (19, 16, 11, 0, 0, 0, []), (0, 19, 0, 0, 0, 0, []), (34, 20, 0, 0, 0, 0, [])]
noncomputable def i_M_aboveOf : MI := (⟨"TakenInTurnsModel", "aboveOf", "(I)I"⟩, prog_14_method_86_code, 1, Option.some Jvm.ClassFile.FieldType.int, 12, 1, t_M_aboveOf)
set_option maxRecDepth 100000 in
noncomputable def t_M_takesFrom : List AI := [(2, 0, 2, 0, 0, 0, []), (21, 1, 20, 27, 0, 0, [0, 2, 1, 9]), (2, 28, 0, 2, 0, 0, []), (0, 29, 0, 0, 0, 1, []), (31, 30, 230, 12, 393, 1, [174, 126]), (2, 33, 3, 0, 0, 0, []), (2, 34, 1, 0, 0, 0, []), (5, 35, 0, 0, 0, 0, []), (34, 36, 0, 0, 0, 0, []), (2, 37, 0, 2, 0, 0, []), (0, 38, 0, 0, 1, 20, []), (31, 40, 230, 12, 393, 1, [174, 126]), (2, 43, 0, 2, 0, 0, []), (2, 44, 1, 0, 0, 0, []), (0, 45, 0, 0, 0, 0, []), (2, 46, 3, 0, 0, 0, []), (31, 47, 232, 12, 396, 3, [175, 127]), (0, 50, 0, 0, 0, 1, []), (5, 51, 0, 0, 1, 0, []), (34, 52, 0, 0, 0, 0, []), (2, 53, 0, 2, 0, 0, []), (2, 54, 1, 0, 0, 0, []), (2, 55, 2, 0, 0, 0, []), (32, 56, 231, 0, 399, 1, [176, 25]), (2, 59, 3, 0, 0, 0, []), (31, 60, 232, 12, 396, 3, [175, 127]), (34, 63, 0, 0, 0, 0, [])]
noncomputable def i_M_takesFrom : MI := (⟨"TakenInTurnsModel", "takesFrom", "(III)I"⟩, prog_14_method_87_code, 4, Option.some Jvm.ClassFile.FieldType.int, 12, 3, t_M_takesFrom)
set_option maxRecDepth 100000 in
noncomputable def t_M_leavesFrom : List AI := [(2, 0, 2, 0, 0, 0, []), (20, 1, 63, 43, 0, 0, [2, 63, 16, 63, 63, 36, 46]), (2, 44, 0, 2, 0, 0, []), (0, 45, 0, 0, 1, 10, []), (31, 47, 230, 12, 393, 1, [174, 126]), (2, 50, 0, 2, 0, 0, []), (2, 51, 1, 0, 0, 0, []), (2, 52, 0, 2, 0, 0, []), (22, 53, 12, 11, 37, 0, [172]), (2, 56, 1, 0, 0, 0, []), (25, 57, 100, 0, 0, 0, []), (2, 58, 3, 0, 0, 0, []), (31, 59, 232, 12, 396, 3, [175, 127]), (0, 62, 0, 0, 0, 2, []), (5, 63, 0, 0, 2, 0, []), (34, 64, 0, 0, 0, 0, []), (2, 65, 0, 2, 0, 0, []), (0, 66, 0, 0, 1, 30, []), (31, 68, 230, 12, 393, 1, [174, 126]), (2, 71, 0, 2, 0, 0, []), (2, 72, 1, 0, 0, 0, []), (0, 73, 0, 0, 0, 1, []), (2, 74, 3, 0, 0, 0, []), (31, 75, 233, 12, 402, 3, [177, 128]), (3, 78, 4, 0, 1, 0, []), (2, 80, 4, 0, 1, 0, []), (2, 82, 0, 2, 0, 0, []), (2, 83, 1, 0, 0, 0, []), (2, 84, 0, 2, 0, 0, []), (22, 85, 12, 11, 37, 0, [172]), (2, 88, 1, 0, 0, 0, []), (25, 89, 100, 0, 0, 0, []), (0, 90, 0, 0, 0, 2, []), (31, 91, 232, 12, 396, 3, [175, 127]), (5, 94, 0, 0, 0, 0, []), (34, 95, 0, 0, 0, 0, []), (2, 96, 0, 2, 0, 0, []), (0, 97, 0, 0, 1, 60, []), (31, 99, 230, 12, 393, 1, [174, 126]), (2, 102, 0, 2, 0, 0, []), (2, 103, 1, 0, 0, 0, []), (0, 104, 0, 0, 0, 0, []), (2, 105, 3, 0, 0, 0, []), (31, 106, 233, 12, 402, 3, [177, 128]), (10, 109, 0, 0, 0, 0, []), (34, 110, 0, 0, 0, 0, []), (2, 111, 0, 2, 0, 0, []), (0, 112, 0, 0, 1, 71, []), (31, 114, 230, 12, 393, 1, [174, 126]), (2, 117, 0, 2, 0, 0, []), (2, 118, 1, 0, 0, 0, []), (0, 119, 0, 0, 0, 5, []), (2, 120, 3, 0, 0, 0, []), (31, 121, 233, 12, 402, 3, [177, 128]), (3, 124, 4, 0, 1, 0, []), (2, 126, 4, 0, 1, 0, []), (2, 128, 0, 2, 0, 0, []), (2, 129, 1, 0, 0, 0, []), (0, 130, 0, 0, 0, 5, []), (2, 131, 3, 0, 0, 0, []), (31, 132, 234, 12, 405, 3, [178, 129]), (5, 135, 0, 0, 1, 0, []), (34, 136, 0, 0, 0, 0, []), (2, 137, 0, 2, 0, 0, []), (2, 138, 1, 0, 0, 0, []), (2, 139, 2, 0, 0, 0, []), (32, 140, 231, 0, 399, 1, [176, 25]), (2, 143, 3, 0, 0, 0, []), (31, 144, 233, 12, 402, 3, [177, 128]), (34, 147, 0, 0, 0, 0, [])]
noncomputable def i_M_leavesFrom : MI := (⟨"TakenInTurnsModel", "leavesFrom", "(III)I"⟩, prog_14_method_88_code, 5, Option.some Jvm.ClassFile.FieldType.int, 12, 3, t_M_leavesFrom)
set_option maxRecDepth 100000 in
noncomputable def t_M_likesFrom : List AI := [(2, 0, 2, 0, 0, 0, []), (21, 1, 31, 35, 0, 0, [0, 2, 3, 9, 6, 20]), (2, 36, 0, 2, 0, 0, []), (0, 37, 0, 0, 1, 11, []), (31, 39, 230, 12, 393, 1, [174, 126]), (2, 42, 3, 0, 0, 0, []), (2, 43, 1, 0, 0, 0, []), (5, 44, 0, 0, 5, 0, []), (34, 45, 0, 0, 0, 0, []), (2, 46, 0, 2, 0, 0, []), (0, 47, 0, 0, 1, 40, []), (31, 49, 230, 12, 393, 1, [174, 126]), (2, 52, 0, 2, 0, 0, []), (2, 53, 1, 0, 0, 0, []), (0, 54, 0, 0, 0, 0, []), (2, 55, 3, 0, 0, 0, []), (31, 56, 234, 12, 405, 3, [178, 129]), (0, 59, 0, 0, 0, 3, []), (5, 60, 0, 0, 2, 0, []), (34, 61, 0, 0, 0, 0, []), (2, 62, 0, 2, 0, 0, []), (0, 63, 0, 0, 1, 70, []), (31, 65, 230, 12, 393, 1, [174, 126]), (2, 68, 0, 2, 0, 0, []), (2, 69, 1, 0, 0, 0, []), (0, 70, 0, 0, 0, 5, []), (2, 71, 3, 0, 0, 0, []), (0, 72, 0, 0, 0, 1, []), (5, 73, 0, 0, 0, 0, []), (31, 74, 234, 12, 405, 3, [178, 129]), (34, 77, 0, 0, 0, 0, []), (2, 78, 0, 2, 0, 0, []), (2, 79, 1, 0, 0, 0, []), (2, 80, 2, 0, 0, 0, []), (32, 81, 231, 0, 399, 1, [176, 25]), (2, 84, 3, 0, 0, 0, []), (31, 85, 234, 12, 405, 3, [178, 129]), (34, 88, 0, 0, 0, 0, [])]
noncomputable def i_M_likesFrom : MI := (⟨"TakenInTurnsModel", "likesFrom", "(III)I"⟩, prog_14_method_89_code, 4, Option.some Jvm.ClassFile.FieldType.int, 12, 3, t_M_likesFrom)
set_option maxRecDepth 100000 in
noncomputable def t_M_tellsFrom : List AI := [(2, 0, 2, 0, 0, 0, []), (21, 1, 36, 27, 0, 0, [0, 2, 4, 25]), (2, 28, 0, 2, 0, 0, []), (0, 29, 0, 0, 0, 2, []), (31, 30, 230, 12, 393, 1, [174, 126]), (2, 33, 0, 2, 0, 0, []), (2, 34, 1, 0, 0, 0, []), (2, 35, 0, 2, 0, 0, []), (22, 36, 12, 11, 37, 0, [172]), (2, 39, 1, 0, 0, 0, []), (25, 40, 100, 0, 0, 0, []), (2, 41, 3, 0, 0, 0, []), (31, 42, 233, 12, 402, 3, [177, 128]), (3, 45, 4, 0, 1, 0, []), (2, 47, 4, 0, 1, 0, []), (2, 49, 0, 2, 0, 0, []), (2, 50, 1, 0, 0, 0, []), (2, 51, 0, 2, 0, 0, []), (22, 52, 12, 11, 37, 0, [172]), (2, 55, 1, 0, 0, 0, []), (25, 56, 100, 0, 0, 0, []), (0, 57, 0, 0, 0, 1, []), (31, 58, 234, 12, 405, 3, [178, 129]), (5, 61, 0, 0, 1, 0, []), (34, 62, 0, 0, 0, 0, []), (2, 63, 0, 2, 0, 0, []), (0, 64, 0, 0, 1, 50, []), (31, 66, 230, 12, 393, 1, [174, 126]), (2, 69, 0, 2, 0, 0, []), (2, 70, 1, 0, 0, 0, []), (0, 71, 0, 0, 0, 0, []), (2, 72, 3, 0, 0, 0, []), (31, 73, 235, 12, 408, 3, [179, 130]), (0, 76, 0, 0, 0, 5, []), (5, 77, 0, 0, 5, 0, []), (34, 78, 0, 0, 0, 0, []), (2, 79, 0, 2, 0, 0, []), (2, 80, 1, 0, 0, 0, []), (2, 81, 2, 0, 0, 0, []), (32, 82, 231, 0, 399, 1, [176, 25]), (2, 85, 3, 0, 0, 0, []), (31, 86, 235, 12, 408, 3, [179, 130]), (34, 89, 0, 0, 0, 0, [])]
noncomputable def i_M_tellsFrom : MI := (⟨"TakenInTurnsModel", "tellsFrom", "(III)I"⟩, prog_14_method_90_code, 5, Option.some Jvm.ClassFile.FieldType.int, 12, 3, t_M_tellsFrom)
set_option maxRecDepth 100000 in
noncomputable def t_M_act : List AI := [(2, 0, 0, 2, 0, 0, []), (0, 1, 0, 0, 0, 0, []), (23, 2, 12, 26, 390, 0, [227]), (2, 5, 0, 2, 0, 0, []), (2, 6, 1, 0, 0, 0, []), (31, 7, 170, 12, 228, 1, [133, 86]), (15, 10, 12, 0, 0, 0, []), (2, 13, 2, 0, 0, 0, []), (0, 14, 0, 0, 0, 0, []), (0, 15, 0, 0, 0, 3, []), (32, 16, 148, 0, 178, 3, [122, 23]), (15, 19, 14, 0, 1, 0, []), (0, 22, 0, 0, 0, 0, []), (34, 23, 0, 0, 0, 0, []), (2, 24, 0, 2, 0, 0, []), (22, 25, 12, 11, 37, 0, [172]), (2, 28, 1, 0, 0, 0, []), (25, 29, 100, 0, 0, 0, []), (3, 30, 4, 0, 1, 0, []), (2, 32, 2, 0, 0, 0, []), (15, 33, 27, 0, 1, 0, []), (2, 36, 0, 2, 0, 0, []), (2, 37, 1, 0, 0, 0, []), (2, 38, 4, 0, 1, 0, []), (2, 40, 3, 0, 0, 0, []), (31, 41, 232, 12, 396, 3, [175, 127]), (19, 44, 50, 0, 0, 0, []), (2, 47, 2, 0, 0, 0, []), (0, 48, 0, 0, 0, 1, []), (16, 49, 36, 0, 1, 0, []), (2, 52, 0, 2, 0, 0, []), (2, 53, 1, 0, 0, 0, []), (2, 54, 4, 0, 1, 0, []), (2, 56, 3, 0, 0, 0, []), (31, 57, 233, 12, 402, 3, [177, 128]), (19, 60, 50, 0, 0, 0, []), (2, 63, 2, 0, 0, 0, []), (0, 64, 0, 0, 0, 2, []), (16, 65, 45, 0, 1, 0, []), (2, 68, 0, 2, 0, 0, []), (2, 69, 1, 0, 0, 0, []), (2, 70, 4, 0, 1, 0, []), (2, 72, 3, 0, 0, 0, []), (31, 73, 234, 12, 405, 3, [178, 129]), (19, 76, 50, 0, 0, 0, []), (2, 79, 0, 2, 0, 0, []), (2, 80, 1, 0, 0, 0, []), (2, 81, 4, 0, 1, 0, []), (2, 83, 3, 0, 0, 0, []), (31, 84, 235, 12, 408, 3, [179, 130]), (34, 87, 0, 0, 0, 0, [])]
noncomputable def i_M_act : MI := (⟨"TakenInTurnsModel", "act", "(III)I"⟩, prog_14_method_91_code, 5, Option.some Jvm.ClassFile.FieldType.int, 12, 3, t_M_act)
set_option maxRecDepth 100000 in
noncomputable def t_M_trace : List AI := [(2, 0, 1, 0, 0, 0, []), (15, 1, 14, 0, 2, 0, []), (2, 4, 1, 0, 0, 0, []), (2, 5, 0, 2, 0, 0, []), (22, 6, 12, 26, 390, 0, [227]), (16, 9, 14, 0, 3, 0, []), (2, 12, 1, 0, 0, 0, []), (0, 13, 0, 0, 1, 24, []), (16, 15, 14, 0, 3, 0, []), (2, 18, 0, 2, 0, 0, []), (22, 19, 12, 25, 74, 0, [183]), (2, 22, 1, 0, 0, 0, []), (25, 23, 100, 0, 0, 0, []), (19, 24, 15, 0, 0, 0, []), (0, 27, 0, 0, 0, (-1), []), (34, 28, 0, 0, 0, 0, [])]
noncomputable def i_M_trace : MI := (⟨"TakenInTurnsModel", "trace", "(I)I"⟩, prog_14_method_92_code, 2, Option.some Jvm.ClassFile.FieldType.int, 12, 1, t_M_trace)
set_option maxRecDepth 100000 in
noncomputable def t_M_isShelf : List AI := [(2, 0, 0, 0, 0, 0, []), (0, 1, 0, 0, 0, 0, []), (0, 2, 0, 0, 0, 5, []), (32, 3, 148, 0, 178, 3, [122, 23]), (34, 6, 0, 0, 0, 0, [])]
noncomputable def i_M_isShelf : MI := (⟨"TakenInTurnsModel", "isShelf", "(I)Z"⟩, prog_14_method_93_code, 1, Option.some Jvm.ClassFile.FieldType.boolean, 12, 1, t_M_isShelf)
set_option maxRecDepth 100000 in
noncomputable def t_M_keep : List AI := [(2, 0, 1, 0, 0, 0, []), (32, 1, 238, 0, 411, 1, [180, 26]), (15, 4, 10, 0, 0, 0, []), (2, 7, 2, 0, 0, 0, []), (0, 8, 0, 0, 0, (-1), []), (16, 9, 12, 0, 0, 0, []), (2, 12, 0, 2, 0, 0, []), (2, 13, 2, 0, 0, 0, []), (31, 14, 170, 12, 228, 1, [133, 86]), (15, 17, 12, 0, 1, 0, []), (0, 20, 0, 0, 0, (-1), []), (34, 21, 0, 0, 0, 0, []), (2, 22, 0, 2, 0, 0, []), (22, 23, 12, 27, 77, 0, [184]), (2, 26, 1, 0, 0, 0, []), (2, 27, 2, 0, 0, 0, []), (26, 28, 100, 0, 0, 0, []), (2, 29, 0, 2, 0, 0, []), (22, 30, 12, 28, 80, 0, [185]), (2, 33, 1, 0, 0, 0, []), (0, 34, 0, 0, 0, (-1), []), (26, 35, 100, 0, 0, 0, []), (0, 36, 0, 0, 0, 1, []), (34, 37, 0, 0, 0, 0, [])]
noncomputable def i_M_keep : MI := (⟨"TakenInTurnsModel", "keep", "(II)I"⟩, prog_14_method_94_code, 3, Option.some Jvm.ClassFile.FieldType.int, 12, 2, t_M_keep)
set_option maxRecDepth 100000 in
noncomputable def t_M_row : List AI := [(2, 0, 1, 0, 0, 0, []), (32, 1, 238, 0, 411, 1, [180, 26]), (15, 4, 11, 0, 0, 0, []), (2, 7, 2, 0, 0, 0, []), (0, 8, 0, 0, 0, 0, []), (0, 9, 0, 0, 0, 4, []), (32, 10, 148, 0, 178, 3, [122, 23]), (15, 13, 11, 0, 0, 0, []), (2, 16, 3, 0, 0, 0, []), (0, 17, 0, 0, 1, 60, []), (16, 19, 13, 0, 5, 0, []), (0, 22, 0, 0, 0, (-1), []), (34, 23, 0, 0, 0, 0, []), (2, 24, 3, 0, 0, 0, []), (15, 25, 17, 0, 3, 0, []), (0, 28, 0, 0, 1, (-14), []), (34, 30, 0, 0, 0, 0, []), (2, 31, 0, 2, 0, 0, []), (22, 32, 12, 27, 77, 0, [184]), (2, 35, 1, 0, 0, 0, []), (0, 36, 0, 0, 0, (-1), []), (26, 37, 100, 0, 0, 0, []), (2, 38, 0, 2, 0, 0, []), (22, 39, 12, 28, 80, 0, [185]), (2, 42, 1, 0, 0, 0, []), (2, 43, 2, 0, 0, 0, []), (26, 44, 100, 0, 0, 0, []), (2, 45, 0, 2, 0, 0, []), (22, 46, 12, 29, 83, 0, [186]), (2, 49, 1, 0, 0, 0, []), (2, 50, 3, 0, 0, 0, []), (26, 51, 100, 0, 0, 0, []), (0, 52, 0, 0, 0, 0, []), (3, 53, 4, 0, 1, 0, []), (2, 55, 4, 0, 1, 0, []), (0, 57, 0, 0, 1, 60, []), (16, 59, 48, 0, 3, 0, []), (2, 62, 0, 2, 0, 0, []), (22, 63, 12, 30, 86, 0, [187]), (0, 66, 0, 0, 1, 60, []), (2, 68, 1, 0, 0, 0, []), (5, 69, 0, 0, 2, 0, []), (2, 70, 4, 0, 1, 0, []), (5, 72, 0, 0, 0, 0, []), (1, 73, 0, 0, 0, 0, []), (26, 74, 101, 0, 0, 0, []), (4, 75, 4, 0, 0, 1, []), (19, 78, 34, 0, 0, 0, []), (0, 81, 0, 0, 0, 1, []), (34, 82, 0, 0, 0, 0, [])]
noncomputable def i_M_row : MI := (⟨"TakenInTurnsModel", "row", "(III)I"⟩, prog_14_method_95_code, 5, Option.some Jvm.ClassFile.FieldType.int, 12, 3, t_M_row)
set_option maxRecDepth 100000 in
noncomputable def t_M_barred : List AI := [(2, 0, 1, 0, 0, 0, []), (32, 1, 238, 0, 411, 1, [180, 26]), (15, 4, 5, 0, 1, 0, []), (0, 7, 0, 0, 0, (-1), []), (34, 8, 0, 0, 0, 0, []), (2, 9, 0, 2, 0, 0, []), (22, 10, 12, 28, 80, 0, [185]), (2, 13, 1, 0, 0, 0, []), (25, 14, 100, 0, 0, 0, []), (15, 15, 19, 0, 3, 0, []), (2, 18, 0, 2, 0, 0, []), (22, 19, 12, 27, 77, 0, [184]), (2, 22, 1, 0, 0, 0, []), (25, 23, 100, 0, 0, 0, []), (15, 24, 17, 0, 3, 0, []), (0, 27, 0, 0, 1, (-11), []), (19, 29, 18, 0, 0, 0, []), (0, 32, 0, 0, 1, (-12), []), (34, 34, 0, 0, 0, 0, []), (2, 35, 2, 0, 0, 0, []), (0, 36, 0, 0, 0, 0, []), (2, 37, 0, 2, 0, 0, []), (22, 38, 12, 29, 83, 0, [186]), (2, 41, 1, 0, 0, 0, []), (25, 42, 100, 0, 0, 0, []), (0, 43, 0, 0, 0, 1, []), (5, 44, 0, 0, 1, 0, []), (32, 45, 148, 0, 178, 3, [122, 23]), (15, 48, 31, 0, 0, 0, []), (0, 51, 0, 0, 0, 0, []), (19, 52, 32, 0, 0, 0, []), (0, 55, 0, 0, 1, (-13), []), (34, 57, 0, 0, 0, 0, [])]
noncomputable def i_M_barred : MI := (⟨"TakenInTurnsModel", "barred", "(II)I"⟩, prog_14_method_96_code, 3, Option.some Jvm.ClassFile.FieldType.int, 12, 2, t_M_barred)
set_option maxRecDepth 100000 in
noncomputable def t_M_put : List AI := [(2, 0, 0, 2, 0, 0, []), (2, 1, 1, 0, 0, 0, []), (2, 2, 2, 0, 0, 0, []), (31, 3, 241, 12, 414, 2, [181, 131]), (3, 6, 5, 0, 1, 0, []), (2, 8, 5, 0, 1, 0, []), (15, 10, 9, 0, 0, 0, []), (2, 13, 5, 0, 1, 0, []), (34, 15, 0, 0, 0, 0, []), (2, 16, 0, 2, 0, 0, []), (22, 17, 12, 28, 80, 0, [185]), (2, 20, 1, 0, 0, 0, []), (25, 21, 100, 0, 0, 0, []), (3, 22, 6, 0, 1, 0, []), (2, 24, 0, 2, 0, 0, []), (22, 25, 12, 30, 86, 0, [187]), (0, 28, 0, 0, 1, 60, []), (2, 30, 1, 0, 0, 0, []), (5, 31, 0, 0, 2, 0, []), (2, 32, 2, 0, 0, 0, []), (5, 33, 0, 0, 0, 0, []), (2, 34, 6, 0, 1, 0, []), (15, 36, 28, 0, 1, 0, []), (2, 39, 3, 1, 0, 0, []), (12, 40, 0, 0, 0, 0, []), (10, 41, 0, 0, 1, 0, []), (11, 42, 0, 0, 0, 0, []), (19, 43, 55, 0, 0, 0, []), (2, 46, 6, 0, 1, 0, []), (0, 48, 0, 0, 0, 1, []), (16, 49, 36, 0, 1, 0, []), (2, 52, 3, 1, 0, 0, []), (12, 53, 0, 0, 0, 0, []), (10, 54, 0, 0, 2, 0, []), (11, 55, 0, 0, 0, 0, []), (19, 56, 55, 0, 0, 0, []), (2, 59, 6, 0, 1, 0, []), (0, 61, 0, 0, 0, 2, []), (16, 62, 43, 0, 1, 0, []), (2, 65, 3, 1, 0, 0, []), (12, 66, 0, 0, 0, 0, []), (11, 67, 0, 0, 0, 0, []), (19, 68, 55, 0, 0, 0, []), (2, 71, 6, 0, 1, 0, []), (0, 73, 0, 0, 0, 3, []), (16, 74, 48, 0, 1, 0, []), (2, 77, 3, 1, 0, 0, []), (19, 78, 55, 0, 0, 0, []), (2, 81, 3, 1, 0, 0, []), (1, 82, 0, 0, 0, 0, []), (14, 83, 54, 0, 0, 0, []), (15, 84, 54, 0, 0, 0, []), (1, 87, 0, 0, 0, 1, []), (19, 88, 55, 0, 0, 0, []), (1, 91, 0, 0, 0, 0, []), (26, 92, 101, 0, 0, 0, []), (0, 93, 0, 0, 0, 1, []), (34, 94, 0, 0, 0, 0, [])]
noncomputable def i_M_put : MI := (⟨"TakenInTurnsModel", "put", "(IIJ)I"⟩, prog_14_method_97_code, 7, Option.some Jvm.ClassFile.FieldType.int, 12, 3, t_M_put)
set_option maxRecDepth 100000 in
noncomputable def t_M_element : List AI := [(2, 0, 0, 2, 0, 0, []), (2, 1, 1, 0, 0, 0, []), (2, 2, 2, 0, 0, 0, []), (31, 3, 241, 12, 414, 2, [181, 131]), (15, 6, 7, 0, 0, 0, []), (1, 9, 417, 0, 1, (-9223372036854775808), [11]), (19, 12, 15, 0, 0, 0, []), (2, 15, 0, 2, 0, 0, []), (22, 16, 12, 30, 86, 0, [187]), (0, 19, 0, 0, 1, 60, []), (2, 21, 1, 0, 0, 0, []), (5, 22, 0, 0, 2, 0, []), (2, 23, 2, 0, 0, 0, []), (5, 24, 0, 0, 0, 0, []), (25, 25, 101, 0, 0, 0, []), (34, 26, 0, 0, 0, 0, [])]
noncomputable def i_M_element : MI := (⟨"TakenInTurnsModel", "element", "(II)J"⟩, prog_14_method_98_code, 3, Option.some Jvm.ClassFile.FieldType.long, 12, 2, t_M_element)
set_option maxRecDepth 100000 in
noncomputable def t_M_shift : List AI := [(2, 0, 1, 0, 0, 0, []), (32, 1, 238, 0, 411, 1, [180, 26]), (15, 4, 6, 0, 0, 0, []), (2, 7, 3, 0, 0, 0, []), (32, 8, 238, 0, 411, 1, [180, 26]), (15, 11, 8, 0, 1, 0, []), (0, 14, 0, 0, 0, (-1), []), (34, 15, 0, 0, 0, 0, []), (2, 16, 0, 2, 0, 0, []), (22, 17, 12, 28, 80, 0, [185]), (2, 20, 1, 0, 0, 0, []), (25, 21, 100, 0, 0, 0, []), (15, 22, 18, 0, 3, 0, []), (2, 25, 0, 2, 0, 0, []), (22, 26, 12, 27, 77, 0, [184]), (2, 29, 1, 0, 0, 0, []), (25, 30, 100, 0, 0, 0, []), (15, 31, 28, 0, 2, 0, []), (2, 34, 0, 2, 0, 0, []), (22, 35, 12, 28, 80, 0, [185]), (2, 38, 3, 0, 0, 0, []), (25, 39, 100, 0, 0, 0, []), (15, 40, 30, 0, 3, 0, []), (2, 43, 0, 2, 0, 0, []), (22, 44, 12, 27, 77, 0, [184]), (2, 47, 3, 0, 0, 0, []), (25, 48, 100, 0, 0, 0, []), (15, 49, 30, 0, 3, 0, []), (0, 52, 0, 0, 1, (-11), []), (34, 54, 0, 0, 0, 0, []), (2, 55, 0, 2, 0, 0, []), (22, 56, 12, 28, 80, 0, [185]), (2, 59, 1, 0, 0, 0, []), (25, 60, 100, 0, 0, 0, []), (15, 61, 44, 0, 2, 0, []), (2, 64, 0, 2, 0, 0, []), (22, 65, 12, 28, 80, 0, [185]), (2, 68, 1, 0, 0, 0, []), (25, 69, 100, 0, 0, 0, []), (2, 70, 0, 2, 0, 0, []), (22, 71, 12, 28, 80, 0, [185]), (2, 74, 3, 0, 0, 0, []), (25, 75, 100, 0, 0, 0, []), (16, 76, 46, 0, 0, 0, []), (0, 79, 0, 0, 1, (-12), []), (34, 81, 0, 0, 0, 0, []), (2, 82, 5, 0, 1, 0, []), (15, 84, 80, 0, 2, 0, []), (2, 87, 2, 0, 0, 0, []), (15, 88, 80, 0, 2, 0, []), (2, 91, 4, 0, 1, 0, []), (15, 93, 80, 0, 2, 0, []), (2, 96, 2, 0, 0, 0, []), (2, 97, 0, 2, 0, 0, []), (22, 98, 12, 29, 83, 0, [186]), (2, 101, 1, 0, 0, 0, []), (25, 102, 100, 0, 0, 0, []), (16, 103, 80, 0, 4, 0, []), (2, 106, 4, 0, 1, 0, []), (2, 108, 0, 2, 0, 0, []), (22, 109, 12, 29, 83, 0, [186]), (2, 112, 3, 0, 0, 0, []), (25, 113, 100, 0, 0, 0, []), (16, 114, 80, 0, 4, 0, []), (2, 117, 5, 0, 1, 0, []), (2, 119, 0, 2, 0, 0, []), (22, 120, 12, 29, 83, 0, [186]), (2, 123, 1, 0, 0, 0, []), (25, 124, 100, 0, 0, 0, []), (2, 125, 2, 0, 0, 0, []), (5, 126, 0, 0, 1, 0, []), (16, 127, 80, 0, 4, 0, []), (2, 130, 5, 0, 1, 0, []), (2, 132, 0, 2, 0, 0, []), (22, 133, 12, 29, 83, 0, [186]), (2, 136, 3, 0, 0, 0, []), (25, 137, 100, 0, 0, 0, []), (2, 138, 4, 0, 1, 0, []), (5, 140, 0, 0, 1, 0, []), (16, 141, 82, 0, 5, 0, []), (0, 144, 0, 0, 1, (-13), []), (34, 146, 0, 0, 0, 0, []), (0, 147, 0, 0, 1, 60, []), (2, 149, 1, 0, 0, 0, []), (5, 150, 0, 0, 2, 0, []), (2, 151, 2, 0, 0, 0, []), (5, 152, 0, 0, 0, 0, []), (3, 153, 6, 0, 1, 0, []), (0, 155, 0, 0, 1, 60, []), (2, 157, 3, 0, 0, 0, []), (5, 158, 0, 0, 2, 0, []), (2, 159, 4, 0, 1, 0, []), (5, 161, 0, 0, 0, 0, []), (3, 162, 7, 0, 1, 0, []), (0, 164, 0, 0, 0, 0, []), (3, 165, 8, 0, 1, 0, []), (2, 167, 8, 0, 1, 0, []), (2, 169, 5, 0, 1, 0, []), (16, 171, 124, 0, 3, 0, []), (2, 174, 6, 0, 1, 0, []), (2, 176, 7, 0, 1, 0, []), (16, 178, 108, 0, 3, 0, []), (2, 181, 5, 0, 1, 0, []), (0, 183, 0, 0, 0, 1, []), (5, 184, 0, 0, 1, 0, []), (2, 185, 8, 0, 1, 0, []), (5, 187, 0, 0, 1, 0, []), (19, 188, 109, 0, 0, 0, []), (2, 191, 8, 0, 1, 0, []), (3, 193, 9, 0, 1, 0, []), (2, 195, 0, 2, 0, 0, []), (22, 196, 12, 30, 86, 0, [187]), (2, 199, 7, 0, 1, 0, []), (2, 201, 9, 0, 1, 0, []), (5, 203, 0, 0, 0, 0, []), (2, 204, 0, 2, 0, 0, []), (22, 205, 12, 30, 86, 0, [187]), (2, 208, 6, 0, 1, 0, []), (2, 210, 9, 0, 1, 0, []), (5, 212, 0, 0, 0, 0, []), (25, 213, 101, 0, 0, 0, []), (26, 214, 101, 0, 0, 0, []), (4, 215, 8, 0, 0, 1, []), (19, 218, 96, 0, 0, 0, []), (2, 221, 5, 0, 1, 0, []), (34, 223, 0, 0, 0, 0, [])]
noncomputable def i_M_shift : MI := (⟨"TakenInTurnsModel", "shift", "(IIIII)I"⟩, prog_14_method_99_code, 10, Option.some Jvm.ClassFile.FieldType.int, 12, 5, t_M_shift)
set_option maxRecDepth 100000 in
noncomputable def t_M_taken : List AI := [(2, 0, 1, 0, 0, 0, []), (32, 1, 238, 0, 411, 1, [180, 26]), (15, 4, 8, 0, 0, 0, []), (2, 7, 2, 0, 0, 0, []), (0, 8, 0, 0, 0, 0, []), (0, 9, 0, 0, 1, 6, []), (32, 11, 148, 0, 178, 3, [122, 23]), (15, 14, 10, 0, 1, 0, []), (0, 17, 0, 0, 0, (-1), []), (34, 18, 0, 0, 0, 0, []), (2, 19, 0, 2, 0, 0, []), (22, 20, 12, 28, 80, 0, [185]), (2, 23, 1, 0, 0, 0, []), (25, 24, 100, 0, 0, 0, []), (15, 25, 22, 0, 3, 0, []), (2, 28, 0, 2, 0, 0, []), (22, 29, 12, 27, 77, 0, [184]), (2, 32, 1, 0, 0, 0, []), (25, 33, 100, 0, 0, 0, []), (15, 34, 22, 0, 3, 0, []), (0, 37, 0, 0, 1, (-11), []), (34, 39, 0, 0, 0, 0, []), (2, 40, 0, 2, 0, 0, []), (22, 41, 12, 27, 77, 0, [184]), (2, 44, 1, 0, 0, 0, []), (25, 45, 100, 0, 0, 0, []), (15, 46, 29, 0, 3, 0, []), (0, 49, 0, 0, 1, (-12), []), (34, 51, 0, 0, 0, 0, []), (2, 52, 0, 2, 0, 0, []), (22, 53, 12, 11, 37, 0, [172]), (2, 56, 0, 2, 0, 0, []), (22, 57, 12, 27, 77, 0, [184]), (2, 60, 1, 0, 0, 0, []), (25, 61, 100, 0, 0, 0, []), (25, 62, 100, 0, 0, 0, []), (3, 63, 3, 0, 0, 0, []), (2, 64, 2, 0, 0, 0, []), (15, 65, 54, 0, 0, 0, []), (2, 68, 2, 0, 0, 0, []), (2, 69, 3, 0, 0, 0, []), (16, 70, 54, 0, 0, 0, []), (2, 73, 2, 0, 0, 0, []), (0, 74, 0, 0, 0, 1, []), (16, 75, 48, 0, 1, 0, []), (2, 78, 3, 0, 0, 0, []), (0, 79, 0, 0, 0, 2, []), (16, 80, 54, 0, 0, 0, []), (2, 83, 2, 0, 0, 0, []), (0, 84, 0, 0, 0, 5, []), (16, 85, 56, 0, 1, 0, []), (2, 88, 3, 0, 0, 0, []), (0, 89, 0, 0, 1, 6, []), (16, 91, 56, 0, 1, 0, []), (2, 94, 3, 0, 0, 0, []), (19, 95, 57, 0, 0, 0, []), (0, 98, 0, 0, 1, (-12), []), (34, 100, 0, 0, 0, 0, [])]
noncomputable def i_M_taken : MI := (⟨"TakenInTurnsModel", "taken", "(II)I"⟩, prog_14_method_100_code, 4, Option.some Jvm.ClassFile.FieldType.int, 12, 2, t_M_taken)
set_option maxRecDepth 100000 in
noncomputable def t_M_count : List AI := [(2, 0, 1, 0, 0, 0, []), (15, 1, 5, 0, 1, 0, []), (2, 4, 0, 2, 0, 0, []), (22, 5, 12, 0, 175, 0, [216]), (19, 8, 30, 0, 0, 0, []), (2, 11, 1, 0, 0, 0, []), (0, 12, 0, 0, 0, 1, []), (16, 13, 11, 0, 1, 0, []), (2, 16, 0, 2, 0, 0, []), (22, 17, 12, 10, 225, 0, [219]), (19, 20, 30, 0, 0, 0, []), (2, 23, 1, 0, 0, 0, []), (0, 24, 0, 0, 0, 2, []), (16, 25, 17, 0, 1, 0, []), (2, 28, 0, 2, 0, 0, []), (22, 29, 12, 13, 186, 0, [217]), (19, 32, 30, 0, 0, 0, []), (2, 35, 1, 0, 0, 0, []), (0, 36, 0, 0, 0, 3, []), (16, 37, 23, 0, 1, 0, []), (2, 40, 0, 2, 0, 0, []), (22, 41, 12, 20, 377, 0, [225]), (19, 44, 30, 0, 0, 0, []), (2, 47, 1, 0, 0, 0, []), (0, 48, 0, 0, 0, 4, []), (16, 49, 29, 0, 1, 0, []), (2, 52, 0, 2, 0, 0, []), (22, 53, 12, 26, 390, 0, [227]), (19, 56, 30, 0, 0, 0, []), (0, 59, 0, 0, 0, (-1), []), (34, 60, 0, 0, 0, 0, [])]
noncomputable def i_M_count : MI := (⟨"TakenInTurnsModel", "count", "(I)I"⟩, prog_14_method_101_code, 2, Option.some Jvm.ClassFile.FieldType.int, 12, 1, t_M_count)
set_option maxRecDepth 100000 in
noncomputable def t_Integer_bitCount : List AI := [(2, 0, 0, 0, 0, 0, []), (2, 1, 0, 0, 0, 0, []), (0, 2, 0, 0, 0, 1, []), (5, 3, 0, 0, 8, 0, []), (0, 4, 265, 0, 4, 1431655765, [8]), (5, 7, 0, 0, 3, 0, []), (5, 8, 0, 0, 1, 0, []), (3, 9, 0, 0, 0, 0, []), (2, 10, 0, 0, 0, 0, []), (0, 11, 266, 0, 4, 858993459, [9]), (5, 14, 0, 0, 3, 0, []), (2, 15, 0, 0, 0, 0, []), (0, 16, 0, 0, 0, 2, []), (5, 17, 0, 0, 8, 0, []), (0, 18, 266, 0, 4, 858993459, [9]), (5, 21, 0, 0, 3, 0, []), (5, 22, 0, 0, 0, 0, []), (3, 23, 0, 0, 0, 0, []), (2, 24, 0, 0, 0, 0, []), (2, 25, 0, 0, 0, 0, []), (0, 26, 0, 0, 0, 4, []), (5, 27, 0, 0, 8, 0, []), (5, 28, 0, 0, 0, 0, []), (0, 29, 267, 0, 4, 252645135, [10]), (5, 32, 0, 0, 3, 0, []), (3, 33, 0, 0, 0, 0, []), (2, 34, 0, 0, 0, 0, []), (2, 35, 0, 0, 0, 0, []), (0, 36, 0, 0, 1, 8, []), (5, 38, 0, 0, 8, 0, []), (5, 39, 0, 0, 0, 0, []), (3, 40, 0, 0, 0, 0, []), (2, 41, 0, 0, 0, 0, []), (2, 42, 0, 0, 0, 0, []), (0, 43, 0, 0, 1, 16, []), (5, 45, 0, 0, 8, 0, []), (5, 46, 0, 0, 0, 0, []), (3, 47, 0, 0, 0, 0, []), (2, 48, 0, 0, 0, 0, []), (0, 49, 0, 0, 1, 63, []), (5, 51, 0, 0, 3, 0, []), (34, 52, 0, 0, 0, 0, [])]
noncomputable def i_Integer_bitCount : MI := (⟨"java/lang/Integer", "bitCount", "(I)I"⟩, prog_15_method_49_code, 1, Option.some Jvm.ClassFile.FieldType.int, 13, 1, t_Integer_bitCount)
set_option maxRecDepth 100000 in
noncomputable def t_Arrays_fill_J : List AI := [(0, 0, 0, 0, 0, 0, []), (3, 1, 3, 0, 0, 0, []), (2, 2, 0, 2, 0, 0, []), (27, 3, 0, 0, 0, 0, []), (3, 4, 4, 0, 1, 0, []), (2, 6, 3, 0, 0, 0, []), (2, 7, 4, 0, 1, 0, []), (16, 9, 14, 0, 3, 0, []), (2, 12, 0, 2, 0, 0, []), (2, 13, 3, 0, 0, 0, []), (2, 14, 1, 1, 0, 0, []), (26, 15, 101, 0, 0, 0, []), (4, 16, 3, 0, 0, 1, []), (19, 19, 5, 0, 0, 0, []), (34, 22, 0, 0, 0, 0, [])]
noncomputable def i_Arrays_fill_J : MI := (⟨"java/util/Arrays", "fill", "([JJ)V"⟩, prog_18_method_101_code, 5, none, 14, 2, t_Arrays_fill_J)
set_option maxRecDepth 100000 in
noncomputable def t_Arrays_fill_I : List AI := [(0, 0, 0, 0, 0, 0, []), (3, 1, 2, 0, 0, 0, []), (2, 2, 0, 2, 0, 0, []), (27, 3, 0, 0, 0, 0, []), (3, 4, 3, 0, 0, 0, []), (2, 5, 2, 0, 0, 0, []), (2, 6, 3, 0, 0, 0, []), (16, 7, 14, 0, 3, 0, []), (2, 10, 0, 2, 0, 0, []), (2, 11, 2, 0, 0, 0, []), (2, 12, 1, 0, 0, 0, []), (26, 13, 100, 0, 0, 0, []), (4, 14, 2, 0, 0, 1, []), (19, 17, 5, 0, 0, 0, []), (34, 20, 0, 0, 0, 0, [])]
noncomputable def i_Arrays_fill_I : MI := (⟨"java/util/Arrays", "fill", "([II)V"⟩, prog_18_method_103_code, 4, none, 14, 2, t_Arrays_fill_I)
set_option maxRecDepth 100000 in
noncomputable def t_Math_abs : List AI := [(2, 0, 0, 1, 0, 0, []), (1, 1, 0, 0, 0, 0, []), (14, 2, 7, 0, 3, 0, []), (15, 3, 7, 0, 3, 0, []), (2, 6, 0, 1, 0, 0, []), (13, 7, 0, 0, 0, 0, []), (19, 8, 8, 0, 0, 0, []), (2, 11, 0, 1, 0, 0, []), (34, 12, 0, 0, 0, 0, [])]
noncomputable def i_Math_abs : MI := (⟨"java/lang/Math", "abs", "(J)J"⟩, prog_16_method_61_code, 2, Option.some Jvm.ClassFile.FieldType.long, 15, 1, t_Math_abs)
set_option maxRecDepth 100000 in
noncomputable def t_Math_max_I : List AI := [(2, 0, 0, 0, 0, 0, []), (2, 1, 1, 0, 0, 0, []), (16, 2, 5, 0, 2, 0, []), (2, 5, 0, 0, 0, 0, []), (19, 6, 6, 0, 0, 0, []), (2, 9, 1, 0, 0, 0, []), (34, 10, 0, 0, 0, 0, [])]
noncomputable def i_Math_max_I : MI := (⟨"java/lang/Math", "max", "(II)I"⟩, prog_16_method_65_code, 2, Option.some Jvm.ClassFile.FieldType.int, 15, 2, t_Math_max_I)
set_option maxRecDepth 100000 in
noncomputable def t_Math_max_J : List AI := [(2, 0, 0, 1, 0, 0, []), (2, 1, 2, 1, 0, 0, []), (14, 2, 6, 0, 2, 0, []), (15, 3, 6, 0, 2, 0, []), (2, 6, 0, 1, 0, 0, []), (19, 7, 7, 0, 0, 0, []), (2, 10, 2, 1, 0, 0, []), (34, 11, 0, 0, 0, 0, [])]
noncomputable def i_Math_max_J : MI := (⟨"java/lang/Math", "max", "(JJ)J"⟩, prog_16_method_66_code, 4, Option.some Jvm.ClassFile.FieldType.long, 15, 2, t_Math_max_J)
set_option maxRecDepth 100000 in
noncomputable def t_Math_min_I : List AI := [(2, 0, 0, 0, 0, 0, []), (2, 1, 1, 0, 0, 0, []), (16, 2, 5, 0, 4, 0, []), (2, 5, 0, 0, 0, 0, []), (19, 6, 6, 0, 0, 0, []), (2, 9, 1, 0, 0, 0, []), (34, 10, 0, 0, 0, 0, [])]
noncomputable def i_Math_min_I : MI := (⟨"java/lang/Math", "min", "(II)I"⟩, prog_16_method_69_code, 2, Option.some Jvm.ClassFile.FieldType.int, 15, 2, t_Math_min_I)
set_option maxRecDepth 100000 in
noncomputable def t_Math_min_J : List AI := [(2, 0, 0, 1, 0, 0, []), (2, 1, 2, 1, 0, 0, []), (14, 2, 6, 0, 4, 0, []), (15, 3, 6, 0, 4, 0, []), (2, 6, 0, 1, 0, 0, []), (19, 7, 7, 0, 0, 0, []), (2, 10, 2, 1, 0, 0, []), (34, 11, 0, 0, 0, 0, [])]
noncomputable def i_Math_min_J : MI := (⟨"java/lang/Math", "min", "(JJ)J"⟩, prog_16_method_70_code, 4, Option.some Jvm.ClassFile.FieldType.long, 15, 2, t_Math_min_J)
set_option maxRecDepth 100000 in
noncomputable def t_L_law : List AI := [(37, 0, 11, 0, 7, 0, [18]), (28, 3, 0, 0, 0, 0, []), (33, 4, 85, 0, 9, 0, [182, 11]), (3, 7, 1, 2, 0, 0, []), (37, 8, 12, 0, 10, 0, [19]), (28, 11, 0, 0, 0, 0, []), (33, 12, 147, 0, 12, 0, [183, 12]), (3, 15, 2, 2, 0, 0, []), (0, 16, 0, 0, 0, 0, []), (3, 17, 3, 0, 0, 0, []), (2, 18, 3, 0, 0, 0, []), (2, 19, 0, 2, 0, 0, []), (27, 20, 903, 0, 0, 0, []), (0, 21, 0, 0, 1, 6, []), (5, 23, 0, 0, 1, 0, []), (16, 24, 1203, 0, 4, 0, []), (2, 27, 0, 2, 0, 0, []), (2, 28, 3, 0, 0, 0, []), (25, 29, 903, 0, 0, 0, []), (0, 30, 0, 0, 1, 63, []), (5, 32, 0, 0, 3, 0, []), (20, 33, 1201, 171, 0, 0, [22, 49, 56, 83, 110, 147, 184, 221, 248, 285, 312, 329, 366, 383, 400, 417, 465, 482, 529, 556, 603, 640, 677, 714, 731, 768, 795, 802, 819, 846, 893, 930, 947, 974, 1011, 1072, 1100, 1157, 1184]), (2, 204, 1, 2, 0, 0, []), (2, 205, 0, 2, 0, 0, []), (2, 206, 3, 0, 0, 0, []), (0, 207, 0, 0, 0, 1, []), (5, 208, 0, 0, 0, 0, []), (25, 209, 903, 0, 0, 0, []), (2, 210, 0, 2, 0, 0, []), (2, 211, 3, 0, 0, 0, []), (0, 212, 0, 0, 0, 2, []), (5, 213, 0, 0, 0, 0, []), (25, 214, 903, 0, 0, 0, []), (31, 215, 86, 11, 13, 2, [184, 132]), (2, 218, 2, 2, 0, 0, []), (2, 219, 0, 2, 0, 0, []), (2, 220, 3, 0, 0, 0, []), (0, 221, 0, 0, 0, 1, []), (5, 222, 0, 0, 0, 0, []), (25, 223, 903, 0, 0, 0, []), (2, 224, 0, 2, 0, 0, []), (2, 225, 3, 0, 0, 0, []), (0, 226, 0, 0, 0, 2, []), (5, 227, 0, 0, 0, 0, []), (25, 228, 903, 0, 0, 0, []), (31, 229, 152, 12, 17, 2, [185, 133]), (16, 232, 1201, 0, 0, 0, []), (0, 235, 0, 0, 0, 0, []), (34, 236, 0, 0, 0, 0, []), (2, 237, 1, 2, 0, 0, []), (31, 238, 87, 11, 18, 0, [186, 134]), (2, 241, 2, 2, 0, 0, []), (31, 242, 158, 12, 22, 0, [187, 135]), (16, 245, 1201, 0, 0, 0, []), (0, 248, 0, 0, 0, 0, []), (34, 249, 0, 0, 0, 0, []), (2, 250, 1, 2, 0, 0, []), (2, 251, 0, 2, 0, 0, []), (2, 252, 3, 0, 0, 0, []), (0, 253, 0, 0, 0, 1, []), (5, 254, 0, 0, 0, 0, []), (25, 255, 903, 0, 0, 0, []), (2, 256, 0, 2, 0, 0, []), (2, 257, 3, 0, 0, 0, []), (0, 258, 0, 0, 0, 2, []), (5, 259, 0, 0, 0, 0, []), (25, 260, 903, 0, 0, 0, []), (31, 261, 88, 11, 23, 2, [188, 136]), (2, 264, 2, 2, 0, 0, []), (2, 265, 0, 2, 0, 0, []), (2, 266, 3, 0, 0, 0, []), (0, 267, 0, 0, 0, 1, []), (5, 268, 0, 0, 0, 0, []), (25, 269, 903, 0, 0, 0, []), (2, 270, 0, 2, 0, 0, []), (2, 271, 3, 0, 0, 0, []), (0, 272, 0, 0, 0, 2, []), (5, 273, 0, 0, 0, 0, []), (25, 274, 903, 0, 0, 0, []), (31, 275, 161, 12, 26, 2, [189, 137]), (16, 278, 1201, 0, 0, 0, []), (0, 281, 0, 0, 0, 0, []), (34, 282, 0, 0, 0, 0, []), (2, 283, 1, 2, 0, 0, []), (2, 284, 0, 2, 0, 0, []), (2, 285, 3, 0, 0, 0, []), (0, 286, 0, 0, 0, 1, []), (5, 287, 0, 0, 0, 0, []), (25, 288, 903, 0, 0, 0, []), (2, 289, 0, 2, 0, 0, []), (2, 290, 3, 0, 0, 0, []), (0, 291, 0, 0, 0, 2, []), (5, 292, 0, 0, 0, 0, []), (25, 293, 903, 0, 0, 0, []), (31, 294, 89, 11, 27, 2, [190, 138]), (2, 297, 2, 2, 0, 0, []), (2, 298, 0, 2, 0, 0, []), (2, 299, 3, 0, 0, 0, []), (0, 300, 0, 0, 0, 1, []), (5, 301, 0, 0, 0, 0, []), (25, 302, 903, 0, 0, 0, []), (2, 303, 0, 2, 0, 0, []), (2, 304, 3, 0, 0, 0, []), (0, 305, 0, 0, 0, 2, []), (5, 306, 0, 0, 0, 0, []), (25, 307, 903, 0, 0, 0, []), (31, 308, 162, 12, 30, 2, [191, 139]), (16, 311, 1201, 0, 0, 0, []), (0, 314, 0, 0, 0, 0, []), (34, 315, 0, 0, 0, 0, []), (2, 316, 1, 2, 0, 0, []), (2, 317, 0, 2, 0, 0, []), (2, 318, 3, 0, 0, 0, []), (0, 319, 0, 0, 0, 1, []), (5, 320, 0, 0, 0, 0, []), (25, 321, 903, 0, 0, 0, []), (2, 322, 0, 2, 0, 0, []), (2, 323, 3, 0, 0, 0, []), (0, 324, 0, 0, 0, 2, []), (5, 325, 0, 0, 0, 0, []), (25, 326, 903, 0, 0, 0, []), (2, 327, 0, 2, 0, 0, []), (2, 328, 3, 0, 0, 0, []), (0, 329, 0, 0, 0, 3, []), (5, 330, 0, 0, 0, 0, []), (25, 331, 903, 0, 0, 0, []), (31, 332, 90, 11, 31, 3, [192, 140]), (2, 335, 2, 2, 0, 0, []), (2, 336, 0, 2, 0, 0, []), (2, 337, 3, 0, 0, 0, []), (0, 338, 0, 0, 0, 1, []), (5, 339, 0, 0, 0, 0, []), (25, 340, 903, 0, 0, 0, []), (2, 341, 0, 2, 0, 0, []), (2, 342, 3, 0, 0, 0, []), (0, 343, 0, 0, 0, 2, []), (5, 344, 0, 0, 0, 0, []), (25, 345, 903, 0, 0, 0, []), (2, 346, 0, 2, 0, 0, []), (2, 347, 3, 0, 0, 0, []), (0, 348, 0, 0, 0, 3, []), (5, 349, 0, 0, 0, 0, []), (25, 350, 903, 0, 0, 0, []), (31, 351, 163, 12, 35, 3, [193, 141]), (16, 354, 1201, 0, 0, 0, []), (0, 357, 0, 0, 0, 0, []), (34, 358, 0, 0, 0, 0, []), (2, 359, 1, 2, 0, 0, []), (2, 360, 0, 2, 0, 0, []), (2, 361, 3, 0, 0, 0, []), (0, 362, 0, 0, 0, 1, []), (5, 363, 0, 0, 0, 0, []), (25, 364, 903, 0, 0, 0, []), (2, 365, 0, 2, 0, 0, []), (2, 366, 3, 0, 0, 0, []), (0, 367, 0, 0, 0, 2, []), (5, 368, 0, 0, 0, 0, []), (25, 369, 903, 0, 0, 0, []), (2, 370, 0, 2, 0, 0, []), (2, 371, 3, 0, 0, 0, []), (0, 372, 0, 0, 0, 3, []), (5, 373, 0, 0, 0, 0, []), (25, 374, 903, 0, 0, 0, []), (31, 375, 91, 11, 36, 3, [194, 142]), (2, 378, 2, 2, 0, 0, []), (2, 379, 0, 2, 0, 0, []), (2, 380, 3, 0, 0, 0, []), (0, 381, 0, 0, 0, 1, []), (5, 382, 0, 0, 0, 0, []), (25, 383, 903, 0, 0, 0, []), (2, 384, 0, 2, 0, 0, []), (2, 385, 3, 0, 0, 0, []), (0, 386, 0, 0, 0, 2, []), (5, 387, 0, 0, 0, 0, []), (25, 388, 903, 0, 0, 0, []), (2, 389, 0, 2, 0, 0, []), (2, 390, 3, 0, 0, 0, []), (0, 391, 0, 0, 0, 3, []), (5, 392, 0, 0, 0, 0, []), (25, 393, 903, 0, 0, 0, []), (31, 394, 164, 12, 39, 3, [195, 143]), (16, 397, 1201, 0, 0, 0, []), (0, 400, 0, 0, 0, 0, []), (34, 401, 0, 0, 0, 0, []), (2, 402, 1, 2, 0, 0, []), (2, 403, 0, 2, 0, 0, []), (2, 404, 3, 0, 0, 0, []), (0, 405, 0, 0, 0, 1, []), (5, 406, 0, 0, 0, 0, []), (25, 407, 903, 0, 0, 0, []), (2, 408, 0, 2, 0, 0, []), (2, 409, 3, 0, 0, 0, []), (0, 410, 0, 0, 0, 2, []), (5, 411, 0, 0, 0, 0, []), (25, 412, 903, 0, 0, 0, []), (2, 413, 0, 2, 0, 0, []), (2, 414, 3, 0, 0, 0, []), (0, 415, 0, 0, 0, 3, []), (5, 416, 0, 0, 0, 0, []), (25, 417, 903, 0, 0, 0, []), (31, 418, 92, 11, 40, 3, [196, 144]), (2, 421, 2, 2, 0, 0, []), (2, 422, 0, 2, 0, 0, []), (2, 423, 3, 0, 0, 0, []), (0, 424, 0, 0, 0, 1, []), (5, 425, 0, 0, 0, 0, []), (25, 426, 903, 0, 0, 0, []), (2, 427, 0, 2, 0, 0, []), (2, 428, 3, 0, 0, 0, []), (0, 429, 0, 0, 0, 2, []), (5, 430, 0, 0, 0, 0, []), (25, 431, 903, 0, 0, 0, []), (2, 432, 0, 2, 0, 0, []), (2, 433, 3, 0, 0, 0, []), (0, 434, 0, 0, 0, 3, []), (5, 435, 0, 0, 0, 0, []), (25, 436, 903, 0, 0, 0, []), (31, 437, 165, 12, 43, 3, [197, 145]), (16, 440, 1201, 0, 0, 0, []), (0, 443, 0, 0, 0, 0, []), (34, 444, 0, 0, 0, 0, []), (2, 445, 1, 2, 0, 0, []), (2, 446, 0, 2, 0, 0, []), (2, 447, 3, 0, 0, 0, []), (0, 448, 0, 0, 0, 1, []), (5, 449, 0, 0, 0, 0, []), (25, 450, 903, 0, 0, 0, []), (2, 451, 0, 2, 0, 0, []), (2, 452, 3, 0, 0, 0, []), (0, 453, 0, 0, 0, 2, []), (5, 454, 0, 0, 0, 0, []), (25, 455, 903, 0, 0, 0, []), (31, 456, 93, 11, 44, 2, [198, 146]), (2, 459, 2, 2, 0, 0, []), (2, 460, 0, 2, 0, 0, []), (2, 461, 3, 0, 0, 0, []), (0, 462, 0, 0, 0, 1, []), (5, 463, 0, 0, 0, 0, []), (25, 464, 903, 0, 0, 0, []), (2, 465, 0, 2, 0, 0, []), (2, 466, 3, 0, 0, 0, []), (0, 467, 0, 0, 0, 2, []), (5, 468, 0, 0, 0, 0, []), (25, 469, 903, 0, 0, 0, []), (31, 470, 160, 12, 47, 2, [199, 147]), (16, 473, 1201, 0, 0, 0, []), (0, 476, 0, 0, 0, 0, []), (34, 477, 0, 0, 0, 0, []), (2, 478, 1, 2, 0, 0, []), (2, 479, 0, 2, 0, 0, []), (2, 480, 3, 0, 0, 0, []), (0, 481, 0, 0, 0, 1, []), (5, 482, 0, 0, 0, 0, []), (25, 483, 903, 0, 0, 0, []), (2, 484, 0, 2, 0, 0, []), (2, 485, 3, 0, 0, 0, []), (0, 486, 0, 0, 0, 2, []), (5, 487, 0, 0, 0, 0, []), (25, 488, 903, 0, 0, 0, []), (2, 489, 0, 2, 0, 0, []), (2, 490, 3, 0, 0, 0, []), (0, 491, 0, 0, 0, 3, []), (5, 492, 0, 0, 0, 0, []), (25, 493, 903, 0, 0, 0, []), (31, 494, 94, 11, 48, 3, [200, 148]), (2, 497, 2, 2, 0, 0, []), (2, 498, 0, 2, 0, 0, []), (2, 499, 3, 0, 0, 0, []), (0, 500, 0, 0, 0, 1, []), (5, 501, 0, 0, 0, 0, []), (25, 502, 903, 0, 0, 0, []), (2, 503, 0, 2, 0, 0, []), (2, 504, 3, 0, 0, 0, []), (0, 505, 0, 0, 0, 2, []), (5, 506, 0, 0, 0, 0, []), (25, 507, 903, 0, 0, 0, []), (2, 508, 0, 2, 0, 0, []), (2, 509, 3, 0, 0, 0, []), (0, 510, 0, 0, 0, 3, []), (5, 511, 0, 0, 0, 0, []), (25, 512, 903, 0, 0, 0, []), (31, 513, 171, 12, 51, 3, [201, 149]), (16, 516, 1201, 0, 0, 0, []), (0, 519, 0, 0, 0, 0, []), (34, 520, 0, 0, 0, 0, []), (2, 521, 1, 2, 0, 0, []), (2, 522, 0, 2, 0, 0, []), (2, 523, 3, 0, 0, 0, []), (0, 524, 0, 0, 0, 1, []), (5, 525, 0, 0, 0, 0, []), (25, 526, 903, 0, 0, 0, []), (2, 527, 0, 2, 0, 0, []), (2, 528, 3, 0, 0, 0, []), (0, 529, 0, 0, 0, 2, []), (5, 530, 0, 0, 0, 0, []), (25, 531, 903, 0, 0, 0, []), (31, 532, 95, 11, 52, 2, [202, 150]), (2, 535, 2, 2, 0, 0, []), (2, 536, 0, 2, 0, 0, []), (2, 537, 3, 0, 0, 0, []), (0, 538, 0, 0, 0, 1, []), (5, 539, 0, 0, 0, 0, []), (25, 540, 903, 0, 0, 0, []), (2, 541, 0, 2, 0, 0, []), (2, 542, 3, 0, 0, 0, []), (0, 543, 0, 0, 0, 2, []), (5, 544, 0, 0, 0, 0, []), (25, 545, 903, 0, 0, 0, []), (31, 546, 172, 12, 55, 2, [203, 151]), (16, 549, 1201, 0, 0, 0, []), (0, 552, 0, 0, 0, 0, []), (34, 553, 0, 0, 0, 0, []), (2, 554, 1, 2, 0, 0, []), (2, 555, 0, 2, 0, 0, []), (2, 556, 3, 0, 0, 0, []), (0, 557, 0, 0, 0, 1, []), (5, 558, 0, 0, 0, 0, []), (25, 559, 903, 0, 0, 0, []), (31, 560, 96, 11, 56, 1, [204, 152]), (2, 563, 2, 2, 0, 0, []), (2, 564, 0, 2, 0, 0, []), (2, 565, 3, 0, 0, 0, []), (0, 566, 0, 0, 0, 1, []), (5, 567, 0, 0, 0, 0, []), (25, 568, 903, 0, 0, 0, []), (31, 569, 173, 12, 60, 1, [205, 153]), (16, 572, 1201, 0, 0, 0, []), (0, 575, 0, 0, 0, 0, []), (34, 576, 0, 0, 0, 0, []), (2, 577, 1, 2, 0, 0, []), (2, 578, 0, 2, 0, 0, []), (2, 579, 3, 0, 0, 0, []), (0, 580, 0, 0, 0, 1, []), (5, 581, 0, 0, 0, 0, []), (25, 582, 903, 0, 0, 0, []), (2, 583, 0, 2, 0, 0, []), (2, 584, 3, 0, 0, 0, []), (0, 585, 0, 0, 0, 2, []), (5, 586, 0, 0, 0, 0, []), (25, 587, 903, 0, 0, 0, []), (2, 588, 0, 2, 0, 0, []), (2, 589, 3, 0, 0, 0, []), (0, 590, 0, 0, 0, 3, []), (5, 591, 0, 0, 0, 0, []), (25, 592, 903, 0, 0, 0, []), (31, 593, 97, 11, 61, 3, [206, 154]), (2, 596, 2, 2, 0, 0, []), (2, 597, 0, 2, 0, 0, []), (2, 598, 3, 0, 0, 0, []), (0, 599, 0, 0, 0, 1, []), (5, 600, 0, 0, 0, 0, []), (25, 601, 903, 0, 0, 0, []), (2, 602, 0, 2, 0, 0, []), (2, 603, 3, 0, 0, 0, []), (0, 604, 0, 0, 0, 2, []), (5, 605, 0, 0, 0, 0, []), (25, 606, 903, 0, 0, 0, []), (2, 607, 0, 2, 0, 0, []), (2, 608, 3, 0, 0, 0, []), (0, 609, 0, 0, 0, 3, []), (5, 610, 0, 0, 0, 0, []), (25, 611, 903, 0, 0, 0, []), (31, 612, 174, 12, 64, 3, [207, 155]), (16, 615, 1201, 0, 0, 0, []), (0, 618, 0, 0, 0, 0, []), (34, 619, 0, 0, 0, 0, []), (2, 620, 1, 2, 0, 0, []), (2, 621, 0, 2, 0, 0, []), (2, 622, 3, 0, 0, 0, []), (0, 623, 0, 0, 0, 1, []), (5, 624, 0, 0, 0, 0, []), (25, 625, 903, 0, 0, 0, []), (31, 626, 98, 11, 65, 1, [208, 156]), (2, 629, 2, 2, 0, 0, []), (2, 630, 0, 2, 0, 0, []), (2, 631, 3, 0, 0, 0, []), (0, 632, 0, 0, 0, 1, []), (5, 633, 0, 0, 0, 0, []), (25, 634, 903, 0, 0, 0, []), (31, 635, 181, 12, 68, 1, [209, 157]), (16, 638, 1201, 0, 0, 0, []), (0, 641, 0, 0, 0, 0, []), (34, 642, 0, 0, 0, 0, []), (2, 643, 1, 2, 0, 0, []), (2, 644, 0, 2, 0, 0, []), (2, 645, 3, 0, 0, 0, []), (0, 646, 0, 0, 0, 1, []), (5, 647, 0, 0, 0, 0, []), (25, 648, 903, 0, 0, 0, []), (31, 649, 99, 11, 69, 1, [210, 158]), (2, 652, 2, 2, 0, 0, []), (2, 653, 0, 2, 0, 0, []), (2, 654, 3, 0, 0, 0, []), (0, 655, 0, 0, 0, 1, []), (5, 656, 0, 0, 0, 0, []), (25, 657, 903, 0, 0, 0, []), (31, 658, 182, 12, 72, 1, [211, 159]), (16, 661, 1201, 0, 0, 0, []), (0, 664, 0, 0, 0, 0, []), (34, 665, 0, 0, 0, 0, []), (2, 666, 1, 2, 0, 0, []), (2, 667, 0, 2, 0, 0, []), (2, 668, 3, 0, 0, 0, []), (0, 669, 0, 0, 0, 1, []), (5, 670, 0, 0, 0, 0, []), (25, 671, 903, 0, 0, 0, []), (31, 672, 100, 11, 73, 1, [212, 160]), (2, 675, 2, 2, 0, 0, []), (2, 676, 0, 2, 0, 0, []), (2, 677, 3, 0, 0, 0, []), (0, 678, 0, 0, 0, 1, []), (5, 679, 0, 0, 0, 0, []), (25, 680, 903, 0, 0, 0, []), (31, 681, 183, 12, 76, 1, [213, 161]), (16, 684, 1201, 0, 0, 0, []), (0, 687, 0, 0, 0, 0, []), (34, 688, 0, 0, 0, 0, []), (2, 689, 1, 2, 0, 0, []), (2, 690, 0, 2, 0, 0, []), (2, 691, 3, 0, 0, 0, []), (0, 692, 0, 0, 0, 1, []), (5, 693, 0, 0, 0, 0, []), (25, 694, 903, 0, 0, 0, []), (2, 695, 0, 2, 0, 0, []), (2, 696, 3, 0, 0, 0, []), (0, 697, 0, 0, 0, 2, []), (5, 698, 0, 0, 0, 0, []), (25, 699, 903, 0, 0, 0, []), (2, 700, 0, 2, 0, 0, []), (2, 701, 3, 0, 0, 0, []), (0, 702, 0, 0, 0, 3, []), (5, 703, 0, 0, 0, 0, []), (25, 704, 903, 0, 0, 0, []), (2, 705, 0, 2, 0, 0, []), (2, 706, 3, 0, 0, 0, []), (0, 707, 0, 0, 0, 4, []), (5, 708, 0, 0, 0, 0, []), (25, 709, 903, 0, 0, 0, []), (31, 710, 101, 11, 77, 4, [214, 162]), (2, 713, 2, 2, 0, 0, []), (2, 714, 0, 2, 0, 0, []), (2, 715, 3, 0, 0, 0, []), (0, 716, 0, 0, 0, 1, []), (5, 717, 0, 0, 0, 0, []), (25, 718, 903, 0, 0, 0, []), (2, 719, 0, 2, 0, 0, []), (2, 720, 3, 0, 0, 0, []), (0, 721, 0, 0, 0, 2, []), (5, 722, 0, 0, 0, 0, []), (25, 723, 903, 0, 0, 0, []), (2, 724, 0, 2, 0, 0, []), (2, 725, 3, 0, 0, 0, []), (0, 726, 0, 0, 0, 3, []), (5, 727, 0, 0, 0, 0, []), (25, 728, 903, 0, 0, 0, []), (2, 729, 0, 2, 0, 0, []), (2, 730, 3, 0, 0, 0, []), (0, 731, 0, 0, 0, 4, []), (5, 732, 0, 0, 0, 0, []), (25, 733, 903, 0, 0, 0, []), (31, 734, 204, 12, 81, 4, [215, 163]), (14, 737, 1201, 0, 0, 0, []), (15, 738, 1201, 0, 0, 0, []), (0, 741, 0, 0, 0, 0, []), (34, 742, 0, 0, 0, 0, []), (2, 743, 1, 2, 0, 0, []), (2, 744, 0, 2, 0, 0, []), (2, 745, 3, 0, 0, 0, []), (0, 746, 0, 0, 0, 1, []), (5, 747, 0, 0, 0, 0, []), (25, 748, 903, 0, 0, 0, []), (31, 749, 102, 11, 82, 1, [216, 164]), (2, 752, 2, 2, 0, 0, []), (2, 753, 0, 2, 0, 0, []), (2, 754, 3, 0, 0, 0, []), (0, 755, 0, 0, 0, 1, []), (5, 756, 0, 0, 0, 0, []), (25, 757, 903, 0, 0, 0, []), (31, 758, 205, 12, 85, 1, [217, 165]), (16, 761, 1201, 0, 0, 0, []), (0, 764, 0, 0, 0, 0, []), (34, 765, 0, 0, 0, 0, []), (2, 766, 1, 2, 0, 0, []), (2, 767, 0, 2, 0, 0, []), (2, 768, 3, 0, 0, 0, []), (0, 769, 0, 0, 0, 1, []), (5, 770, 0, 0, 0, 0, []), (25, 771, 903, 0, 0, 0, []), (2, 772, 0, 2, 0, 0, []), (2, 773, 3, 0, 0, 0, []), (0, 774, 0, 0, 0, 2, []), (5, 775, 0, 0, 0, 0, []), (25, 776, 903, 0, 0, 0, []), (2, 777, 0, 2, 0, 0, []), (2, 778, 3, 0, 0, 0, []), (0, 779, 0, 0, 0, 3, []), (5, 780, 0, 0, 0, 0, []), (25, 781, 903, 0, 0, 0, []), (2, 782, 0, 2, 0, 0, []), (2, 783, 3, 0, 0, 0, []), (0, 784, 0, 0, 0, 4, []), (5, 785, 0, 0, 0, 0, []), (25, 786, 903, 0, 0, 0, []), (31, 787, 103, 11, 86, 4, [218, 166]), (2, 790, 2, 2, 0, 0, []), (2, 791, 0, 2, 0, 0, []), (2, 792, 3, 0, 0, 0, []), (0, 793, 0, 0, 0, 1, []), (5, 794, 0, 0, 0, 0, []), (25, 795, 903, 0, 0, 0, []), (2, 796, 0, 2, 0, 0, []), (2, 797, 3, 0, 0, 0, []), (0, 798, 0, 0, 0, 2, []), (5, 799, 0, 0, 0, 0, []), (25, 800, 903, 0, 0, 0, []), (2, 801, 0, 2, 0, 0, []), (2, 802, 3, 0, 0, 0, []), (0, 803, 0, 0, 0, 3, []), (5, 804, 0, 0, 0, 0, []), (25, 805, 903, 0, 0, 0, []), (2, 806, 0, 2, 0, 0, []), (2, 807, 3, 0, 0, 0, []), (0, 808, 0, 0, 0, 4, []), (5, 809, 0, 0, 0, 0, []), (25, 810, 903, 0, 0, 0, []), (31, 811, 208, 12, 90, 4, [219, 167]), (16, 814, 1201, 0, 0, 0, []), (0, 817, 0, 0, 0, 0, []), (34, 818, 0, 0, 0, 0, []), (2, 819, 1, 2, 0, 0, []), (2, 820, 0, 2, 0, 0, []), (2, 821, 3, 0, 0, 0, []), (0, 822, 0, 0, 0, 1, []), (5, 823, 0, 0, 0, 0, []), (25, 824, 903, 0, 0, 0, []), (2, 825, 0, 2, 0, 0, []), (2, 826, 3, 0, 0, 0, []), (0, 827, 0, 0, 0, 2, []), (5, 828, 0, 0, 0, 0, []), (25, 829, 903, 0, 0, 0, []), (31, 830, 104, 11, 91, 2, [220, 168]), (2, 833, 2, 2, 0, 0, []), (2, 834, 0, 2, 0, 0, []), (2, 835, 3, 0, 0, 0, []), (0, 836, 0, 0, 0, 1, []), (5, 837, 0, 0, 0, 0, []), (25, 838, 903, 0, 0, 0, []), (2, 839, 0, 2, 0, 0, []), (2, 840, 3, 0, 0, 0, []), (0, 841, 0, 0, 0, 2, []), (5, 842, 0, 0, 0, 0, []), (25, 843, 903, 0, 0, 0, []), (31, 844, 209, 12, 94, 2, [221, 169]), (16, 847, 1201, 0, 0, 0, []), (0, 850, 0, 0, 0, 0, []), (34, 851, 0, 0, 0, 0, []), (2, 852, 1, 2, 0, 0, []), (2, 853, 0, 2, 0, 0, []), (2, 854, 3, 0, 0, 0, []), (0, 855, 0, 0, 0, 1, []), (5, 856, 0, 0, 0, 0, []), (25, 857, 903, 0, 0, 0, []), (2, 858, 0, 2, 0, 0, []), (2, 859, 3, 0, 0, 0, []), (0, 860, 0, 0, 0, 2, []), (5, 861, 0, 0, 0, 0, []), (25, 862, 903, 0, 0, 0, []), (2, 863, 0, 2, 0, 0, []), (2, 864, 3, 0, 0, 0, []), (0, 865, 0, 0, 0, 3, []), (5, 866, 0, 0, 0, 0, []), (25, 867, 903, 0, 0, 0, []), (2, 868, 0, 2, 0, 0, []), (2, 869, 3, 0, 0, 0, []), (0, 870, 0, 0, 0, 4, []), (5, 871, 0, 0, 0, 0, []), (25, 872, 903, 0, 0, 0, []), (31, 873, 105, 11, 95, 4, [222, 170]), (2, 876, 2, 2, 0, 0, []), (2, 877, 0, 2, 0, 0, []), (2, 878, 3, 0, 0, 0, []), (0, 879, 0, 0, 0, 1, []), (5, 880, 0, 0, 0, 0, []), (25, 881, 903, 0, 0, 0, []), (2, 882, 0, 2, 0, 0, []), (2, 883, 3, 0, 0, 0, []), (0, 884, 0, 0, 0, 2, []), (5, 885, 0, 0, 0, 0, []), (25, 886, 903, 0, 0, 0, []), (2, 887, 0, 2, 0, 0, []), (2, 888, 3, 0, 0, 0, []), (0, 889, 0, 0, 0, 3, []), (5, 890, 0, 0, 0, 0, []), (25, 891, 903, 0, 0, 0, []), (2, 892, 0, 2, 0, 0, []), (2, 893, 3, 0, 0, 0, []), (0, 894, 0, 0, 0, 4, []), (5, 895, 0, 0, 0, 0, []), (25, 896, 903, 0, 0, 0, []), (31, 897, 214, 12, 98, 4, [223, 171]), (16, 900, 1201, 0, 0, 0, []), (0, 903, 0, 0, 0, 0, []), (34, 904, 0, 0, 0, 0, []), (2, 905, 1, 2, 0, 0, []), (2, 906, 0, 2, 0, 0, []), (2, 907, 3, 0, 0, 0, []), (0, 908, 0, 0, 0, 1, []), (5, 909, 0, 0, 0, 0, []), (25, 910, 903, 0, 0, 0, []), (2, 911, 0, 2, 0, 0, []), (2, 912, 3, 0, 0, 0, []), (0, 913, 0, 0, 0, 2, []), (5, 914, 0, 0, 0, 0, []), (25, 915, 903, 0, 0, 0, []), (2, 916, 0, 2, 0, 0, []), (2, 917, 3, 0, 0, 0, []), (0, 918, 0, 0, 0, 3, []), (5, 919, 0, 0, 0, 0, []), (25, 920, 903, 0, 0, 0, []), (31, 921, 106, 11, 99, 3, [224, 172]), (2, 924, 2, 2, 0, 0, []), (2, 925, 0, 2, 0, 0, []), (2, 926, 3, 0, 0, 0, []), (0, 927, 0, 0, 0, 1, []), (5, 928, 0, 0, 0, 0, []), (25, 929, 903, 0, 0, 0, []), (2, 930, 0, 2, 0, 0, []), (2, 931, 3, 0, 0, 0, []), (0, 932, 0, 0, 0, 2, []), (5, 933, 0, 0, 0, 0, []), (25, 934, 903, 0, 0, 0, []), (2, 935, 0, 2, 0, 0, []), (2, 936, 3, 0, 0, 0, []), (0, 937, 0, 0, 0, 3, []), (5, 938, 0, 0, 0, 0, []), (25, 939, 903, 0, 0, 0, []), (31, 940, 216, 12, 102, 3, [225, 173]), (16, 943, 1201, 0, 0, 0, []), (0, 946, 0, 0, 0, 0, []), (34, 947, 0, 0, 0, 0, []), (2, 948, 1, 2, 0, 0, []), (2, 949, 0, 2, 0, 0, []), (2, 950, 3, 0, 0, 0, []), (0, 951, 0, 0, 0, 1, []), (5, 952, 0, 0, 0, 0, []), (25, 953, 903, 0, 0, 0, []), (2, 954, 0, 2, 0, 0, []), (2, 955, 3, 0, 0, 0, []), (0, 956, 0, 0, 0, 2, []), (5, 957, 0, 0, 0, 0, []), (25, 958, 903, 0, 0, 0, []), (2, 959, 0, 2, 0, 0, []), (2, 960, 3, 0, 0, 0, []), (0, 961, 0, 0, 0, 3, []), (5, 962, 0, 0, 0, 0, []), (25, 963, 903, 0, 0, 0, []), (31, 964, 107, 11, 103, 3, [226, 174]), (2, 967, 2, 2, 0, 0, []), (2, 968, 0, 2, 0, 0, []), (2, 969, 3, 0, 0, 0, []), (0, 970, 0, 0, 0, 1, []), (5, 971, 0, 0, 0, 0, []), (25, 972, 903, 0, 0, 0, []), (2, 973, 0, 2, 0, 0, []), (2, 974, 3, 0, 0, 0, []), (0, 975, 0, 0, 0, 2, []), (5, 976, 0, 0, 0, 0, []), (25, 977, 903, 0, 0, 0, []), (2, 978, 0, 2, 0, 0, []), (2, 979, 3, 0, 0, 0, []), (0, 980, 0, 0, 0, 3, []), (5, 981, 0, 0, 0, 0, []), (25, 982, 903, 0, 0, 0, []), (31, 983, 217, 12, 106, 3, [227, 175]), (16, 986, 1201, 0, 0, 0, []), (0, 989, 0, 0, 0, 0, []), (34, 990, 0, 0, 0, 0, []), (2, 991, 1, 2, 0, 0, []), (2, 992, 0, 2, 0, 0, []), (2, 993, 3, 0, 0, 0, []), (0, 994, 0, 0, 0, 1, []), (5, 995, 0, 0, 0, 0, []), (25, 996, 903, 0, 0, 0, []), (2, 997, 0, 2, 0, 0, []), (2, 998, 3, 0, 0, 0, []), (0, 999, 0, 0, 0, 2, []), (5, 1000, 0, 0, 0, 0, []), (25, 1001, 903, 0, 0, 0, []), (2, 1002, 0, 2, 0, 0, []), (2, 1003, 3, 0, 0, 0, []), (0, 1004, 0, 0, 0, 3, []), (5, 1005, 0, 0, 0, 0, []), (25, 1006, 903, 0, 0, 0, []), (31, 1007, 108, 11, 107, 3, [228, 176]), (2, 1010, 2, 2, 0, 0, []), (2, 1011, 0, 2, 0, 0, []), (2, 1012, 3, 0, 0, 0, []), (0, 1013, 0, 0, 0, 1, []), (5, 1014, 0, 0, 0, 0, []), (25, 1015, 903, 0, 0, 0, []), (2, 1016, 0, 2, 0, 0, []), (2, 1017, 3, 0, 0, 0, []), (0, 1018, 0, 0, 0, 2, []), (5, 1019, 0, 0, 0, 0, []), (25, 1020, 903, 0, 0, 0, []), (2, 1021, 0, 2, 0, 0, []), (2, 1022, 3, 0, 0, 0, []), (0, 1023, 0, 0, 0, 3, []), (5, 1024, 0, 0, 0, 0, []), (25, 1025, 903, 0, 0, 0, []), (31, 1026, 218, 12, 110, 3, [229, 177]), (16, 1029, 1201, 0, 0, 0, []), (0, 1032, 0, 0, 0, 0, []), (34, 1033, 0, 0, 0, 0, []), (2, 1034, 1, 2, 0, 0, []), (2, 1035, 0, 2, 0, 0, []), (2, 1036, 3, 0, 0, 0, []), (0, 1037, 0, 0, 0, 1, []), (5, 1038, 0, 0, 0, 0, []), (25, 1039, 903, 0, 0, 0, []), (31, 1040, 109, 11, 111, 1, [230, 178]), (2, 1043, 2, 2, 0, 0, []), (2, 1044, 0, 2, 0, 0, []), (2, 1045, 3, 0, 0, 0, []), (0, 1046, 0, 0, 0, 1, []), (5, 1047, 0, 0, 0, 0, []), (25, 1048, 903, 0, 0, 0, []), (31, 1049, 220, 12, 114, 1, [231, 179]), (16, 1052, 1201, 0, 0, 0, []), (0, 1055, 0, 0, 0, 0, []), (34, 1056, 0, 0, 0, 0, []), (2, 1057, 1, 2, 0, 0, []), (2, 1058, 0, 2, 0, 0, []), (2, 1059, 3, 0, 0, 0, []), (0, 1060, 0, 0, 0, 1, []), (5, 1061, 0, 0, 0, 0, []), (25, 1062, 903, 0, 0, 0, []), (2, 1063, 0, 2, 0, 0, []), (2, 1064, 3, 0, 0, 0, []), (0, 1065, 0, 0, 0, 2, []), (5, 1066, 0, 0, 0, 0, []), (25, 1067, 903, 0, 0, 0, []), (2, 1068, 0, 2, 0, 0, []), (2, 1069, 3, 0, 0, 0, []), (0, 1070, 0, 0, 0, 3, []), (5, 1071, 0, 0, 0, 0, []), (25, 1072, 903, 0, 0, 0, []), (31, 1073, 110, 11, 115, 3, [232, 180]), (2, 1076, 2, 2, 0, 0, []), (2, 1077, 0, 2, 0, 0, []), (2, 1078, 3, 0, 0, 0, []), (0, 1079, 0, 0, 0, 1, []), (5, 1080, 0, 0, 0, 0, []), (25, 1081, 903, 0, 0, 0, []), (2, 1082, 0, 2, 0, 0, []), (2, 1083, 3, 0, 0, 0, []), (0, 1084, 0, 0, 0, 2, []), (5, 1085, 0, 0, 0, 0, []), (25, 1086, 903, 0, 0, 0, []), (2, 1087, 0, 2, 0, 0, []), (2, 1088, 3, 0, 0, 0, []), (0, 1089, 0, 0, 0, 3, []), (5, 1090, 0, 0, 0, 0, []), (25, 1091, 903, 0, 0, 0, []), (31, 1092, 223, 12, 118, 3, [233, 181]), (16, 1095, 1201, 0, 0, 0, []), (0, 1098, 0, 0, 0, 0, []), (34, 1099, 0, 0, 0, 0, []), (2, 1100, 1, 2, 0, 0, []), (2, 1101, 0, 2, 0, 0, []), (2, 1102, 3, 0, 0, 0, []), (0, 1103, 0, 0, 0, 1, []), (5, 1104, 0, 0, 0, 0, []), (25, 1105, 903, 0, 0, 0, []), (2, 1106, 0, 2, 0, 0, []), (2, 1107, 3, 0, 0, 0, []), (0, 1108, 0, 0, 0, 2, []), (5, 1109, 0, 0, 0, 0, []), (25, 1110, 903, 0, 0, 0, []), (31, 1111, 111, 11, 119, 2, [234, 182]), (2, 1114, 2, 2, 0, 0, []), (2, 1115, 0, 2, 0, 0, []), (2, 1116, 3, 0, 0, 0, []), (0, 1117, 0, 0, 0, 1, []), (5, 1118, 0, 0, 0, 0, []), (25, 1119, 903, 0, 0, 0, []), (2, 1120, 0, 2, 0, 0, []), (2, 1121, 3, 0, 0, 0, []), (0, 1122, 0, 0, 0, 2, []), (5, 1123, 0, 0, 0, 0, []), (25, 1124, 903, 0, 0, 0, []), (31, 1125, 225, 12, 122, 2, [235, 183]), (16, 1128, 1201, 0, 0, 0, []), (0, 1131, 0, 0, 0, 0, []), (34, 1132, 0, 0, 0, 0, []), (2, 1133, 1, 2, 0, 0, []), (31, 1134, 112, 11, 123, 0, [236, 184]), (2, 1137, 2, 2, 0, 0, []), (31, 1138, 226, 12, 126, 0, [237, 185]), (16, 1141, 1201, 0, 0, 0, []), (0, 1144, 0, 0, 0, 0, []), (34, 1145, 0, 0, 0, 0, []), (2, 1146, 1, 2, 0, 0, []), (2, 1147, 0, 2, 0, 0, []), (2, 1148, 3, 0, 0, 0, []), (0, 1149, 0, 0, 0, 1, []), (5, 1150, 0, 0, 0, 0, []), (25, 1151, 903, 0, 0, 0, []), (31, 1152, 113, 11, 127, 1, [238, 186]), (2, 1155, 2, 2, 0, 0, []), (2, 1156, 0, 2, 0, 0, []), (2, 1157, 3, 0, 0, 0, []), (0, 1158, 0, 0, 0, 1, []), (5, 1159, 0, 0, 0, 0, []), (25, 1160, 903, 0, 0, 0, []), (31, 1161, 227, 12, 130, 1, [239, 187]), (16, 1164, 1201, 0, 0, 0, []), (0, 1167, 0, 0, 0, 0, []), (34, 1168, 0, 0, 0, 0, []), (2, 1169, 1, 2, 0, 0, []), (2, 1170, 0, 2, 0, 0, []), (2, 1171, 3, 0, 0, 0, []), (0, 1172, 0, 0, 0, 1, []), (5, 1173, 0, 0, 0, 0, []), (25, 1174, 903, 0, 0, 0, []), (2, 1175, 0, 2, 0, 0, []), (2, 1176, 3, 0, 0, 0, []), (0, 1177, 0, 0, 0, 2, []), (5, 1178, 0, 0, 0, 0, []), (25, 1179, 903, 0, 0, 0, []), (31, 1180, 114, 11, 131, 2, [240, 188]), (2, 1183, 2, 2, 0, 0, []), (2, 1184, 0, 2, 0, 0, []), (2, 1185, 3, 0, 0, 0, []), (0, 1186, 0, 0, 0, 1, []), (5, 1187, 0, 0, 0, 0, []), (25, 1188, 903, 0, 0, 0, []), (2, 1189, 0, 2, 0, 0, []), (2, 1190, 3, 0, 0, 0, []), (0, 1191, 0, 0, 0, 2, []), (5, 1192, 0, 0, 0, 0, []), (25, 1193, 903, 0, 0, 0, []), (31, 1194, 228, 12, 134, 2, [241, 189]), (16, 1197, 1201, 0, 0, 0, []), (0, 1200, 0, 0, 0, 0, []), (34, 1201, 0, 0, 0, 0, []), (2, 1202, 1, 2, 0, 0, []), (2, 1203, 0, 2, 0, 0, []), (2, 1204, 3, 0, 0, 0, []), (0, 1205, 0, 0, 0, 1, []), (5, 1206, 0, 0, 0, 0, []), (25, 1207, 903, 0, 0, 0, []), (2, 1208, 0, 2, 0, 0, []), (2, 1209, 3, 0, 0, 0, []), (0, 1210, 0, 0, 0, 2, []), (5, 1211, 0, 0, 0, 0, []), (25, 1212, 903, 0, 0, 0, []), (2, 1213, 0, 2, 0, 0, []), (2, 1214, 3, 0, 0, 0, []), (0, 1215, 0, 0, 0, 3, []), (5, 1216, 0, 0, 0, 0, []), (25, 1217, 903, 0, 0, 0, []), (2, 1218, 0, 2, 0, 0, []), (2, 1219, 3, 0, 0, 0, []), (0, 1220, 0, 0, 0, 4, []), (5, 1221, 0, 0, 0, 0, []), (25, 1222, 903, 0, 0, 0, []), (31, 1223, 115, 11, 135, 4, [242, 190]), (2, 1226, 2, 2, 0, 0, []), (2, 1227, 0, 2, 0, 0, []), (2, 1228, 3, 0, 0, 0, []), (0, 1229, 0, 0, 0, 1, []), (5, 1230, 0, 0, 0, 0, []), (25, 1231, 903, 0, 0, 0, []), (2, 1232, 0, 2, 0, 0, []), (2, 1233, 3, 0, 0, 0, []), (0, 1234, 0, 0, 0, 2, []), (5, 1235, 0, 0, 0, 0, []), (25, 1236, 903, 0, 0, 0, []), (2, 1237, 0, 2, 0, 0, []), (2, 1238, 3, 0, 0, 0, []), (0, 1239, 0, 0, 0, 3, []), (5, 1240, 0, 0, 0, 0, []), (25, 1241, 903, 0, 0, 0, []), (2, 1242, 0, 2, 0, 0, []), (2, 1243, 3, 0, 0, 0, []), (0, 1244, 0, 0, 0, 4, []), (5, 1245, 0, 0, 0, 0, []), (25, 1246, 903, 0, 0, 0, []), (31, 1247, 229, 12, 138, 4, [243, 191]), (16, 1250, 1201, 0, 0, 0, []), (0, 1253, 0, 0, 0, 0, []), (34, 1254, 0, 0, 0, 0, []), (2, 1255, 1, 2, 0, 0, []), (2, 1256, 0, 2, 0, 0, []), (2, 1257, 3, 0, 0, 0, []), (0, 1258, 0, 0, 0, 1, []), (5, 1259, 0, 0, 0, 0, []), (25, 1260, 903, 0, 0, 0, []), (2, 1261, 0, 2, 0, 0, []), (2, 1262, 3, 0, 0, 0, []), (0, 1263, 0, 0, 0, 2, []), (5, 1264, 0, 0, 0, 0, []), (25, 1265, 903, 0, 0, 0, []), (2, 1266, 0, 2, 0, 0, []), (2, 1267, 3, 0, 0, 0, []), (0, 1268, 0, 0, 0, 3, []), (5, 1269, 0, 0, 0, 0, []), (25, 1270, 903, 0, 0, 0, []), (31, 1271, 116, 11, 139, 3, [244, 192]), (2, 1274, 2, 2, 0, 0, []), (2, 1275, 0, 2, 0, 0, []), (2, 1276, 3, 0, 0, 0, []), (0, 1277, 0, 0, 0, 1, []), (5, 1278, 0, 0, 0, 0, []), (25, 1279, 903, 0, 0, 0, []), (2, 1280, 0, 2, 0, 0, []), (2, 1281, 3, 0, 0, 0, []), (0, 1282, 0, 0, 0, 2, []), (5, 1283, 0, 0, 0, 0, []), (25, 1284, 903, 0, 0, 0, []), (2, 1285, 0, 2, 0, 0, []), (2, 1286, 3, 0, 0, 0, []), (0, 1287, 0, 0, 0, 3, []), (5, 1288, 0, 0, 0, 0, []), (25, 1289, 903, 0, 0, 0, []), (31, 1290, 236, 12, 142, 3, [245, 193]), (16, 1293, 1201, 0, 0, 0, []), (0, 1296, 0, 0, 0, 0, []), (34, 1297, 0, 0, 0, 0, []), (2, 1298, 1, 2, 0, 0, []), (2, 1299, 0, 2, 0, 0, []), (2, 1300, 3, 0, 0, 0, []), (0, 1301, 0, 0, 0, 1, []), (5, 1302, 0, 0, 0, 0, []), (25, 1303, 903, 0, 0, 0, []), (31, 1304, 117, 11, 143, 1, [246, 194]), (2, 1307, 2, 2, 0, 0, []), (2, 1308, 0, 2, 0, 0, []), (2, 1309, 3, 0, 0, 0, []), (0, 1310, 0, 0, 0, 1, []), (5, 1311, 0, 0, 0, 0, []), (25, 1312, 903, 0, 0, 0, []), (31, 1313, 237, 12, 146, 1, [247, 195]), (16, 1316, 1201, 0, 0, 0, []), (0, 1319, 0, 0, 0, 0, []), (34, 1320, 0, 0, 0, 0, []), (2, 1321, 1, 2, 0, 0, []), (2, 1322, 0, 2, 0, 0, []), (2, 1323, 3, 0, 0, 0, []), (0, 1324, 0, 0, 0, 1, []), (5, 1325, 0, 0, 0, 0, []), (25, 1326, 903, 0, 0, 0, []), (2, 1327, 0, 2, 0, 0, []), (2, 1328, 3, 0, 0, 0, []), (0, 1329, 0, 0, 0, 2, []), (5, 1330, 0, 0, 0, 0, []), (25, 1331, 903, 0, 0, 0, []), (31, 1332, 118, 11, 147, 2, [248, 196]), (2, 1335, 2, 2, 0, 0, []), (2, 1336, 0, 2, 0, 0, []), (2, 1337, 3, 0, 0, 0, []), (0, 1338, 0, 0, 0, 1, []), (5, 1339, 0, 0, 0, 0, []), (25, 1340, 903, 0, 0, 0, []), (2, 1341, 0, 2, 0, 0, []), (2, 1342, 3, 0, 0, 0, []), (0, 1343, 0, 0, 0, 2, []), (5, 1344, 0, 0, 0, 0, []), (25, 1345, 903, 0, 0, 0, []), (31, 1346, 239, 12, 150, 2, [249, 197]), (16, 1349, 1201, 0, 0, 0, []), (0, 1352, 0, 0, 0, 0, []), (34, 1353, 0, 0, 0, 0, []), (2, 1354, 1, 2, 0, 0, []), (2, 1355, 0, 2, 0, 0, []), (2, 1356, 3, 0, 0, 0, []), (0, 1357, 0, 0, 0, 1, []), (5, 1358, 0, 0, 0, 0, []), (25, 1359, 903, 0, 0, 0, []), (2, 1360, 0, 2, 0, 0, []), (2, 1361, 3, 0, 0, 0, []), (0, 1362, 0, 0, 0, 2, []), (5, 1363, 0, 0, 0, 0, []), (25, 1364, 903, 0, 0, 0, []), (2, 1365, 0, 2, 0, 0, []), (2, 1366, 3, 0, 0, 0, []), (0, 1367, 0, 0, 0, 3, []), (5, 1368, 0, 0, 0, 0, []), (25, 1369, 903, 0, 0, 0, []), (31, 1370, 119, 11, 151, 3, [250, 198]), (2, 1373, 2, 2, 0, 0, []), (2, 1374, 0, 2, 0, 0, []), (2, 1375, 3, 0, 0, 0, []), (0, 1376, 0, 0, 0, 1, []), (5, 1377, 0, 0, 0, 0, []), (25, 1378, 903, 0, 0, 0, []), (2, 1379, 0, 2, 0, 0, []), (2, 1380, 3, 0, 0, 0, []), (0, 1381, 0, 0, 0, 2, []), (5, 1382, 0, 0, 0, 0, []), (25, 1383, 903, 0, 0, 0, []), (2, 1384, 0, 2, 0, 0, []), (2, 1385, 3, 0, 0, 0, []), (0, 1386, 0, 0, 0, 3, []), (5, 1387, 0, 0, 0, 0, []), (25, 1388, 903, 0, 0, 0, []), (31, 1389, 240, 12, 154, 3, [251, 199]), (16, 1392, 1201, 0, 0, 0, []), (0, 1395, 0, 0, 0, 0, []), (34, 1396, 0, 0, 0, 0, []), (2, 1397, 1, 2, 0, 0, []), (2, 1398, 0, 2, 0, 0, []), (2, 1399, 3, 0, 0, 0, []), (0, 1400, 0, 0, 0, 1, []), (5, 1401, 0, 0, 0, 0, []), (25, 1402, 903, 0, 0, 0, []), (2, 1403, 0, 2, 0, 0, []), (2, 1404, 3, 0, 0, 0, []), (0, 1405, 0, 0, 0, 2, []), (5, 1406, 0, 0, 0, 0, []), (25, 1407, 903, 0, 0, 0, []), (2, 1408, 0, 2, 0, 0, []), (2, 1409, 3, 0, 0, 0, []), (0, 1410, 0, 0, 0, 3, []), (5, 1411, 0, 0, 0, 0, []), (25, 1412, 903, 0, 0, 0, []), (11, 1413, 0, 0, 0, 0, []), (0, 1414, 0, 0, 1, 32, []), (9, 1416, 0, 0, 0, 0, []), (2, 1417, 0, 2, 0, 0, []), (2, 1418, 3, 0, 0, 0, []), (0, 1419, 0, 0, 0, 4, []), (5, 1420, 0, 0, 0, 0, []), (25, 1421, 903, 0, 0, 0, []), (11, 1422, 0, 0, 0, 0, []), (1, 1423, 155, 0, 1, 4294967295, [12]), (7, 1426, 0, 0, 3, 0, []), (7, 1427, 0, 0, 4, 0, []), (31, 1428, 120, 11, 157, 3, [252, 200]), (2, 1431, 2, 2, 0, 0, []), (2, 1432, 0, 2, 0, 0, []), (2, 1433, 3, 0, 0, 0, []), (0, 1434, 0, 0, 0, 1, []), (5, 1435, 0, 0, 0, 0, []), (25, 1436, 903, 0, 0, 0, []), (2, 1437, 0, 2, 0, 0, []), (2, 1438, 3, 0, 0, 0, []), (0, 1439, 0, 0, 0, 2, []), (5, 1440, 0, 0, 0, 0, []), (25, 1441, 903, 0, 0, 0, []), (2, 1442, 0, 2, 0, 0, []), (2, 1443, 3, 0, 0, 0, []), (0, 1444, 0, 0, 0, 3, []), (5, 1445, 0, 0, 0, 0, []), (25, 1446, 903, 0, 0, 0, []), (11, 1447, 0, 0, 0, 0, []), (0, 1448, 0, 0, 1, 32, []), (9, 1450, 0, 0, 0, 0, []), (2, 1451, 0, 2, 0, 0, []), (2, 1452, 3, 0, 0, 0, []), (0, 1453, 0, 0, 0, 4, []), (5, 1454, 0, 0, 0, 0, []), (25, 1455, 903, 0, 0, 0, []), (11, 1456, 0, 0, 0, 0, []), (1, 1457, 155, 0, 1, 4294967295, [12]), (7, 1460, 0, 0, 3, 0, []), (7, 1461, 0, 0, 4, 0, []), (31, 1462, 242, 12, 161, 3, [253, 201]), (16, 1465, 1201, 0, 0, 0, []), (0, 1468, 0, 0, 0, 0, []), (34, 1469, 0, 0, 0, 0, []), (2, 1470, 1, 2, 0, 0, []), (2, 1471, 0, 2, 0, 0, []), (2, 1472, 3, 0, 0, 0, []), (0, 1473, 0, 0, 0, 1, []), (5, 1474, 0, 0, 0, 0, []), (25, 1475, 903, 0, 0, 0, []), (2, 1476, 0, 2, 0, 0, []), (2, 1477, 3, 0, 0, 0, []), (0, 1478, 0, 0, 0, 2, []), (5, 1479, 0, 0, 0, 0, []), (25, 1480, 903, 0, 0, 0, []), (31, 1481, 121, 11, 162, 2, [254, 202]), (2, 1484, 2, 2, 0, 0, []), (2, 1485, 0, 2, 0, 0, []), (2, 1486, 3, 0, 0, 0, []), (0, 1487, 0, 0, 0, 1, []), (5, 1488, 0, 0, 0, 0, []), (25, 1489, 903, 0, 0, 0, []), (2, 1490, 0, 2, 0, 0, []), (2, 1491, 3, 0, 0, 0, []), (0, 1492, 0, 0, 0, 2, []), (5, 1493, 0, 0, 0, 0, []), (25, 1494, 903, 0, 0, 0, []), (31, 1495, 243, 12, 166, 2, [255, 203]), (14, 1498, 1201, 0, 0, 0, []), (15, 1499, 1201, 0, 0, 0, []), (0, 1502, 0, 0, 0, 0, []), (34, 1503, 0, 0, 0, 0, []), (2, 1504, 1, 2, 0, 0, []), (2, 1505, 0, 2, 0, 0, []), (2, 1506, 3, 0, 0, 0, []), (0, 1507, 0, 0, 0, 1, []), (5, 1508, 0, 0, 0, 0, []), (25, 1509, 903, 0, 0, 0, []), (2, 1510, 0, 2, 0, 0, []), (2, 1511, 3, 0, 0, 0, []), (0, 1512, 0, 0, 0, 2, []), (5, 1513, 0, 0, 0, 0, []), (25, 1514, 903, 0, 0, 0, []), (2, 1515, 0, 2, 0, 0, []), (2, 1516, 3, 0, 0, 0, []), (0, 1517, 0, 0, 0, 3, []), (5, 1518, 0, 0, 0, 0, []), (25, 1519, 903, 0, 0, 0, []), (2, 1520, 0, 2, 0, 0, []), (2, 1521, 3, 0, 0, 0, []), (0, 1522, 0, 0, 0, 4, []), (5, 1523, 0, 0, 0, 0, []), (25, 1524, 903, 0, 0, 0, []), (2, 1525, 0, 2, 0, 0, []), (2, 1526, 3, 0, 0, 0, []), (0, 1527, 0, 0, 0, 5, []), (5, 1528, 0, 0, 0, 0, []), (25, 1529, 903, 0, 0, 0, []), (31, 1530, 122, 11, 167, 5, [256, 204]), (2, 1533, 2, 2, 0, 0, []), (2, 1534, 0, 2, 0, 0, []), (2, 1535, 3, 0, 0, 0, []), (0, 1536, 0, 0, 0, 1, []), (5, 1537, 0, 0, 0, 0, []), (25, 1538, 903, 0, 0, 0, []), (2, 1539, 0, 2, 0, 0, []), (2, 1540, 3, 0, 0, 0, []), (0, 1541, 0, 0, 0, 2, []), (5, 1542, 0, 0, 0, 0, []), (25, 1543, 903, 0, 0, 0, []), (2, 1544, 0, 2, 0, 0, []), (2, 1545, 3, 0, 0, 0, []), (0, 1546, 0, 0, 0, 3, []), (5, 1547, 0, 0, 0, 0, []), (25, 1548, 903, 0, 0, 0, []), (2, 1549, 0, 2, 0, 0, []), (2, 1550, 3, 0, 0, 0, []), (0, 1551, 0, 0, 0, 4, []), (5, 1552, 0, 0, 0, 0, []), (25, 1553, 903, 0, 0, 0, []), (2, 1554, 0, 2, 0, 0, []), (2, 1555, 3, 0, 0, 0, []), (0, 1556, 0, 0, 0, 5, []), (5, 1557, 0, 0, 0, 0, []), (25, 1558, 903, 0, 0, 0, []), (31, 1559, 244, 12, 171, 5, [257, 205]), (16, 1562, 1201, 0, 0, 0, []), (0, 1565, 0, 0, 0, 0, []), (34, 1566, 0, 0, 0, 0, []), (2, 1567, 1, 2, 0, 0, []), (2, 1568, 0, 2, 0, 0, []), (2, 1569, 3, 0, 0, 0, []), (0, 1570, 0, 0, 0, 1, []), (5, 1571, 0, 0, 0, 0, []), (25, 1572, 903, 0, 0, 0, []), (2, 1573, 0, 2, 0, 0, []), (2, 1574, 3, 0, 0, 0, []), (0, 1575, 0, 0, 0, 2, []), (5, 1576, 0, 0, 0, 0, []), (25, 1577, 903, 0, 0, 0, []), (31, 1578, 123, 11, 172, 2, [258, 206]), (2, 1581, 2, 2, 0, 0, []), (2, 1582, 0, 2, 0, 0, []), (2, 1583, 3, 0, 0, 0, []), (0, 1584, 0, 0, 0, 1, []), (5, 1585, 0, 0, 0, 0, []), (25, 1586, 903, 0, 0, 0, []), (2, 1587, 0, 2, 0, 0, []), (2, 1588, 3, 0, 0, 0, []), (0, 1589, 0, 0, 0, 2, []), (5, 1590, 0, 0, 0, 0, []), (25, 1591, 903, 0, 0, 0, []), (31, 1592, 245, 12, 175, 2, [259, 207]), (16, 1595, 1201, 0, 0, 0, []), (0, 1598, 0, 0, 0, 0, []), (34, 1599, 0, 0, 0, 0, []), (2, 1600, 1, 2, 0, 0, []), (2, 1601, 0, 2, 0, 0, []), (2, 1602, 3, 0, 0, 0, []), (0, 1603, 0, 0, 0, 1, []), (5, 1604, 0, 0, 0, 0, []), (25, 1605, 903, 0, 0, 0, []), (31, 1606, 124, 11, 176, 1, [260, 208]), (2, 1609, 2, 2, 0, 0, []), (2, 1610, 0, 2, 0, 0, []), (2, 1611, 3, 0, 0, 0, []), (0, 1612, 0, 0, 0, 1, []), (5, 1613, 0, 0, 0, 0, []), (25, 1614, 903, 0, 0, 0, []), (31, 1615, 246, 12, 179, 1, [261, 209]), (16, 1618, 1201, 0, 0, 0, []), (0, 1621, 0, 0, 0, 0, []), (34, 1622, 0, 0, 0, 0, []), (4, 1623, 3, 0, 0, 6, []), (19, 1626, 10, 0, 0, 0, []), (0, 1629, 0, 0, 0, 1, []), (34, 1630, 0, 0, 0, 0, [])]
noncomputable def i_L_law : MI := (x, code, 4, some .boolean, 16, 1, t_L_law)
noncomputable def mtab : List MI := [i_Acts_init, i_Acts_clear, i_Acts_perform, i_Acts_note, i_Acts_begin, i_Eating_init, i_Eating_eat, i_Eating_choose, i_Eating_nextEaten, i_Eating_widen, i_Eating_pass, i_Evens_init, i_Evens_isTold, i_Evens_add, i_Evens_keepPoints, i_Evens_choose, i_Evens_leastOf, i_Giving_init, i_Giving_isPart, i_Giving_clear, i_Giving_become, i_Giving_forgetAll, i_Giving_unlist, i_Giving_append, i_Giving_relist, i_Giving_heldOf, i_Giving_firstOf, i_Giving_partsOfPerson, i_Giving_partsOfThing, i_Giving_barring, i_Giving_hasUnlisted, i_Giving_canBeParted, i_Hand_init, i_Hand_deal, i_Hand_take, i_Hand_countOf, i_Hand_pointsOf, i_Hand_gapOf, i_Parting_init, i_Parting_forget, i_Parting_split, i_Parting_measure, i_Parting_pickFirst, i_Parting_pickFor, i_Parting_canGoOn, i_Parting_mostOff, i_Rings_init, i_Rings_forget, i_Rings_find, i_Rings_findAlone, i_Rings_findLeft, i_Rings_isBetter, i_Rings_addPerson, i_Rings_isAmong, i_Rings_addThing, i_Shares_init, i_Shares_clear, i_Shares_addOrders, i_Shares_addHand, i_Shares_copyTable, i_Shares_mend, i_Shares_dropUnlisted, i_Shares_cut, i_Shelf_init, i_Shelf_keepKind, i_Shelf_keepRow, i_Shelf_hasRoom, i_Shelf_write, i_Tape_init, i_Tape_add, i_Tape_readGiving, i_Tape_readInstead, i_Tape_next, i_Tape_readThings, i_Tape_readLists, i_Tape_readList, i_Tape_readHeld, i_Trade_init, i_Trade_exchange, i_Trade_pointAll, i_Trade_holderOf, i_Trade_closeRing, i_Trade_isInRing, i_Trade_takeRest, i_Trade_leftOf, i_X_init, i_X_feed, i_X_giving, i_X_of, i_X_rounds, i_X_level, i_X_listed, i_X_takes, i_X_instead, i_X_run, i_X_has, i_X_left, i_X_led, i_X_ring, i_X_way, i_X_kindOf, i_X_share, i_X_stops, i_X_rather, i_X_envy, i_X_wrongly, i_X_gains, i_X_told, i_X_table, i_X_bars, i_X_parted, i_X_order, i_X_even, i_X_evenIs, i_X_swap, i_X_years, i_X_act, i_X_trace, i_X_keep, i_X_row, i_X_put, i_X_element, i_X_shift, i_X_taken, i_X_count, i_X_isGiving, i_X_isPerson, i_X_isThing, i_X_isCell, i_X_isShelf, i_X_isNoSide, i_X_kindAt, i_X_isToldWrongly, i_X_isUnder, i_X_refusalAt, i_X_forgetTable, i_X_sharesOf, i_X_compareOtherwise, i_X_compareRows, i_X_findSwap, i_X_fewestFirst, i_X_readLine, i_X_numberOf, i_X_firstLine, i_X_nextLine, i_X_exchange, i_X_commonOf, i_M_init, i_M_in, i_M_isGiving, i_M_isPerson, i_M_isThing, i_M_feed, i_M_here, i_M_readsThings, i_M_heldOf, i_M_readsList, i_M_readsGiving, i_M_giving, i_M_copies, i_M_instead, i_M_of, i_M_rounds, i_M_level, i_M_listed, i_M_takes, i_M_isOrder, i_M_asDigits, i_M_firstLeft, i_M_runs, i_M_isWay, i_M_run, i_M_has, i_M_left, i_M_led, i_M_levelIn, i_M_wishes, i_M_findsOne, i_M_findsThings, i_M_findsPeople, i_M_findsRing, i_M_ring, i_M_way, i_M_kindOf, i_M_common, i_M_clears, i_M_puts, i_M_nextOrder, i_M_firstOrder, i_M_means, i_M_adds, i_M_firstUneaten, i_M_eatNow, i_M_eating, i_M_pointOf, i_M_endsSome, i_M_endsRing, i_M_trades, i_M_takesParts, i_M_sumOf, i_M_sumOver, i_M_less, i_M_mends, i_M_shares, i_M_share, i_M_stops, i_M_keepsRow, i_M_against, i_M_rather, i_M_envy, i_M_areDigits, i_M_tries, i_M_keepsOwn, i_M_isLie, i_M_wrongly, i_M_triesAll, i_M_gains, i_M_told, i_M_table, i_M_barsOf, i_M_bars, i_M_finds, i_M_most, i_M_parted, i_M_pointsOf, i_M_order, i_M_even, i_M_evenIs, i_M_swap, i_M_years, i_M_begins, i_M_aboveOf, i_M_takesFrom, i_M_leavesFrom, i_M_likesFrom, i_M_tellsFrom, i_M_act, i_M_trace, i_M_isShelf, i_M_keep, i_M_row, i_M_barred, i_M_put, i_M_element, i_M_shift, i_M_taken, i_M_count, i_Integer_bitCount, i_Arrays_fill_J, i_Arrays_fill_I, i_Math_abs, i_Math_max_I, i_Math_max_J, i_Math_min_I, i_Math_min_J, i_L_law]
def LFL : List (Nat × Nat × Nat × Nat) := [(0, 11, 0, 0), (0, 15, 0, 1), (0, 19, 0, 2), (0, 22, 0, 3), (1, 9, 1, 0), (1, 15, 1, 1), (1, 19, 1, 2), (1, 22, 3, 0), (1, 28, 3, 3), (1, 31, 1, 3), (1, 35, 3, 2), (1, 38, 7, 1), (1, 59, 7, 3), (1, 71, 7, 4), (1, 74, 3, 1), (1, 81, 7, 0), (2, 11, 2, 0), (2, 17, 2, 5), (2, 20, 2, 1), (2, 24, 2, 2), (2, 27, 3, 1), (2, 52, 2, 3), (2, 55, 2, 4), (3, 9, 3, 3), (3, 15, 3, 4), (3, 18, 3, 5), (3, 23, 3, 6), (3, 26, 3, 7), (3, 29, 3, 8), (3, 34, 3, 9), (3, 41, 3, 0), (3, 45, 3, 1), (3, 48, 3, 2), (3, 66, 7, 2), (3, 70, 3, 10), (4, 9, 4, 0), (4, 15, 4, 1), (4, 20, 4, 2), (4, 23, 4, 3), (4, 26, 3, 3), (4, 43, 3, 0), (4, 47, 4, 4), (4, 50, 3, 2), (4, 53, 3, 1), (4, 64, 3, 7), (5, 9, 5, 0), (5, 15, 5, 1), (5, 20, 5, 4), (5, 23, 5, 5), (5, 26, 5, 6), (5, 29, 5, 7), (5, 32, 5, 8), (5, 35, 5, 9), (5, 38, 5, 3), (5, 42, 3, 1), (5, 48, 3, 8), (5, 55, 5, 2), (5, 80, 3, 0), (5, 83, 3, 3), (6, 9, 6, 0), (6, 15, 6, 1), (6, 18, 6, 3), (6, 26, 6, 2), (6, 30, 3, 1), (6, 39, 3, 0), (6, 52, 4, 0), (6, 59, 3, 7), (7, 9, 7, 0), (7, 15, 7, 1), (7, 25, 7, 3), (7, 29, 7, 4), (7, 33, 3, 1), (7, 57, 4, 1), (7, 61, 4, 3), (7, 67, 3, 0), (7, 70, 3, 8), (7, 77, 3, 2), (7, 80, 3, 5), (7, 83, 3, 6), (7, 90, 3, 3), (7, 93, 3, 7), (8, 9, 8, 0), (8, 13, 8, 1), (8, 17, 8, 2), (8, 20, 8, 3), (8, 23, 8, 4), (9, 11, 9, 0), (9, 15, 9, 1), (9, 19, 9, 2), (9, 42, 3, 3), (9, 45, 3, 0), (9, 48, 3, 1), (9, 61, 3, 7), (9, 73, 3, 4), (10, 9, 10, 0), (10, 15, 10, 1), (10, 18, 10, 2), (10, 21, 10, 3), (10, 25, 3, 1), (10, 31, 3, 4), (10, 45, 7, 0), (10, 67, 3, 0), (10, 70, 3, 3), (11, 12, 11, 0), (11, 18, 11, 1), (11, 23, 11, 3), (11, 27, 11, 4), (11, 34, 11, 6), (11, 41, 11, 8), (11, 45, 11, 9), (11, 48, 11, 10), (11, 51, 11, 11), (11, 54, 11, 12), (11, 61, 11, 13), (11, 68, 11, 14), (11, 75, 11, 15), (11, 82, 11, 16), (11, 89, 11, 17), (11, 95, 11, 18), (11, 100, 9, 1), (11, 108, 11, 2), (11, 115, 9, 2), (11, 127, 3, 4), (11, 133, 3, 3), (11, 136, 3, 1), (11, 139, 3, 0), (11, 142, 3, 2), (11, 148, 3, 7), (11, 152, 3, 5), (11, 155, 3, 6), (11, 181, 11, 7), (11, 190, 4, 0), (11, 196, 4, 1), (11, 199, 4, 2), (11, 202, 4, 3), (11, 209, 6, 2), (11, 211, 6, 0), (11, 214, 6, 1), (11, 217, 11, 5), (11, 229, 7, 3), (11, 237, 7, 0), (11, 240, 7, 1), (11, 248, 7, 4), (11, 275, 3, 8), (11, 284, 8, 1), (11, 287, 8, 3), (11, 294, 8, 0), (11, 312, 5, 2), (11, 313, 5, 0), (11, 316, 5, 1), (11, 319, 2, 1), (11, 320, 2, 2), (11, 329, 2, 0), (11, 339, 2, 4), (11, 341, 2, 3), (11, 343, 3, 10), (11, 349, 3, 11), (11, 352, 3, 12), (11, 375, 0, 1), (11, 378, 0, 0), (11, 402, 8, 2), (11, 412, 3, 9), (11, 416, 7, 2), (12, 7, 12, 1), (12, 13, 12, 2), (12, 16, 12, 3), (12, 19, 12, 4), (12, 22, 12, 5), (12, 25, 12, 6), (12, 28, 12, 7), (12, 31, 12, 8), (12, 34, 12, 9), (12, 37, 12, 11), (12, 40, 12, 12), (12, 43, 12, 14), (12, 47, 12, 15), (12, 50, 12, 16), (12, 53, 12, 17), (12, 56, 12, 18), (12, 59, 12, 19), (12, 62, 12, 22), (12, 67, 12, 23), (12, 71, 12, 24), (12, 74, 12, 25), (12, 77, 12, 27), (12, 80, 12, 28), (12, 83, 12, 29), (12, 86, 12, 30), (12, 90, 12, 32), (12, 93, 12, 33), (12, 96, 12, 34), (12, 99, 12, 35), (12, 102, 12, 36), (12, 105, 12, 37), (12, 108, 12, 38), (12, 111, 12, 39), (12, 114, 12, 41), (12, 117, 12, 42), (12, 120, 12, 45), (12, 123, 12, 46), (12, 126, 12, 47), (12, 129, 12, 50), (12, 132, 12, 51), (12, 135, 12, 52), (12, 138, 12, 53), (12, 141, 12, 54), (12, 145, 12, 55), (12, 148, 12, 56), (12, 151, 12, 57), (12, 154, 12, 58), (12, 157, 12, 59), (12, 160, 12, 60), (12, 163, 12, 61), (12, 166, 12, 62), (12, 169, 12, 63), (12, 172, 12, 64), (12, 175, 12, 0), (12, 186, 12, 13), (12, 189, 12, 31), (12, 225, 12, 10), (12, 254, 12, 40), (12, 260, 12, 43), (12, 279, 12, 48), (12, 282, 12, 49), (12, 292, 12, 44), (12, 377, 12, 20), (12, 380, 12, 21), (12, 390, 12, 26)]
def LGS : List (Nat × Nat × Nat × Nat) := [(0, 29, 2, 0), (11, 409, 1, 0)]
def LML : List (Nat × Nat × Nat) := [(0, 25, 4), (0, 35, 3), (1, 43, 7), (1, 47, 8), (1, 53, 252), (1, 63, 9), (1, 67, 10), (1, 77, 26), (2, 32, 36), (2, 38, 16), (2, 42, 247), (2, 59, 253), (3, 51, 249), (3, 57, 21), (3, 73, 22), (3, 77, 23), (3, 81, 27), (3, 85, 30), (3, 89, 28), (3, 92, 29), (4, 37, 249), (4, 56, 34), (4, 60, 26), (4, 68, 36), (4, 72, 251), (4, 77, 253), (5, 58, 41), (5, 62, 42), (5, 66, 45), (5, 70, 253), (5, 86, 251), (5, 89, 43), (5, 93, 44), (6, 22, 49), (6, 35, 52), (6, 42, 35), (6, 48, 50), (6, 55, 51), (6, 63, 54), (6, 66, 53), (7, 19, 248), (7, 43, 33), (7, 49, 58), (7, 73, 61), (7, 86, 62), (7, 96, 254), (8, 26, 248), (9, 22, 19), (9, 27, 73), (9, 31, 74), (9, 34, 75), (9, 38, 72), (9, 51, 22), (9, 55, 76), (9, 65, 23), (9, 69, 25), (10, 34, 79), (10, 38, 81), (10, 42, 83), (10, 51, 26), (10, 55, 80), (10, 59, 82), (10, 63, 84), (11, 22, 17), (11, 104, 69), (11, 111, 70), (11, 118, 125), (11, 123, 126), (11, 130, 127), (11, 145, 21), (11, 158, 26), (11, 162, 20), (11, 166, 71), (11, 169, 131), (11, 173, 141), (11, 177, 33), (11, 184, 47), (11, 187, 35), (11, 193, 130), (11, 205, 48), (11, 220, 128), (11, 225, 136), (11, 244, 146), (11, 251, 138), (11, 255, 132), (11, 258, 137), (11, 262, 143), (11, 267, 142), (11, 271, 144), (11, 278, 135), (11, 281, 129), (11, 290, 66), (11, 297, 18), (11, 301, 29), (11, 305, 31), (11, 309, 40), (11, 323, 12), (11, 326, 13), (11, 332, 14), (11, 336, 15), (11, 346, 139), (11, 355, 248), (11, 361, 36), (11, 365, 140), (11, 368, 1), (11, 371, 2), (11, 381, 64), (11, 384, 65), (11, 387, 134), (11, 390, 67), (11, 405, 133), (11, 419, 39), (11, 420, 56), (11, 421, 57), (11, 425, 6), (11, 429, 78), (11, 432, 59), (11, 435, 60), (11, 438, 24), (11, 443, 37), (11, 447, 145), (11, 450, 250), (12, 178, 148), (12, 182, 149), (12, 192, 153), (12, 196, 155), (12, 200, 154), (12, 203, 156), (12, 207, 157), (12, 210, 150), (12, 213, 159), (12, 218, 151), (12, 221, 168), (12, 228, 170), (12, 231, 166), (12, 234, 169), (12, 238, 175), (12, 241, 176), (12, 244, 178), (12, 247, 179), (12, 250, 177), (12, 257, 180), (12, 264, 184), (12, 268, 188), (12, 272, 187), (12, 275, 186), (12, 289, 191), (12, 295, 192), (12, 299, 190), (12, 303, 194), (12, 306, 195), (12, 309, 196), (12, 312, 202), (12, 317, 199), (12, 320, 201), (12, 323, 200), (12, 326, 185), (12, 329, 189), (12, 332, 193), (12, 335, 197), (12, 338, 198), (12, 341, 203), (12, 346, 206), (12, 349, 207), (12, 352, 213), (12, 355, 210), (12, 358, 212), (12, 361, 211), (12, 364, 215), (12, 368, 219), (12, 371, 221), (12, 374, 222), (12, 383, 224), (12, 387, 167), (12, 393, 230), (12, 396, 232), (12, 399, 231), (12, 402, 233), (12, 405, 234), (12, 408, 235), (12, 411, 238), (12, 414, 241), (16, 9, 85), (16, 12, 147), (16, 13, 86), (16, 17, 152), (16, 18, 87), (16, 22, 158), (16, 23, 88), (16, 26, 161), (16, 27, 89), (16, 30, 162), (16, 31, 90), (16, 35, 163), (16, 36, 91), (16, 39, 164), (16, 40, 92), (16, 43, 165), (16, 44, 93), (16, 47, 160), (16, 48, 94), (16, 51, 171), (16, 52, 95), (16, 55, 172), (16, 56, 96), (16, 60, 173), (16, 61, 97), (16, 64, 174), (16, 65, 98), (16, 68, 181), (16, 69, 99), (16, 72, 182), (16, 73, 100), (16, 76, 183), (16, 77, 101), (16, 81, 204), (16, 82, 102), (16, 85, 205), (16, 86, 103), (16, 90, 208), (16, 91, 104), (16, 94, 209), (16, 95, 105), (16, 98, 214), (16, 99, 106), (16, 102, 216), (16, 103, 107), (16, 106, 217), (16, 107, 108), (16, 110, 218), (16, 111, 109), (16, 114, 220), (16, 115, 110), (16, 118, 223), (16, 119, 111), (16, 122, 225), (16, 123, 112), (16, 126, 226), (16, 127, 113), (16, 130, 227), (16, 131, 114), (16, 134, 228), (16, 135, 115), (16, 138, 229), (16, 139, 116), (16, 142, 236), (16, 143, 117), (16, 146, 237), (16, 147, 118), (16, 150, 239), (16, 151, 119), (16, 154, 240), (16, 157, 120), (16, 161, 242), (16, 162, 121), (16, 166, 243), (16, 167, 122), (16, 171, 244), (16, 172, 123), (16, 175, 245), (16, 176, 124), (16, 179, 246)]
def LNM : List (Nat × Nat × Nat) := [(2, 48, 146), (3, 38, 55), (5, 76, 142), (7, 38, 143), (7, 53, 144), (9, 58, 127), (11, 11, 68), (11, 33, 32), (11, 40, 46), (11, 60, 5), (11, 67, 77), (11, 74, 38), (11, 81, 11), (11, 88, 0), (11, 99, 63)]
def LVM : List (Nat) := [3, 7, 8, 9, 10, 26, 36, 16, 21, 22, 23, 27, 30, 28, 29, 34, 41, 42, 45, 43, 44, 49, 35, 33, 58, 61, 62, 19, 73, 74, 75, 72, 76, 25, 79, 81, 83, 80, 82, 84, 69, 70, 125, 20, 71, 131, 47, 48, 136, 132, 137, 135, 66, 31, 40, 12, 13, 14, 15, 139, 140, 1, 2, 64, 65, 134, 67, 39, 56, 57, 6, 78, 59, 60, 24, 37, 149, 153, 155, 154, 156, 157, 150, 159, 151, 168, 170, 166, 169, 175, 176, 178, 179, 177, 180, 188, 187, 186, 191, 192, 190, 194, 195, 196, 202, 199, 201, 200, 185, 189, 193, 197, 198, 203, 206, 207, 213, 210, 212, 211, 215, 219, 221, 222, 224, 167, 230, 232, 233, 234, 235, 241, 86, 152, 87, 158, 88, 161, 89, 162, 90, 163, 91, 164, 92, 165, 93, 160, 94, 171, 95, 172, 96, 173, 97, 174, 98, 181, 99, 182, 100, 183, 101, 204, 102, 205, 103, 208, 104, 209, 105, 214, 106, 216, 107, 217, 108, 218, 109, 220, 110, 223, 111, 225, 112, 226, 113, 227, 114, 228, 115, 229, 116, 236, 117, 237, 118, 239, 119, 240, 120, 242, 121, 243, 122, 244, 123, 245, 124, 246]
def LIM : List (Nat) := [55, 68, 17, 32, 46, 5, 77, 38, 11, 0, 63, 85, 147]
def LSM : List (Nat) := [4, 247, 146, 249, 142, 52, 50, 51, 54, 53, 248, 143, 144, 127, 126, 141, 130, 128, 138, 129, 18, 133, 145, 148, 184, 231, 238]
def LCL : List (Nat × Nat × Nat) := [(2, 15, 106), (3, 21, 106), (3, 32, 105), (3, 32, 7), (4, 18, 106), (5, 18, 106), (11, 9, 9), (11, 16, 103), (11, 16, 3), (11, 31, 4), (11, 38, 6), (11, 58, 1), (11, 65, 10), (11, 72, 5), (11, 79, 2), (11, 86, 0), (11, 93, 104), (11, 93, 8), (16, 7, 11), (16, 10, 12)]
def LKI : List (Nat × Nat × Int) := [(2, 58, 1000000), (4, 67, 1000000), (7, 42, 40320), (11, 122, (-2000000000)), (11, 266, 40320), (11, 442, 1000000), (12, 217, (-2000000000)), (12, 386, 1000000), (13, 265, 1431655765), (13, 266, 858993459), (13, 267, 252645135)]
def LKL : List (Nat × Nat × Int) := [(1, 51, 1000000000000), (3, 39, 60), (7, 65, 60), (11, 223, (-1)), (11, 235, (-4)), (11, 394, (-9223372036854775808)), (12, 65, (-1)), (12, 285, 1000000000000), (12, 287, (-1000000000000)), (12, 315, 60), (12, 344, (-4)), (12, 417, (-9223372036854775808)), (16, 155, 4294967295)]
def LAC : List (Nat × Nat) := [(0, 1003), (1, 1003), (2, 1003), (3, 1003), (3, 60), (4, 1003), (4, 31), (5, 1003), (5, 49), (6, 1003), (7, 1003), (8, 1001), (9, 1003), (10, 1003), (11, 1003), (11, 396), (12, 1001)]
def mathI (a b : Nat) : Bool := decide (a = 250 ∧ b = 4) || decide (a = 251 ∧ b = 0) || decide (a = 252 ∧ b = 2) || decide (a = 253 ∧ b = 1) || decide (a = 254 ∧ b = 3)
end
section
noncomputable def callee (a : Nat) : MI := mtab.getD a mi0
def clsOf (ci : Nat) : vw_C := cls.getD ci ("", T0, 0)
/-- the instruction, and its bytes -/
def insO (M : MI) (ai : AI) : Instr × Nat := match ai with
  | (op, pc, a, b, c, v, tl) =>
    if op = 0 then (if c = 0 then (.iconst v, 1) else if c = 1 then (.bipush v, 2) else if c = 2 then (.sipush v, 3) else if c = 3 then (.ldc a, 2) else (.ldc_w a, 3))
    else if op = 1 then (if c = 0 then (.lconst (if v = 0 then 0 else 1), 1) else (.ldc2_w a, 3))
    else if op = 2 then (if c = 0 then ((if b = 0 then .iload_n (Fin.ofNat 4 a) else if b = 1 then .lload_n (Fin.ofNat 4 a) else .aload_n (Fin.ofNat 4 a)), 1) else ((if b = 0 then .iload a else if b = 1 then .lload a else .aload a), 2))
    else if op = 3 then (if c = 0 then ((if b = 0 then .istore_n (Fin.ofNat 4 a) else if b = 1 then .lstore_n (Fin.ofNat 4 a) else .astore_n (Fin.ofNat 4 a)), 1) else ((if b = 0 then .istore a else if b = 1 then .lstore a else .astore a), 2))
    else if op = 4 then (.iinc a v, 3)
    else if op = 5 then ((if c = 0 then .iadd else if c = 1 then .isub else if c = 2 then .imul else if c = 3 then .iand else if c = 4 then .ior else if c = 5 then .ixor else if c = 6 then .ishl else if c = 7 then .ishr else .iushr), 1)
    else if op = 6 then ((if c = 0 then .idiv else .irem), 1)
    else if op = 7 then ((if c = 0 then .ladd else if c = 1 then .lsub else if c = 2 then .lmul else if c = 3 then .land else .lor), 1)
    else if op = 8 then ((if c = 0 then .ldiv else .lrem), 1)
    else if op = 9 then (.lshl, 1)
    else if op = 10 then ((if c = 0 then .ineg else if c = 1 then .i2b else .i2s), 1)
    else if op = 11 then (.i2l, 1)
    else if op = 12 then (.l2i, 1)
    else if op = 13 then (.lneg, 1)
    else if op = 14 then (.lcmp, 1)
    else if op = 15 then (.ifCond (cndO c) (offs M a pc), 3)
    else if op = 16 then (.if_icmp (cndO c) (offs M a pc), 3)
    else if op = 17 then (.ifnull (offs M a pc), 3)
    else if op = 18 then (.if_acmp .ne (offs M a pc), 3)
    else if op = 19 then (.goto (offs M a pc), 3)
    else if op = 20 then (.tableswitch (offs M a pc) v (v + tl.length - 1) (tl.map fun t => offs M t pc).toArray, b)
    else if op = 21 then (.lookupswitch (offs M a pc) ((List.range (tl.length / 2)).map fun i => ((tl.getD (2 * i) 0 : Int), offs M (tl.getD (2 * i + 1) 0) pc)).toArray, b)
    else if op = 22 then (.getfield c, 3)
    else if op = 23 then (.putfield c, 3)
    else if op = 24 then (.getstatic c, 3)
    else if op = 25 then ((if a = 101 then .laload else if a = 102 then .baload else if a < 103 then .iaload else if 900 ≤ a then .iaload else .aaload), 1)
    else if op = 26 then ((if a = 101 then .lastore else if a = 102 then .bastore else if a < 103 then .iastore else .aastore), 1)
    else if op = 27 then (.arraylength, 1)
    else if op = 28 then (.dup, 1)
    else if op = 29 then (.dup2, 1)
    else if op = 30 then (.pop, 1)
    else if op = 31 then (.invokevirtual c, 3)
    else if op = 32 then (.invokestatic c, 3)
    else if op = 33 then (.invokespecial c, 3)
    else if op = 34 then (retI M, 1)
    else if op = 35 then (.invokestatic c, 3)
    else if op = 42 then (.invokestatic c, 3)
    else if op = 36 then (.aconst_null, 1)
    else if op = 37 then (.new c, 3)
    else if op = 38 then (.newarray (if a = 100 then .int else if a = 101 then .long else .boolean), 2)
    else if op = 39 then (.anewarray c, 3)
    else if op = 40 then (.multianewarray c 2, 4)
    else (.invokespecial c, 3)
def fallO (M : MI) (pos : Nat) (ai : AI) : Bool := match ai with
  | (op, pc, a, b, c, v, tl) =>
    if op = 19 || op = 20 || op = 21 || op = 34 then true
    else if op = 14 then pcOf M (pos + 2) == pc + 4 && decide (decode (mC M) (pc + 1) = .ok (.ifCond (cndO c) (offs M a (pc + 1)), 3))
    else pcOf M (pos + 1) == pc + (insO M ai).2
/-- what a row's numbers must be, in the lists of links -/
noncomputable def poolO (M : MI) (ai : AI) : Bool := match ai with
  | (op, pc, a, b, c, v, tl) =>
    if op = 0 then decide (-2147483648 ≤ v ∧ v ≤ 2147483647) && (if c = 0 then true else if c = 1 then decide ((Int8.ofInt v).toInt32 = Int32.ofInt v) else if c = 2 then decide ((Int16.ofInt v).toInt32 = Int32.ofInt v) else decide (LKI[tl.getD 0 0]? = some (mOi M, a, v)))
    else if op = 1 then decide (-9223372036854775808 ≤ v ∧ v ≤ 9223372036854775807) && (if c = 0 then decide (v = 0 ∨ v = 1) else decide (LKL[tl.getD 0 0]? = some (mOi M, a, v)))
    else if op = 2 then decide (b < 3) && (if c = 0 then decide (a < 4) else true)
    else if op = 3 then decide (b < 3) && decide (a + 1 < mL M + (if b = 1 then 0 else 1)) && (if c = 0 then decide (a < 4) else true)
    else if op = 4 then decide (a < mL M)
    else if op = 21 then ((List.range (tl.length / 2)).map fun i => (tl.getD (2 * i) 0 : Int)).zip (((List.range (tl.length / 2)).map fun i => (tl.getD (2 * i) 0 : Int)).drop 1) |>.all fun q => decide (q.1 < q.2)
    else if op = 22 then decide (b < (clsOf a).2.2) && decide (LFL[tl.getD 0 0]? = some (mOi M, c, a, b))
    else if op = 23 then decide (b < (clsOf a).2.2) && decide (LFL[tl.getD 0 0]? = some (mOi M, c, a, b)) && (!((clsOf a).2.1 b).2.2.2 || (decide ((mN M).name = "<init>") && decide (a = mOi M)))
    else if op = 24 then (if b = 0 then decide (LGS[tl.getD 0 0]? = some (mOi M, c, a, 0)) else decide (mOi M = 0 ∧ c = 32 ∧ a = 1))
    else if op = 31 then decide (LML[tl.getD 0 0]? = some (mOi M, c, a)) && decide (LVM[tl.getD 1 0]? = some a) && decide (mOi (callee a) = b) && decide (mA (callee a) = v.toNat)
    else if op = 32 then decide (LSM[tl.getD 1 0]? = some a) && (if b = 0 then decide (LML[tl.getD 0 0]? = some (mOi M, c, a)) else decide (LNM[tl.getD 0 0]? = some (mOi M, c, a))) && decide (mA (callee a) = v.toNat)
    else if op = 33 then decide (LIM[tl.getD 1 0]? = some a) && (if b = 0 then decide (LML[tl.getD 0 0]? = some (mOi M, c, a)) else decide (LNM[tl.getD 0 0]? = some (mOi M, c, a))) && decide (mA (callee a) = v.toNat)
    else if op = 35 then decide (LAC[tl.getD 0 0]? = some (mOi M, c)) && decide (c < 1000)
    else if op = 42 then decide (LML[tl.getD 0 0]? = some (mOi M, c, a)) && mathI a b
    else if op = 37 then decide (LCL[tl.getD 0 0]? = some (mOi M, c, a))
    else if op = 39 then decide (LCL[tl.getD 0 0]? = some (mOi M, c, a))
    else if op = 40 then decide (LCL[tl.getD 0 0]? = some (mOi M, c, 106))
    else if op = 41 then decide (LAC[tl.getD 0 0]? = some (mOi M, c + 1000))
    else true
noncomputable def chkA (M : MI) (pos : Nat) (ai : AI) : Bool := decide (decode (mC M) ai.2.1 = .ok (insO M ai)) && fallO M pos ai && poolO M ai
noncomputable def chkM (M : MI) : Bool := (List.range (mT M).length).all fun pos => chkA M pos ((mT M).getD pos ai0)
theorem chk_all {M : MI} {pos : Nat} {ai : AI} (hM : chkM M = true) (hi : (mT M)[pos]? = some ai) : chkA M pos ai = true := by
  have hp : pos < (mT M).length := (List.getElem?_eq_some_iff.mp hi).1
  have h := List.all_eq_true.mp hM pos (List.mem_range.mpr hp)
  rw [List.getD_eq_getElem?_getD, hi] at h
  exact h
theorem chk_dec {M : MI} {pos : Nat} {ai : AI} (hM : chkM M = true) (hi : (mT M)[pos]? = some ai) : decode (mC M) ai.2.1 = .ok (insO M ai) := by
  have h := chk_all hM hi
  simp only [chkA, Bool.and_eq_true, decide_eq_true_eq] at h
  exact h.1.1
theorem chk_fall {M : MI} {pos : Nat} {ai : AI} (hM : chkM M = true) (hi : (mT M)[pos]? = some ai) : fallO M pos ai = true := by
  have h := chk_all hM hi
  simp only [chkA, Bool.and_eq_true, decide_eq_true_eq] at h
  exact h.1.2
theorem chk_pool {M : MI} {pos : Nat} {ai : AI} (hM : chkM M = true) (hi : (mT M)[pos]? = some ai) : poolO M ai = true := by
  have h := chk_all hM hi
  simp only [chkA, Bool.and_eq_true, decide_eq_true_eq] at h
  exact h.2
theorem pcOf_at {M : MI} {pos : Nat} {ai : AI} (hi : (mT M)[pos]? = some ai) : pcOf M pos = ai.2.1 := by
  unfold pcOf
  rw [List.getD_eq_getElem?_getD, hi]
  rfl
def retOk (r : Option FieldType) : Bool := match r with
  | none => true
  | some .int => true
  | some .boolean => true
  | some .long => true
  | some (.object _) => true
  | some (.array _) => true
  | _ => false
/-- the links' words -/
noncomputable def wFL (q : Nat × Nat × Nat × Nat) : Jvm.Cond := .fieldLink (ownNm q.1) q.2.1 ((clsOf q.2.2.1).2.1 q.2.2.2).1 ((clsOf q.2.2.1).2.1 q.2.2.2).2.1 ((clsOf q.2.2.1).2.1 q.2.2.2).2.2.1
def wGS (q : Nat × Nat × Nat × Nat) : Jvm.Cond := .fieldLink (ownNm q.1) q.2.1 (if q.2.2.1 = 1 then "TakenInTurns" else "TakenInTurns$Acts") (if q.2.2.1 = 1 then "ABOVE" else "BODIES") "[I"
noncomputable def wML (q : Nat × Nat × Nat) : Jvm.Cond := .methodLink (ownNm q.1) q.2.1 (mN (callee q.2.2))
noncomputable def wI (a : Nat) : Jvm.Cond := .instanceMethod (mN (callee a))
noncomputable def wV (a : Nat) : Jvm.Cond := .selects (mN (callee a)).cls (mN (callee a)) (mN (callee a))
noncomputable def wS (a : Nat) : Jvm.Cond := .static (mN (callee a))
def wCL (q : Nat × Nat × Nat) : Jvm.Cond := .classLink (ownNm q.1) q.2.1 (if q.2.2 < 13 then ownNm q.2.2 else if q.2.2 = 103 then "TakenInTurns$Giving" else if q.2.2 = 104 then "TakenInTurns$Shelf" else if q.2.2 = 105 then "TakenInTurns$Shares" else "[[I")
def wKI (q : Nat × Nat × Int) : Jvm.Cond := .constant (ownNm q.1) q.2.1 (Int32.ofInt q.2.2)
def wKL (q : Nat × Nat × Int) : Jvm.Cond := .constantLong (ownNm q.1) q.2.1 (Int64.ofInt q.2.2)
def wAC (q : Nat × Nat) : Jvm.Cond := if q.2 < 1000 then .methodLink (ownNm q.1) q.2 arraycopyName else .methodLink (ownNm q.1) (q.2 - 1000) objectInit
theorem in_W0 {w : Jvm.Cond} (h : w ∈ tables_1) (g : goodWord w = true) : w ∈ W0 := List.mem_filter.mpr ⟨List.mem_append_right _ h, g⟩
theorem in_t1 {w : Jvm.Cond} (i : Nat) (h : tables_1_1[i]? = some w) : w ∈ tables_1 := List.mem_append_left _ (List.mem_of_getElem? h)
theorem in_t2 {w : Jvm.Cond} (i : Nat) (h : tables_1_2[i]? = some w) : w ∈ tables_1 := List.mem_append_right _ (List.mem_append_left _ (List.mem_of_getElem? h))
theorem in_t3 {w : Jvm.Cond} (i : Nat) (h : tables_1_3[i]? = some w) : w ∈ tables_1 := List.mem_append_right _ (List.mem_append_right _ (List.mem_append_left _ (List.mem_of_getElem? h)))
theorem in_t4 {w : Jvm.Cond} (i : Nat) (h : tables_1_4[i]? = some w) : w ∈ tables_1 := List.mem_append_right _ (List.mem_append_right _ (List.mem_append_right _ (List.mem_append_left _ (List.mem_of_getElem? h))))
theorem in_t5 {w : Jvm.Cond} (i : Nat) (h : tables_1_5[i]? = some w) : w ∈ tables_1 := List.mem_append_right _ (List.mem_append_right _ (List.mem_append_right _ (List.mem_append_right _ (List.mem_append_left _ (List.mem_of_getElem? h)))))
theorem in_t6 {w : Jvm.Cond} (i : Nat) (h : tables_1_6[i]? = some w) : w ∈ tables_1 := List.mem_append_right _ (List.mem_append_right _ (List.mem_append_right _ (List.mem_append_right _ (List.mem_append_right _ (List.mem_append_left _ (List.mem_of_getElem? h))))))
theorem in_t7 {w : Jvm.Cond} (i : Nat) (h : tables_1_7[i]? = some w) : w ∈ tables_1 := List.mem_append_right _ (List.mem_append_right _ (List.mem_append_right _ (List.mem_append_right _ (List.mem_append_right _ (List.mem_append_right _ (List.mem_of_getElem? h))))))
theorem in_sel {q : MethodName × Nat} (h : q ∈ lw_privs) : Jvm.Cond.selects q.1.cls q.1 q.1 ∈ W0 := List.mem_filter.mpr ⟨List.mem_append_left _ (List.mem_map.mpr ⟨q, h, rfl⟩), rfl⟩
/-- what a callee must be -/
def okM (M : MI) : Prop := Jvm.Cond.code (mN M) (mC M) (mL M) (mR M) ∈ W0 ∧ mL M ≤ 45 ∧ ((mN M).cls ≠ "java/lang/invoke/MethodHandle" ∧ (mN M).cls ≠ "java/lang/invoke/VarHandle") ∧ plainName (mN M).cls = true ∧ Jvm.Cond.initialized (mN M).cls ∈ W0 ∧ retOk (mR M) = true ∧ (parseMethodDescriptor (mN M).desc).map (fun z => z.parameters.length) = some (mA M) ∧ (mN M).cls = mO M
end
section
theorem f_FL_0 : wFL (0, 11, 0, 0) ∈ W0 := in_W0 (in_t2 102 rfl) rfl
theorem f_FL_1 : wFL (0, 15, 0, 1) ∈ W0 := in_W0 (in_t2 104 rfl) rfl
theorem f_FL_2 : wFL (0, 19, 0, 2) ∈ W0 := in_W0 (in_t2 106 rfl) rfl
theorem f_FL_3 : wFL (0, 22, 0, 3) ∈ W0 := in_W0 (in_t2 107 rfl) rfl
theorem f_FL_4 : wFL (1, 9, 1, 0) ∈ W0 := in_W0 (in_t1 231 rfl) rfl
theorem f_FL_5 : wFL (1, 15, 1, 1) ∈ W0 := in_W0 (in_t1 232 rfl) rfl
theorem f_FL_6 : wFL (1, 19, 1, 2) ∈ W0 := in_W0 (in_t1 233 rfl) rfl
theorem f_FL_7 : wFL (1, 22, 3, 0) ∈ W0 := in_W0 (in_t1 88 rfl) rfl
theorem f_FL_8 : wFL (1, 28, 3, 3) ∈ W0 := in_W0 (in_t1 114 rfl) rfl
theorem f_FL_9 : wFL (1, 31, 1, 3) ∈ W0 := in_W0 (in_t1 234 rfl) rfl
theorem f_FL_10 : wFL (1, 35, 3, 2) ∈ W0 := in_W0 (in_t1 108 rfl) rfl
theorem f_FL_11 : wFL (1, 38, 7, 1) ∈ W0 := in_W0 (in_t1 66 rfl) rfl
theorem f_FL_12 : wFL (1, 59, 7, 3) ∈ W0 := in_W0 (in_t1 71 rfl) rfl
theorem f_FL_13 : wFL (1, 71, 7, 4) ∈ W0 := in_W0 (in_t1 74 rfl) rfl
theorem f_FL_14 : wFL (1, 74, 3, 1) ∈ W0 := in_W0 (in_t1 103 rfl) rfl
theorem f_FL_15 : wFL (1, 81, 7, 0) ∈ W0 := in_W0 (in_t1 63 rfl) rfl
theorem f_FL_16 : wFL (2, 11, 2, 0) ∈ W0 := in_W0 (in_t2 72 rfl) rfl
theorem f_FL_17 : wFL (2, 17, 2, 5) ∈ W0 := in_W0 (in_t2 82 rfl) rfl
theorem f_FL_18 : wFL (2, 20, 2, 1) ∈ W0 := in_W0 (in_t2 74 rfl) rfl
theorem f_FL_19 : wFL (2, 24, 2, 2) ∈ W0 := in_W0 (in_t2 76 rfl) rfl
theorem f_FL_20 : wFL (2, 27, 3, 1) ∈ W0 := in_W0 (in_t1 104 rfl) rfl
theorem f_FL_21 : wFL (2, 52, 2, 3) ∈ W0 := in_W0 (in_t2 78 rfl) rfl
theorem f_FL_22 : wFL (2, 55, 2, 4) ∈ W0 := in_W0 (in_t2 80 rfl) rfl
theorem f_FL_23 : wFL (3, 9, 3, 3) ∈ W0 := in_W0 (in_t1 112 rfl) rfl
theorem f_FL_24 : wFL (3, 15, 3, 4) ∈ W0 := in_W0 (in_t1 120 rfl) rfl
theorem f_FL_25 : wFL (3, 18, 3, 5) ∈ W0 := in_W0 (in_t1 124 rfl) rfl
theorem f_FL_26 : wFL (3, 23, 3, 6) ∈ W0 := in_W0 (in_t1 127 rfl) rfl
theorem f_FL_27 : wFL (3, 26, 3, 7) ∈ W0 := in_W0 (in_t1 130 rfl) rfl
theorem f_FL_28 : wFL (3, 29, 3, 8) ∈ W0 := in_W0 (in_t1 136 rfl) rfl
theorem f_FL_29 : wFL (3, 34, 3, 9) ∈ W0 := in_W0 (in_t1 140 rfl) rfl
theorem f_FL_30 : wFL (3, 41, 3, 0) ∈ W0 := in_W0 (in_t1 90 rfl) rfl
theorem f_FL_31 : wFL (3, 45, 3, 1) ∈ W0 := in_W0 (in_t1 100 rfl) rfl
theorem f_FL_32 : wFL (3, 48, 3, 2) ∈ W0 := in_W0 (in_t1 109 rfl) rfl
theorem f_FL_33 : wFL (3, 66, 7, 2) ∈ W0 := in_W0 (in_t1 68 rfl) rfl
theorem f_FL_34 : wFL (3, 70, 3, 10) ∈ W0 := in_W0 (in_t1 142 rfl) rfl
theorem f_FL_35 : wFL (4, 9, 4, 0) ∈ W0 := in_W0 (in_t1 180 rfl) rfl
theorem f_FL_36 : wFL (4, 15, 4, 1) ∈ W0 := in_W0 (in_t1 183 rfl) rfl
theorem f_FL_37 : wFL (4, 20, 4, 2) ∈ W0 := in_W0 (in_t1 186 rfl) rfl
theorem f_FL_38 : wFL (4, 23, 4, 3) ∈ W0 := in_W0 (in_t1 188 rfl) rfl
theorem f_FL_39 : wFL (4, 26, 3, 3) ∈ W0 := in_W0 (in_t1 113 rfl) rfl
theorem f_FL_40 : wFL (4, 43, 3, 0) ∈ W0 := in_W0 (in_t1 89 rfl) rfl
theorem f_FL_41 : wFL (4, 47, 4, 4) ∈ W0 := in_W0 (in_t1 191 rfl) rfl
theorem f_FL_42 : wFL (4, 50, 3, 2) ∈ W0 := in_W0 (in_t1 107 rfl) rfl
theorem f_FL_43 : wFL (4, 53, 3, 1) ∈ W0 := in_W0 (in_t1 98 rfl) rfl
theorem f_FL_44 : wFL (4, 64, 3, 7) ∈ W0 := in_W0 (in_t1 131 rfl) rfl
theorem f_FL_45 : wFL (5, 9, 5, 0) ∈ W0 := in_W0 (in_t2 31 rfl) rfl
theorem f_FL_46 : wFL (5, 15, 5, 1) ∈ W0 := in_W0 (in_t2 33 rfl) rfl
theorem f_FL_47 : wFL (5, 20, 5, 4) ∈ W0 := in_W0 (in_t2 38 rfl) rfl
theorem f_FL_48 : wFL (5, 23, 5, 5) ∈ W0 := in_W0 (in_t2 39 rfl) rfl
theorem f_FL_49 : wFL (5, 26, 5, 6) ∈ W0 := in_W0 (in_t2 40 rfl) rfl
theorem f_FL_50 : wFL (5, 29, 5, 7) ∈ W0 := in_W0 (in_t2 41 rfl) rfl
theorem f_FL_51 : wFL (5, 32, 5, 8) ∈ W0 := in_W0 (in_t2 42 rfl) rfl
theorem f_FL_52 : wFL (5, 35, 5, 9) ∈ W0 := in_W0 (in_t2 43 rfl) rfl
theorem f_FL_53 : wFL (5, 38, 5, 3) ∈ W0 := in_W0 (in_t2 37 rfl) rfl
theorem f_FL_54 : wFL (5, 42, 3, 1) ∈ W0 := in_W0 (in_t1 101 rfl) rfl
theorem f_FL_55 : wFL (5, 48, 3, 8) ∈ W0 := in_W0 (in_t1 137 rfl) rfl
theorem f_FL_56 : wFL (5, 55, 5, 2) ∈ W0 := in_W0 (in_t2 35 rfl) rfl
theorem f_FL_57 : wFL (5, 80, 3, 0) ∈ W0 := in_W0 (in_t1 91 rfl) rfl
theorem f_FL_58 : wFL (5, 83, 3, 3) ∈ W0 := in_W0 (in_t1 115 rfl) rfl
theorem f_FL_59 : wFL (6, 9, 6, 0) ∈ W0 := in_W0 (in_t1 209 rfl) rfl
theorem f_FL_60 : wFL (6, 15, 6, 1) ∈ W0 := in_W0 (in_t1 211 rfl) rfl
theorem f_FL_61 : wFL (6, 18, 6, 3) ∈ W0 := in_W0 (in_t1 215 rfl) rfl
theorem f_FL_62 : wFL (6, 26, 6, 2) ∈ W0 := in_W0 (in_t1 213 rfl) rfl
theorem f_FL_63 : wFL (6, 30, 3, 1) ∈ W0 := in_W0 (in_t1 102 rfl) rfl
theorem f_FL_64 : wFL (6, 39, 3, 0) ∈ W0 := in_W0 (in_t1 92 rfl) rfl
theorem f_FL_65 : wFL (6, 52, 4, 0) ∈ W0 := in_W0 (in_t1 181 rfl) rfl
theorem f_FL_66 : wFL (6, 59, 3, 7) ∈ W0 := in_W0 (in_t1 132 rfl) rfl
theorem f_FL_67 : wFL (7, 9, 7, 0) ∈ W0 := in_W0 (in_t1 61 rfl) rfl
theorem f_FL_68 : wFL (7, 15, 7, 1) ∈ W0 := in_W0 (in_t1 65 rfl) rfl
theorem f_FL_69 : wFL (7, 25, 7, 3) ∈ W0 := in_W0 (in_t1 70 rfl) rfl
theorem f_FL_70 : wFL (7, 29, 7, 4) ∈ W0 := in_W0 (in_t1 73 rfl) rfl
theorem f_FL_71 : wFL (7, 33, 3, 1) ∈ W0 := in_W0 (in_t1 99 rfl) rfl
theorem f_FL_72 : wFL (7, 57, 4, 1) ∈ W0 := in_W0 (in_t1 184 rfl) rfl
theorem f_FL_73 : wFL (7, 61, 4, 3) ∈ W0 := in_W0 (in_t1 189 rfl) rfl
theorem f_FL_74 : wFL (7, 67, 3, 0) ∈ W0 := in_W0 (in_t1 94 rfl) rfl
theorem f_FL_75 : wFL (7, 70, 3, 8) ∈ W0 := in_W0 (in_t1 138 rfl) rfl
theorem f_FL_76 : wFL (7, 77, 3, 2) ∈ W0 := in_W0 (in_t1 111 rfl) rfl
theorem f_FL_77 : wFL (7, 80, 3, 5) ∈ W0 := in_W0 (in_t1 125 rfl) rfl
theorem f_FL_78 : wFL (7, 83, 3, 6) ∈ W0 := in_W0 (in_t1 128 rfl) rfl
theorem f_FL_79 : wFL (7, 90, 3, 3) ∈ W0 := in_W0 (in_t1 118 rfl) rfl
theorem f_FL_80 : wFL (7, 93, 3, 7) ∈ W0 := in_W0 (in_t1 134 rfl) rfl
theorem f_FL_81 : wFL (8, 9, 8, 0) ∈ W0 := in_W0 (in_t2 124 rfl) rfl
theorem f_FL_82 : wFL (8, 13, 8, 1) ∈ W0 := in_W0 (in_t2 126 rfl) rfl
theorem f_FL_83 : wFL (8, 17, 8, 2) ∈ W0 := in_W0 (in_t2 128 rfl) rfl
theorem f_FL_84 : wFL (8, 20, 8, 3) ∈ W0 := in_W0 (in_t2 130 rfl) rfl
theorem f_FL_85 : wFL (8, 23, 8, 4) ∈ W0 := in_W0 (in_t2 132 rfl) rfl
theorem f_FL_86 : wFL (9, 11, 9, 0) ∈ W0 := in_W0 (in_t1 32 rfl) rfl
theorem f_FL_87 : wFL (9, 15, 9, 1) ∈ W0 := in_W0 (in_t1 33 rfl) rfl
theorem f_FL_88 : wFL (9, 19, 9, 2) ∈ W0 := in_W0 (in_t1 35 rfl) rfl
theorem f_FL_89 : wFL (9, 42, 3, 3) ∈ W0 := in_W0 (in_t1 117 rfl) rfl
theorem f_FL_90 : wFL (9, 45, 3, 0) ∈ W0 := in_W0 (in_t1 95 rfl) rfl
theorem f_FL_91 : wFL (9, 48, 3, 1) ∈ W0 := in_W0 (in_t1 106 rfl) rfl
theorem f_FL_92 : wFL (9, 61, 3, 7) ∈ W0 := in_W0 (in_t1 135 rfl) rfl
theorem f_FL_93 : wFL (9, 73, 3, 4) ∈ W0 := in_W0 (in_t1 123 rfl) rfl
theorem f_FL_94 : wFL (10, 9, 10, 0) ∈ W0 := in_W0 (in_t2 10 rfl) rfl
theorem f_FL_95 : wFL (10, 15, 10, 1) ∈ W0 := in_W0 (in_t2 11 rfl) rfl
theorem f_FL_96 : wFL (10, 18, 10, 2) ∈ W0 := in_W0 (in_t2 12 rfl) rfl
theorem f_FL_97 : wFL (10, 21, 10, 3) ∈ W0 := in_W0 (in_t2 13 rfl) rfl
theorem f_FL_98 : wFL (10, 25, 3, 1) ∈ W0 := in_W0 (in_t1 97 rfl) rfl
theorem f_FL_99 : wFL (10, 31, 3, 4) ∈ W0 := in_W0 (in_t1 121 rfl) rfl
theorem f_FL_100 : wFL (10, 45, 7, 0) ∈ W0 := in_W0 (in_t1 62 rfl) rfl
theorem f_FL_101 : wFL (10, 67, 3, 0) ∈ W0 := in_W0 (in_t1 96 rfl) rfl
theorem f_FL_102 : wFL (10, 70, 3, 3) ∈ W0 := in_W0 (in_t1 119 rfl) rfl
theorem f_FL_103 : wFL (11, 12, 11, 0) ∈ W0 := in_W0 (in_t2 144 rfl) rfl
theorem f_FL_104 : wFL (11, 18, 11, 1) ∈ W0 := in_W0 (in_t2 145 rfl) rfl
theorem f_FL_105 : wFL (11, 23, 11, 3) ∈ W0 := in_W0 (in_t2 147 rfl) rfl
theorem f_FL_106 : wFL (11, 27, 11, 4) ∈ W0 := in_W0 (in_t2 148 rfl) rfl
theorem f_FL_107 : wFL (11, 34, 11, 6) ∈ W0 := in_W0 (in_t2 150 rfl) rfl
theorem f_FL_108 : wFL (11, 41, 11, 8) ∈ W0 := in_W0 (in_t2 152 rfl) rfl
theorem f_FL_109 : wFL (11, 45, 11, 9) ∈ W0 := in_W0 (in_t2 153 rfl) rfl
theorem f_FL_110 : wFL (11, 48, 11, 10) ∈ W0 := in_W0 (in_t2 154 rfl) rfl
theorem f_FL_111 : wFL (11, 51, 11, 11) ∈ W0 := in_W0 (in_t2 155 rfl) rfl
theorem f_FL_112 : wFL (11, 54, 11, 12) ∈ W0 := in_W0 (in_t2 156 rfl) rfl
theorem f_FL_113 : wFL (11, 61, 11, 13) ∈ W0 := in_W0 (in_t2 157 rfl) rfl
theorem f_FL_114 : wFL (11, 68, 11, 14) ∈ W0 := in_W0 (in_t2 158 rfl) rfl
theorem f_FL_115 : wFL (11, 75, 11, 15) ∈ W0 := in_W0 (in_t2 159 rfl) rfl
theorem f_FL_116 : wFL (11, 82, 11, 16) ∈ W0 := in_W0 (in_t2 160 rfl) rfl
theorem f_FL_117 : wFL (11, 89, 11, 17) ∈ W0 := in_W0 (in_t2 161 rfl) rfl
theorem f_FL_118 : wFL (11, 95, 11, 18) ∈ W0 := in_W0 (in_t2 162 rfl) rfl
theorem f_FL_119 : wFL (11, 100, 9, 1) ∈ W0 := in_W0 (in_t1 34 rfl) rfl
theorem f_FL_120 : wFL (11, 108, 11, 2) ∈ W0 := in_W0 (in_t2 146 rfl) rfl
theorem f_FL_121 : wFL (11, 115, 9, 2) ∈ W0 := in_W0 (in_t1 36 rfl) rfl
theorem f_FL_122 : wFL (11, 127, 3, 4) ∈ W0 := in_W0 (in_t1 122 rfl) rfl
theorem f_FL_123 : wFL (11, 133, 3, 3) ∈ W0 := in_W0 (in_t1 116 rfl) rfl
theorem f_FL_124 : wFL (11, 136, 3, 1) ∈ W0 := in_W0 (in_t1 105 rfl) rfl
theorem f_FL_125 : wFL (11, 139, 3, 0) ∈ W0 := in_W0 (in_t1 93 rfl) rfl
theorem f_FL_126 : wFL (11, 142, 3, 2) ∈ W0 := in_W0 (in_t1 110 rfl) rfl
theorem f_FL_127 : wFL (11, 148, 3, 7) ∈ W0 := in_W0 (in_t1 133 rfl) rfl
theorem f_FL_128 : wFL (11, 152, 3, 5) ∈ W0 := in_W0 (in_t1 126 rfl) rfl
theorem f_FL_129 : wFL (11, 155, 3, 6) ∈ W0 := in_W0 (in_t1 129 rfl) rfl
theorem f_FL_130 : wFL (11, 181, 11, 7) ∈ W0 := in_W0 (in_t2 151 rfl) rfl
theorem f_FL_131 : wFL (11, 190, 4, 0) ∈ W0 := in_W0 (in_t1 182 rfl) rfl
theorem f_FL_132 : wFL (11, 196, 4, 1) ∈ W0 := in_W0 (in_t1 185 rfl) rfl
theorem f_FL_133 : wFL (11, 199, 4, 2) ∈ W0 := in_W0 (in_t1 187 rfl) rfl
theorem f_FL_134 : wFL (11, 202, 4, 3) ∈ W0 := in_W0 (in_t1 190 rfl) rfl
theorem f_FL_135 : wFL (11, 209, 6, 2) ∈ W0 := in_W0 (in_t1 214 rfl) rfl
theorem f_FL_136 : wFL (11, 211, 6, 0) ∈ W0 := in_W0 (in_t1 210 rfl) rfl
theorem f_FL_137 : wFL (11, 214, 6, 1) ∈ W0 := in_W0 (in_t1 212 rfl) rfl
theorem f_FL_138 : wFL (11, 217, 11, 5) ∈ W0 := in_W0 (in_t2 149 rfl) rfl
theorem f_FL_139 : wFL (11, 229, 7, 3) ∈ W0 := in_W0 (in_t1 72 rfl) rfl
theorem f_FL_140 : wFL (11, 237, 7, 0) ∈ W0 := in_W0 (in_t1 64 rfl) rfl
theorem f_FL_141 : wFL (11, 240, 7, 1) ∈ W0 := in_W0 (in_t1 67 rfl) rfl
theorem f_FL_142 : wFL (11, 248, 7, 4) ∈ W0 := in_W0 (in_t1 75 rfl) rfl
theorem f_FL_143 : wFL (11, 275, 3, 8) ∈ W0 := in_W0 (in_t1 139 rfl) rfl
theorem f_FL_144 : wFL (11, 284, 8, 1) ∈ W0 := in_W0 (in_t2 127 rfl) rfl
theorem f_FL_145 : wFL (11, 287, 8, 3) ∈ W0 := in_W0 (in_t2 131 rfl) rfl
theorem f_FL_146 : wFL (11, 294, 8, 0) ∈ W0 := in_W0 (in_t2 125 rfl) rfl
theorem f_FL_147 : wFL (11, 312, 5, 2) ∈ W0 := in_W0 (in_t2 36 rfl) rfl
theorem f_FL_148 : wFL (11, 313, 5, 0) ∈ W0 := in_W0 (in_t2 32 rfl) rfl
theorem f_FL_149 : wFL (11, 316, 5, 1) ∈ W0 := in_W0 (in_t2 34 rfl) rfl
theorem f_FL_150 : wFL (11, 319, 2, 1) ∈ W0 := in_W0 (in_t2 75 rfl) rfl
theorem f_FL_151 : wFL (11, 320, 2, 2) ∈ W0 := in_W0 (in_t2 77 rfl) rfl
theorem f_FL_152 : wFL (11, 329, 2, 0) ∈ W0 := in_W0 (in_t2 73 rfl) rfl
theorem f_FL_153 : wFL (11, 339, 2, 4) ∈ W0 := in_W0 (in_t2 81 rfl) rfl
theorem f_FL_154 : wFL (11, 341, 2, 3) ∈ W0 := in_W0 (in_t2 79 rfl) rfl
theorem f_FL_155 : wFL (11, 343, 3, 10) ∈ W0 := in_W0 (in_t1 143 rfl) rfl
theorem f_FL_156 : wFL (11, 349, 3, 11) ∈ W0 := in_W0 (in_t1 144 rfl) rfl
theorem f_FL_157 : wFL (11, 352, 3, 12) ∈ W0 := in_W0 (in_t1 145 rfl) rfl
theorem f_FL_158 : wFL (11, 375, 0, 1) ∈ W0 := in_W0 (in_t2 105 rfl) rfl
theorem f_FL_159 : wFL (11, 378, 0, 0) ∈ W0 := in_W0 (in_t2 103 rfl) rfl
theorem f_FL_160 : wFL (11, 402, 8, 2) ∈ W0 := in_W0 (in_t2 129 rfl) rfl
theorem f_FL_161 : wFL (11, 412, 3, 9) ∈ W0 := in_W0 (in_t1 141 rfl) rfl
theorem f_FL_162 : wFL (11, 416, 7, 2) ∈ W0 := in_W0 (in_t1 69 rfl) rfl
theorem f_FL_163 : wFL (12, 7, 12, 1) ∈ W0 := in_W0 (in_t5 82 rfl) rfl
theorem f_FL_164 : wFL (12, 13, 12, 2) ∈ W0 := in_W0 (in_t5 83 rfl) rfl
theorem f_FL_165 : wFL (12, 16, 12, 3) ∈ W0 := in_W0 (in_t5 84 rfl) rfl
theorem f_FL_166 : wFL (12, 19, 12, 4) ∈ W0 := in_W0 (in_t5 85 rfl) rfl
theorem f_FL_167 : wFL (12, 22, 12, 5) ∈ W0 := in_W0 (in_t5 86 rfl) rfl
theorem f_FL_168 : wFL (12, 25, 12, 6) ∈ W0 := in_W0 (in_t5 87 rfl) rfl
theorem f_FL_169 : wFL (12, 28, 12, 7) ∈ W0 := in_W0 (in_t5 88 rfl) rfl
theorem f_FL_170 : wFL (12, 31, 12, 8) ∈ W0 := in_W0 (in_t5 89 rfl) rfl
theorem f_FL_171 : wFL (12, 34, 12, 9) ∈ W0 := in_W0 (in_t5 90 rfl) rfl
theorem f_FL_172 : wFL (12, 37, 12, 11) ∈ W0 := in_W0 (in_t5 92 rfl) rfl
theorem f_FL_173 : wFL (12, 40, 12, 12) ∈ W0 := in_W0 (in_t5 93 rfl) rfl
theorem f_FL_174 : wFL (12, 43, 12, 14) ∈ W0 := in_W0 (in_t5 95 rfl) rfl
theorem f_FL_175 : wFL (12, 47, 12, 15) ∈ W0 := in_W0 (in_t5 96 rfl) rfl
theorem f_FL_176 : wFL (12, 50, 12, 16) ∈ W0 := in_W0 (in_t5 97 rfl) rfl
theorem f_FL_177 : wFL (12, 53, 12, 17) ∈ W0 := in_W0 (in_t5 98 rfl) rfl
theorem f_FL_178 : wFL (12, 56, 12, 18) ∈ W0 := in_W0 (in_t5 99 rfl) rfl
theorem f_FL_179 : wFL (12, 59, 12, 19) ∈ W0 := in_W0 (in_t5 100 rfl) rfl
theorem f_FL_180 : wFL (12, 62, 12, 22) ∈ W0 := in_W0 (in_t5 103 rfl) rfl
theorem f_FL_181 : wFL (12, 67, 12, 23) ∈ W0 := in_W0 (in_t5 104 rfl) rfl
theorem f_FL_182 : wFL (12, 71, 12, 24) ∈ W0 := in_W0 (in_t5 105 rfl) rfl
theorem f_FL_183 : wFL (12, 74, 12, 25) ∈ W0 := in_W0 (in_t5 106 rfl) rfl
theorem f_FL_184 : wFL (12, 77, 12, 27) ∈ W0 := in_W0 (in_t5 108 rfl) rfl
theorem f_FL_185 : wFL (12, 80, 12, 28) ∈ W0 := in_W0 (in_t5 109 rfl) rfl
theorem f_FL_186 : wFL (12, 83, 12, 29) ∈ W0 := in_W0 (in_t5 110 rfl) rfl
theorem f_FL_187 : wFL (12, 86, 12, 30) ∈ W0 := in_W0 (in_t5 111 rfl) rfl
theorem f_FL_188 : wFL (12, 90, 12, 32) ∈ W0 := in_W0 (in_t5 113 rfl) rfl
theorem f_FL_189 : wFL (12, 93, 12, 33) ∈ W0 := in_W0 (in_t5 114 rfl) rfl
theorem f_FL_190 : wFL (12, 96, 12, 34) ∈ W0 := in_W0 (in_t5 115 rfl) rfl
theorem f_FL_191 : wFL (12, 99, 12, 35) ∈ W0 := in_W0 (in_t5 116 rfl) rfl
theorem f_FL_192 : wFL (12, 102, 12, 36) ∈ W0 := in_W0 (in_t5 117 rfl) rfl
theorem f_FL_193 : wFL (12, 105, 12, 37) ∈ W0 := in_W0 (in_t5 118 rfl) rfl
theorem f_FL_194 : wFL (12, 108, 12, 38) ∈ W0 := in_W0 (in_t5 119 rfl) rfl
theorem f_FL_195 : wFL (12, 111, 12, 39) ∈ W0 := in_W0 (in_t5 120 rfl) rfl
theorem f_FL_196 : wFL (12, 114, 12, 41) ∈ W0 := in_W0 (in_t5 122 rfl) rfl
theorem f_FL_197 : wFL (12, 117, 12, 42) ∈ W0 := in_W0 (in_t5 123 rfl) rfl
theorem f_FL_198 : wFL (12, 120, 12, 45) ∈ W0 := in_W0 (in_t5 126 rfl) rfl
theorem f_FL_199 : wFL (12, 123, 12, 46) ∈ W0 := in_W0 (in_t5 127 rfl) rfl
theorem f_FL_200 : wFL (12, 126, 12, 47) ∈ W0 := in_W0 (in_t5 128 rfl) rfl
theorem f_FL_201 : wFL (12, 129, 12, 50) ∈ W0 := in_W0 (in_t5 131 rfl) rfl
theorem f_FL_202 : wFL (12, 132, 12, 51) ∈ W0 := in_W0 (in_t5 132 rfl) rfl
theorem f_FL_203 : wFL (12, 135, 12, 52) ∈ W0 := in_W0 (in_t5 133 rfl) rfl
theorem f_FL_204 : wFL (12, 138, 12, 53) ∈ W0 := in_W0 (in_t5 134 rfl) rfl
theorem f_FL_205 : wFL (12, 141, 12, 54) ∈ W0 := in_W0 (in_t5 135 rfl) rfl
theorem f_FL_206 : wFL (12, 145, 12, 55) ∈ W0 := in_W0 (in_t5 136 rfl) rfl
theorem f_FL_207 : wFL (12, 148, 12, 56) ∈ W0 := in_W0 (in_t5 137 rfl) rfl
theorem f_FL_208 : wFL (12, 151, 12, 57) ∈ W0 := in_W0 (in_t5 138 rfl) rfl
theorem f_FL_209 : wFL (12, 154, 12, 58) ∈ W0 := in_W0 (in_t5 139 rfl) rfl
theorem f_FL_210 : wFL (12, 157, 12, 59) ∈ W0 := in_W0 (in_t5 140 rfl) rfl
theorem f_FL_211 : wFL (12, 160, 12, 60) ∈ W0 := in_W0 (in_t5 141 rfl) rfl
theorem f_FL_212 : wFL (12, 163, 12, 61) ∈ W0 := in_W0 (in_t5 142 rfl) rfl
theorem f_FL_213 : wFL (12, 166, 12, 62) ∈ W0 := in_W0 (in_t5 143 rfl) rfl
theorem f_FL_214 : wFL (12, 169, 12, 63) ∈ W0 := in_W0 (in_t5 144 rfl) rfl
theorem f_FL_215 : wFL (12, 172, 12, 64) ∈ W0 := in_W0 (in_t5 145 rfl) rfl
theorem f_FL_216 : wFL (12, 175, 12, 0) ∈ W0 := in_W0 (in_t5 81 rfl) rfl
theorem f_FL_217 : wFL (12, 186, 12, 13) ∈ W0 := in_W0 (in_t5 94 rfl) rfl
theorem f_FL_218 : wFL (12, 189, 12, 31) ∈ W0 := in_W0 (in_t5 112 rfl) rfl
theorem f_FL_219 : wFL (12, 225, 12, 10) ∈ W0 := in_W0 (in_t5 91 rfl) rfl
theorem f_FL_220 : wFL (12, 254, 12, 40) ∈ W0 := in_W0 (in_t5 121 rfl) rfl
theorem f_FL_221 : wFL (12, 260, 12, 43) ∈ W0 := in_W0 (in_t5 124 rfl) rfl
theorem f_FL_222 : wFL (12, 279, 12, 48) ∈ W0 := in_W0 (in_t5 129 rfl) rfl
theorem f_FL_223 : wFL (12, 282, 12, 49) ∈ W0 := in_W0 (in_t5 130 rfl) rfl
theorem f_FL_224 : wFL (12, 292, 12, 44) ∈ W0 := in_W0 (in_t5 125 rfl) rfl
theorem f_FL_225 : wFL (12, 377, 12, 20) ∈ W0 := in_W0 (in_t5 101 rfl) rfl
theorem f_FL_226 : wFL (12, 380, 12, 21) ∈ W0 := in_W0 (in_t5 102 rfl) rfl
theorem f_FL_227 : wFL (12, 390, 12, 26) ∈ W0 := in_W0 (in_t5 107 rfl) rfl
theorem FL_ok_nil : ∀ q ∈ ([] : List (Nat × Nat × Nat × Nat)), wFL q ∈ W0 := fun _ h => absurd h List.not_mem_nil
set_option maxRecDepth 100000 in
theorem FL_ok : ∀ q ∈ LFL, wFL q ∈ W0 := List.forall_mem_cons.mpr ⟨f_FL_0, List.forall_mem_cons.mpr ⟨f_FL_1, List.forall_mem_cons.mpr ⟨f_FL_2, List.forall_mem_cons.mpr ⟨f_FL_3, List.forall_mem_cons.mpr ⟨f_FL_4, List.forall_mem_cons.mpr ⟨f_FL_5, List.forall_mem_cons.mpr ⟨f_FL_6, List.forall_mem_cons.mpr ⟨f_FL_7, List.forall_mem_cons.mpr ⟨f_FL_8, List.forall_mem_cons.mpr ⟨f_FL_9, List.forall_mem_cons.mpr ⟨f_FL_10, List.forall_mem_cons.mpr ⟨f_FL_11, List.forall_mem_cons.mpr ⟨f_FL_12, List.forall_mem_cons.mpr ⟨f_FL_13, List.forall_mem_cons.mpr ⟨f_FL_14, List.forall_mem_cons.mpr ⟨f_FL_15, List.forall_mem_cons.mpr ⟨f_FL_16, List.forall_mem_cons.mpr ⟨f_FL_17, List.forall_mem_cons.mpr ⟨f_FL_18, List.forall_mem_cons.mpr ⟨f_FL_19, List.forall_mem_cons.mpr ⟨f_FL_20, List.forall_mem_cons.mpr ⟨f_FL_21, List.forall_mem_cons.mpr ⟨f_FL_22, List.forall_mem_cons.mpr ⟨f_FL_23, List.forall_mem_cons.mpr ⟨f_FL_24, List.forall_mem_cons.mpr ⟨f_FL_25, List.forall_mem_cons.mpr ⟨f_FL_26, List.forall_mem_cons.mpr ⟨f_FL_27, List.forall_mem_cons.mpr ⟨f_FL_28, List.forall_mem_cons.mpr ⟨f_FL_29, List.forall_mem_cons.mpr ⟨f_FL_30, List.forall_mem_cons.mpr ⟨f_FL_31, List.forall_mem_cons.mpr ⟨f_FL_32, List.forall_mem_cons.mpr ⟨f_FL_33, List.forall_mem_cons.mpr ⟨f_FL_34, List.forall_mem_cons.mpr ⟨f_FL_35, List.forall_mem_cons.mpr ⟨f_FL_36, List.forall_mem_cons.mpr ⟨f_FL_37, List.forall_mem_cons.mpr ⟨f_FL_38, List.forall_mem_cons.mpr ⟨f_FL_39, List.forall_mem_cons.mpr ⟨f_FL_40, List.forall_mem_cons.mpr ⟨f_FL_41, List.forall_mem_cons.mpr ⟨f_FL_42, List.forall_mem_cons.mpr ⟨f_FL_43, List.forall_mem_cons.mpr ⟨f_FL_44, List.forall_mem_cons.mpr ⟨f_FL_45, List.forall_mem_cons.mpr ⟨f_FL_46, List.forall_mem_cons.mpr ⟨f_FL_47, List.forall_mem_cons.mpr ⟨f_FL_48, List.forall_mem_cons.mpr ⟨f_FL_49, List.forall_mem_cons.mpr ⟨f_FL_50, List.forall_mem_cons.mpr ⟨f_FL_51, List.forall_mem_cons.mpr ⟨f_FL_52, List.forall_mem_cons.mpr ⟨f_FL_53, List.forall_mem_cons.mpr ⟨f_FL_54, List.forall_mem_cons.mpr ⟨f_FL_55, List.forall_mem_cons.mpr ⟨f_FL_56, List.forall_mem_cons.mpr ⟨f_FL_57, List.forall_mem_cons.mpr ⟨f_FL_58, List.forall_mem_cons.mpr ⟨f_FL_59, List.forall_mem_cons.mpr ⟨f_FL_60, List.forall_mem_cons.mpr ⟨f_FL_61, List.forall_mem_cons.mpr ⟨f_FL_62, List.forall_mem_cons.mpr ⟨f_FL_63, List.forall_mem_cons.mpr ⟨f_FL_64, List.forall_mem_cons.mpr ⟨f_FL_65, List.forall_mem_cons.mpr ⟨f_FL_66, List.forall_mem_cons.mpr ⟨f_FL_67, List.forall_mem_cons.mpr ⟨f_FL_68, List.forall_mem_cons.mpr ⟨f_FL_69, List.forall_mem_cons.mpr ⟨f_FL_70, List.forall_mem_cons.mpr ⟨f_FL_71, List.forall_mem_cons.mpr ⟨f_FL_72, List.forall_mem_cons.mpr ⟨f_FL_73, List.forall_mem_cons.mpr ⟨f_FL_74, List.forall_mem_cons.mpr ⟨f_FL_75, List.forall_mem_cons.mpr ⟨f_FL_76, List.forall_mem_cons.mpr ⟨f_FL_77, List.forall_mem_cons.mpr ⟨f_FL_78, List.forall_mem_cons.mpr ⟨f_FL_79, List.forall_mem_cons.mpr ⟨f_FL_80, List.forall_mem_cons.mpr ⟨f_FL_81, List.forall_mem_cons.mpr ⟨f_FL_82, List.forall_mem_cons.mpr ⟨f_FL_83, List.forall_mem_cons.mpr ⟨f_FL_84, List.forall_mem_cons.mpr ⟨f_FL_85, List.forall_mem_cons.mpr ⟨f_FL_86, List.forall_mem_cons.mpr ⟨f_FL_87, List.forall_mem_cons.mpr ⟨f_FL_88, List.forall_mem_cons.mpr ⟨f_FL_89, List.forall_mem_cons.mpr ⟨f_FL_90, List.forall_mem_cons.mpr ⟨f_FL_91, List.forall_mem_cons.mpr ⟨f_FL_92, List.forall_mem_cons.mpr ⟨f_FL_93, List.forall_mem_cons.mpr ⟨f_FL_94, List.forall_mem_cons.mpr ⟨f_FL_95, List.forall_mem_cons.mpr ⟨f_FL_96, List.forall_mem_cons.mpr ⟨f_FL_97, List.forall_mem_cons.mpr ⟨f_FL_98, List.forall_mem_cons.mpr ⟨f_FL_99, List.forall_mem_cons.mpr ⟨f_FL_100, List.forall_mem_cons.mpr ⟨f_FL_101, List.forall_mem_cons.mpr ⟨f_FL_102, List.forall_mem_cons.mpr ⟨f_FL_103, List.forall_mem_cons.mpr ⟨f_FL_104, List.forall_mem_cons.mpr ⟨f_FL_105, List.forall_mem_cons.mpr ⟨f_FL_106, List.forall_mem_cons.mpr ⟨f_FL_107, List.forall_mem_cons.mpr ⟨f_FL_108, List.forall_mem_cons.mpr ⟨f_FL_109, List.forall_mem_cons.mpr ⟨f_FL_110, List.forall_mem_cons.mpr ⟨f_FL_111, List.forall_mem_cons.mpr ⟨f_FL_112, List.forall_mem_cons.mpr ⟨f_FL_113, List.forall_mem_cons.mpr ⟨f_FL_114, List.forall_mem_cons.mpr ⟨f_FL_115, List.forall_mem_cons.mpr ⟨f_FL_116, List.forall_mem_cons.mpr ⟨f_FL_117, List.forall_mem_cons.mpr ⟨f_FL_118, List.forall_mem_cons.mpr ⟨f_FL_119, List.forall_mem_cons.mpr ⟨f_FL_120, List.forall_mem_cons.mpr ⟨f_FL_121, List.forall_mem_cons.mpr ⟨f_FL_122, List.forall_mem_cons.mpr ⟨f_FL_123, List.forall_mem_cons.mpr ⟨f_FL_124, List.forall_mem_cons.mpr ⟨f_FL_125, List.forall_mem_cons.mpr ⟨f_FL_126, List.forall_mem_cons.mpr ⟨f_FL_127, List.forall_mem_cons.mpr ⟨f_FL_128, List.forall_mem_cons.mpr ⟨f_FL_129, List.forall_mem_cons.mpr ⟨f_FL_130, List.forall_mem_cons.mpr ⟨f_FL_131, List.forall_mem_cons.mpr ⟨f_FL_132, List.forall_mem_cons.mpr ⟨f_FL_133, List.forall_mem_cons.mpr ⟨f_FL_134, List.forall_mem_cons.mpr ⟨f_FL_135, List.forall_mem_cons.mpr ⟨f_FL_136, List.forall_mem_cons.mpr ⟨f_FL_137, List.forall_mem_cons.mpr ⟨f_FL_138, List.forall_mem_cons.mpr ⟨f_FL_139, List.forall_mem_cons.mpr ⟨f_FL_140, List.forall_mem_cons.mpr ⟨f_FL_141, List.forall_mem_cons.mpr ⟨f_FL_142, List.forall_mem_cons.mpr ⟨f_FL_143, List.forall_mem_cons.mpr ⟨f_FL_144, List.forall_mem_cons.mpr ⟨f_FL_145, List.forall_mem_cons.mpr ⟨f_FL_146, List.forall_mem_cons.mpr ⟨f_FL_147, List.forall_mem_cons.mpr ⟨f_FL_148, List.forall_mem_cons.mpr ⟨f_FL_149, List.forall_mem_cons.mpr ⟨f_FL_150, List.forall_mem_cons.mpr ⟨f_FL_151, List.forall_mem_cons.mpr ⟨f_FL_152, List.forall_mem_cons.mpr ⟨f_FL_153, List.forall_mem_cons.mpr ⟨f_FL_154, List.forall_mem_cons.mpr ⟨f_FL_155, List.forall_mem_cons.mpr ⟨f_FL_156, List.forall_mem_cons.mpr ⟨f_FL_157, List.forall_mem_cons.mpr ⟨f_FL_158, List.forall_mem_cons.mpr ⟨f_FL_159, List.forall_mem_cons.mpr ⟨f_FL_160, List.forall_mem_cons.mpr ⟨f_FL_161, List.forall_mem_cons.mpr ⟨f_FL_162, List.forall_mem_cons.mpr ⟨f_FL_163, List.forall_mem_cons.mpr ⟨f_FL_164, List.forall_mem_cons.mpr ⟨f_FL_165, List.forall_mem_cons.mpr ⟨f_FL_166, List.forall_mem_cons.mpr ⟨f_FL_167, List.forall_mem_cons.mpr ⟨f_FL_168, List.forall_mem_cons.mpr ⟨f_FL_169, List.forall_mem_cons.mpr ⟨f_FL_170, List.forall_mem_cons.mpr ⟨f_FL_171, List.forall_mem_cons.mpr ⟨f_FL_172, List.forall_mem_cons.mpr ⟨f_FL_173, List.forall_mem_cons.mpr ⟨f_FL_174, List.forall_mem_cons.mpr ⟨f_FL_175, List.forall_mem_cons.mpr ⟨f_FL_176, List.forall_mem_cons.mpr ⟨f_FL_177, List.forall_mem_cons.mpr ⟨f_FL_178, List.forall_mem_cons.mpr ⟨f_FL_179, List.forall_mem_cons.mpr ⟨f_FL_180, List.forall_mem_cons.mpr ⟨f_FL_181, List.forall_mem_cons.mpr ⟨f_FL_182, List.forall_mem_cons.mpr ⟨f_FL_183, List.forall_mem_cons.mpr ⟨f_FL_184, List.forall_mem_cons.mpr ⟨f_FL_185, List.forall_mem_cons.mpr ⟨f_FL_186, List.forall_mem_cons.mpr ⟨f_FL_187, List.forall_mem_cons.mpr ⟨f_FL_188, List.forall_mem_cons.mpr ⟨f_FL_189, List.forall_mem_cons.mpr ⟨f_FL_190, List.forall_mem_cons.mpr ⟨f_FL_191, List.forall_mem_cons.mpr ⟨f_FL_192, List.forall_mem_cons.mpr ⟨f_FL_193, List.forall_mem_cons.mpr ⟨f_FL_194, List.forall_mem_cons.mpr ⟨f_FL_195, List.forall_mem_cons.mpr ⟨f_FL_196, List.forall_mem_cons.mpr ⟨f_FL_197, List.forall_mem_cons.mpr ⟨f_FL_198, List.forall_mem_cons.mpr ⟨f_FL_199, List.forall_mem_cons.mpr ⟨f_FL_200, List.forall_mem_cons.mpr ⟨f_FL_201, List.forall_mem_cons.mpr ⟨f_FL_202, List.forall_mem_cons.mpr ⟨f_FL_203, List.forall_mem_cons.mpr ⟨f_FL_204, List.forall_mem_cons.mpr ⟨f_FL_205, List.forall_mem_cons.mpr ⟨f_FL_206, List.forall_mem_cons.mpr ⟨f_FL_207, List.forall_mem_cons.mpr ⟨f_FL_208, List.forall_mem_cons.mpr ⟨f_FL_209, List.forall_mem_cons.mpr ⟨f_FL_210, List.forall_mem_cons.mpr ⟨f_FL_211, List.forall_mem_cons.mpr ⟨f_FL_212, List.forall_mem_cons.mpr ⟨f_FL_213, List.forall_mem_cons.mpr ⟨f_FL_214, List.forall_mem_cons.mpr ⟨f_FL_215, List.forall_mem_cons.mpr ⟨f_FL_216, List.forall_mem_cons.mpr ⟨f_FL_217, List.forall_mem_cons.mpr ⟨f_FL_218, List.forall_mem_cons.mpr ⟨f_FL_219, List.forall_mem_cons.mpr ⟨f_FL_220, List.forall_mem_cons.mpr ⟨f_FL_221, List.forall_mem_cons.mpr ⟨f_FL_222, List.forall_mem_cons.mpr ⟨f_FL_223, List.forall_mem_cons.mpr ⟨f_FL_224, List.forall_mem_cons.mpr ⟨f_FL_225, List.forall_mem_cons.mpr ⟨f_FL_226, List.forall_mem_cons.mpr ⟨f_FL_227, FL_ok_nil⟩⟩⟩⟩⟩⟩⟩⟩⟩⟩⟩⟩⟩⟩⟩⟩⟩⟩⟩⟩⟩⟩⟩⟩⟩⟩⟩⟩⟩⟩⟩⟩⟩⟩⟩⟩⟩⟩⟩⟩⟩⟩⟩⟩⟩⟩⟩⟩⟩⟩⟩⟩⟩⟩⟩⟩⟩⟩⟩⟩⟩⟩⟩⟩⟩⟩⟩⟩⟩⟩⟩⟩⟩⟩⟩⟩⟩⟩⟩⟩⟩⟩⟩⟩⟩⟩⟩⟩⟩⟩⟩⟩⟩⟩⟩⟩⟩⟩⟩⟩⟩⟩⟩⟩⟩⟩⟩⟩⟩⟩⟩⟩⟩⟩⟩⟩⟩⟩⟩⟩⟩⟩⟩⟩⟩⟩⟩⟩⟩⟩⟩⟩⟩⟩⟩⟩⟩⟩⟩⟩⟩⟩⟩⟩⟩⟩⟩⟩⟩⟩⟩⟩⟩⟩⟩⟩⟩⟩⟩⟩⟩⟩⟩⟩⟩⟩⟩⟩⟩⟩⟩⟩⟩⟩⟩⟩⟩⟩⟩⟩⟩⟩⟩⟩⟩⟩⟩⟩⟩⟩⟩⟩⟩⟩⟩⟩⟩⟩⟩⟩⟩⟩⟩⟩⟩⟩⟩⟩⟩⟩⟩⟩⟩⟩⟩⟩⟩⟩⟩⟩⟩⟩⟩⟩⟩⟩⟩⟩
theorem f_GS_0 : wGS (0, 29, 2, 0) ∈ W0 := in_W0 (in_t5 11 rfl) rfl
theorem f_GS_1 : wGS (11, 409, 1, 0) ∈ W0 := in_W0 (in_t5 69 rfl) rfl
theorem GS_ok_nil : ∀ q ∈ ([] : List (Nat × Nat × Nat × Nat)), wGS q ∈ W0 := fun _ h => absurd h List.not_mem_nil
set_option maxRecDepth 100000 in
theorem GS_ok : ∀ q ∈ LGS, wGS q ∈ W0 := List.forall_mem_cons.mpr ⟨f_GS_0, List.forall_mem_cons.mpr ⟨f_GS_1, GS_ok_nil⟩⟩
theorem f_ML_0 : wML (0, 25, 4) ∈ W0 := in_W0 (in_t5 8 rfl) rfl
theorem f_ML_1 : wML (0, 35, 3) ∈ W0 := in_W0 (in_t5 15 rfl) rfl
theorem f_ML_2 : wML (1, 43, 7) ∈ W0 := in_W0 (in_t3 196 rfl) rfl
theorem f_ML_3 : wML (1, 47, 8) ∈ W0 := in_W0 (in_t3 201 rfl) rfl
theorem f_ML_4 : wML (1, 53, 252) ∈ W0 := in_W0 (in_t3 206 rfl) rfl
theorem f_ML_5 : wML (1, 63, 9) ∈ W0 := in_W0 (in_t3 209 rfl) rfl
theorem f_ML_6 : wML (1, 67, 10) ∈ W0 := in_W0 (in_t3 213 rfl) rfl
theorem f_ML_7 : wML (1, 77, 26) ∈ W0 := in_W0 (in_t3 200 rfl) rfl
theorem f_ML_8 : wML (2, 32, 36) ∈ W0 := in_W0 (in_t4 184 rfl) rfl
theorem f_ML_9 : wML (2, 38, 16) ∈ W0 := in_W0 (in_t4 192 rfl) rfl
theorem f_ML_10 : wML (2, 42, 247) ∈ W0 := in_W0 (in_t4 198 rfl) rfl
theorem f_ML_11 : wML (2, 59, 253) ∈ W0 := in_W0 (in_t4 197 rfl) rfl
theorem f_ML_12 : wML (3, 51, 249) ∈ W0 := in_W0 (in_t2 222 rfl) rfl
theorem f_ML_13 : wML (3, 57, 21) ∈ W0 := in_W0 (in_t2 225 rfl) rfl
theorem f_ML_14 : wML (3, 73, 22) ∈ W0 := in_W0 (in_t4 64 rfl) rfl
theorem f_ML_15 : wML (3, 77, 23) ∈ W0 := in_W0 (in_t4 65 rfl) rfl
theorem f_ML_16 : wML (3, 81, 27) ∈ W0 := in_W0 (in_t4 111 rfl) rfl
theorem f_ML_17 : wML (3, 85, 30) ∈ W0 := in_W0 (in_t4 115 rfl) rfl
theorem f_ML_18 : wML (3, 89, 28) ∈ W0 := in_W0 (in_t4 119 rfl) rfl
theorem f_ML_19 : wML (3, 92, 29) ∈ W0 := in_W0 (in_t4 131 rfl) rfl
theorem f_ML_20 : wML (4, 37, 249) ∈ W0 := in_W0 (in_t3 89 rfl) rfl
theorem f_ML_21 : wML (4, 56, 34) ∈ W0 := in_W0 (in_t3 90 rfl) rfl
theorem f_ML_22 : wML (4, 60, 26) ∈ W0 := in_W0 (in_t3 94 rfl) rfl
theorem f_ML_23 : wML (4, 68, 36) ∈ W0 := in_W0 (in_t4 223 rfl) rfl
theorem f_ML_24 : wML (4, 72, 251) ∈ W0 := in_W0 (in_t4 224 rfl) rfl
theorem f_ML_25 : wML (4, 77, 253) ∈ W0 := in_W0 (in_t4 225 rfl) rfl
theorem f_ML_26 : wML (5, 58, 41) ∈ W0 := in_W0 (in_t4 137 rfl) rfl
theorem f_ML_27 : wML (5, 62, 42) ∈ W0 := in_W0 (in_t4 144 rfl) rfl
theorem f_ML_28 : wML (5, 66, 45) ∈ W0 := in_W0 (in_t4 156 rfl) rfl
theorem f_ML_29 : wML (5, 70, 253) ∈ W0 := in_W0 (in_t4 160 rfl) rfl
theorem f_ML_30 : wML (5, 86, 251) ∈ W0 := in_W0 (in_t4 141 rfl) rfl
theorem f_ML_31 : wML (5, 89, 43) ∈ W0 := in_W0 (in_t4 148 rfl) rfl
theorem f_ML_32 : wML (5, 93, 44) ∈ W0 := in_W0 (in_t4 152 rfl) rfl
theorem f_ML_33 : wML (6, 22, 49) ∈ W0 := in_W0 (in_t3 126 rfl) rfl
theorem f_ML_34 : wML (6, 35, 52) ∈ W0 := in_W0 (in_t3 137 rfl) rfl
theorem f_ML_35 : wML (6, 42, 35) ∈ W0 := in_W0 (in_t3 130 rfl) rfl
theorem f_ML_36 : wML (6, 48, 50) ∈ W0 := in_W0 (in_t3 131 rfl) rfl
theorem f_ML_37 : wML (6, 55, 51) ∈ W0 := in_W0 (in_t3 134 rfl) rfl
theorem f_ML_38 : wML (6, 63, 54) ∈ W0 := in_W0 (in_t3 140 rfl) rfl
theorem f_ML_39 : wML (6, 66, 53) ∈ W0 := in_W0 (in_t3 143 rfl) rfl
theorem f_ML_40 : wML (7, 19, 248) ∈ W0 := in_W0 (in_t3 170 rfl) rfl
theorem f_ML_41 : wML (7, 43, 33) ∈ W0 := in_W0 (in_t3 181 rfl) rfl
theorem f_ML_42 : wML (7, 49, 58) ∈ W0 := in_W0 (in_t3 182 rfl) rfl
theorem f_ML_43 : wML (7, 73, 61) ∈ W0 := in_W0 (in_t4 15 rfl) rfl
theorem f_ML_44 : wML (7, 86, 62) ∈ W0 := in_W0 (in_t4 19 rfl) rfl
theorem f_ML_45 : wML (7, 96, 254) ∈ W0 := in_W0 (in_t4 23 rfl) rfl
theorem f_ML_46 : wML (8, 26, 248) ∈ W0 := in_W0 (in_t5 39 rfl) rfl
theorem f_ML_47 : wML (9, 22, 19) ∈ W0 := in_W0 (in_t2 218 rfl) rfl
theorem f_ML_48 : wML (9, 27, 73) ∈ W0 := in_W0 (in_t2 229 rfl) rfl
theorem f_ML_49 : wML (9, 31, 74) ∈ W0 := in_W0 (in_t2 237 rfl) rfl
theorem f_ML_50 : wML (9, 34, 75) ∈ W0 := in_W0 (in_t3 1 rfl) rfl
theorem f_ML_51 : wML (9, 38, 72) ∈ W0 := in_W0 (in_t2 233 rfl) rfl
theorem f_ML_52 : wML (9, 51, 22) ∈ W0 := in_W0 (in_t3 5 rfl) rfl
theorem f_ML_53 : wML (9, 55, 76) ∈ W0 := in_W0 (in_t3 9 rfl) rfl
theorem f_ML_54 : wML (9, 65, 23) ∈ W0 := in_W0 (in_t3 20 rfl) rfl
theorem f_ML_55 : wML (9, 69, 25) ∈ W0 := in_W0 (in_t3 16 rfl) rfl
theorem f_ML_56 : wML (10, 34, 79) ∈ W0 := in_W0 (in_t3 221 rfl) rfl
theorem f_ML_57 : wML (10, 38, 81) ∈ W0 := in_W0 (in_t3 230 rfl) rfl
theorem f_ML_58 : wML (10, 42, 83) ∈ W0 := in_W0 (in_t3 238 rfl) rfl
theorem f_ML_59 : wML (10, 51, 26) ∈ W0 := in_W0 (in_t3 225 rfl) rfl
theorem f_ML_60 : wML (10, 55, 80) ∈ W0 := in_W0 (in_t3 226 rfl) rfl
theorem f_ML_61 : wML (10, 59, 82) ∈ W0 := in_W0 (in_t3 234 rfl) rfl
theorem f_ML_62 : wML (10, 63, 84) ∈ W0 := in_W0 (in_t4 2 rfl) rfl
theorem f_ML_63 : wML (11, 22, 17) ∈ W0 := in_W0 (in_t1 48 rfl) rfl
theorem f_ML_64 : wML (11, 104, 69) ∈ W0 := in_W0 (in_t2 206 rfl) rfl
theorem f_ML_65 : wML (11, 111, 70) ∈ W0 := in_W0 (in_t2 214 rfl) rfl
theorem f_ML_66 : wML (11, 118, 125) ∈ W0 := in_W0 (in_t3 28 rfl) rfl
theorem f_ML_67 : wML (11, 123, 126) ∈ W0 := in_W0 (in_t3 33 rfl) rfl
theorem f_ML_68 : wML (11, 130, 127) ∈ W0 := in_W0 (in_t3 36 rfl) rfl
theorem f_ML_69 : wML (11, 145, 21) ∈ W0 := in_W0 (in_t3 41 rfl) rfl
theorem f_ML_70 : wML (11, 158, 26) ∈ W0 := in_W0 (in_t3 54 rfl) rfl
theorem f_ML_71 : wML (11, 162, 20) ∈ W0 := in_W0 (in_t3 62 rfl) rfl
theorem f_ML_72 : wML (11, 166, 71) ∈ W0 := in_W0 (in_t3 69 rfl) rfl
theorem f_ML_73 : wML (11, 169, 131) ∈ W0 := in_W0 (in_t3 77 rfl) rfl
theorem f_ML_74 : wML (11, 173, 141) ∈ W0 := in_W0 (in_t3 81 rfl) rfl
theorem f_ML_75 : wML (11, 177, 33) ∈ W0 := in_W0 (in_t3 84 rfl) rfl
theorem f_ML_76 : wML (11, 184, 47) ∈ W0 := in_W0 (in_t3 95 rfl) rfl
theorem f_ML_77 : wML (11, 187, 35) ∈ W0 := in_W0 (in_t3 103 rfl) rfl
theorem f_ML_78 : wML (11, 193, 130) ∈ W0 := in_W0 (in_t3 115 rfl) rfl
theorem f_ML_79 : wML (11, 205, 48) ∈ W0 := in_W0 (in_t3 122 rfl) rfl
theorem f_ML_80 : wML (11, 220, 128) ∈ W0 := in_W0 (in_t3 158 rfl) rfl
theorem f_ML_81 : wML (11, 225, 136) ∈ W0 := in_W0 (in_t3 162 rfl) rfl
theorem f_ML_82 : wML (11, 244, 146) ∈ W0 := in_W0 (in_t4 27 rfl) rfl
theorem f_ML_83 : wML (11, 251, 138) ∈ W0 := in_W0 (in_t4 41 rfl) rfl
theorem f_ML_84 : wML (11, 255, 132) ∈ W0 := in_W0 (in_t4 52 rfl) rfl
theorem f_ML_85 : wML (11, 258, 137) ∈ W0 := in_W0 (in_t4 56 rfl) rfl
theorem f_ML_86 : wML (11, 262, 143) ∈ W0 := in_W0 (in_t4 70 rfl) rfl
theorem f_ML_87 : wML (11, 267, 142) ∈ W0 := in_W0 (in_t4 72 rfl) rfl
theorem f_ML_88 : wML (11, 271, 144) ∈ W0 := in_W0 (in_t4 75 rfl) rfl
theorem f_ML_89 : wML (11, 278, 135) ∈ W0 := in_W0 (in_t4 80 rfl) rfl
theorem f_ML_90 : wML (11, 281, 129) ∈ W0 := in_W0 (in_t4 92 rfl) rfl
theorem f_ML_91 : wML (11, 290, 66) ∈ W0 := in_W0 (in_t4 95 rfl) rfl
theorem f_ML_92 : wML (11, 297, 18) ∈ W0 := in_W0 (in_t4 99 rfl) rfl
theorem f_ML_93 : wML (11, 301, 29) ∈ W0 := in_W0 (in_t4 107 rfl) rfl
theorem f_ML_94 : wML (11, 305, 31) ∈ W0 := in_W0 (in_t4 127 rfl) rfl
theorem f_ML_95 : wML (11, 309, 40) ∈ W0 := in_W0 (in_t4 132 rfl) rfl
theorem f_ML_96 : wML (11, 323, 12) ∈ W0 := in_W0 (in_t4 168 rfl) rfl
theorem f_ML_97 : wML (11, 326, 13) ∈ W0 := in_W0 (in_t4 172 rfl) rfl
theorem f_ML_98 : wML (11, 332, 14) ∈ W0 := in_W0 (in_t4 180 rfl) rfl
theorem f_ML_99 : wML (11, 336, 15) ∈ W0 := in_W0 (in_t4 188 rfl) rfl
theorem f_ML_100 : wML (11, 346, 139) ∈ W0 := in_W0 (in_t4 213 rfl) rfl
theorem f_ML_101 : wML (11, 355, 248) ∈ W0 := in_W0 (in_t4 230 rfl) rfl
theorem f_ML_102 : wML (11, 361, 36) ∈ W0 := in_W0 (in_t4 231 rfl) rfl
theorem f_ML_103 : wML (11, 365, 140) ∈ W0 := in_W0 (in_t4 232 rfl) rfl
theorem f_ML_104 : wML (11, 368, 1) ∈ W0 := in_W0 (in_t5 0 rfl) rfl
theorem f_ML_105 : wML (11, 371, 2) ∈ W0 := in_W0 (in_t5 4 rfl) rfl
theorem f_ML_106 : wML (11, 381, 64) ∈ W0 := in_W0 (in_t5 27 rfl) rfl
theorem f_ML_107 : wML (11, 384, 65) ∈ W0 := in_W0 (in_t5 35 rfl) rfl
theorem f_ML_108 : wML (11, 387, 134) ∈ W0 := in_W0 (in_t5 44 rfl) rfl
theorem f_ML_109 : wML (11, 390, 67) ∈ W0 := in_W0 (in_t5 48 rfl) rfl
theorem f_ML_110 : wML (11, 405, 133) ∈ W0 := in_W0 (in_t5 66 rfl) rfl
theorem f_ML_111 : wML (11, 419, 39) ∈ W0 := in_W0 (in_t4 84 rfl) rfl
theorem f_ML_112 : wML (11, 420, 56) ∈ W0 := in_W0 (in_t3 166 rfl) rfl
theorem f_ML_113 : wML (11, 421, 57) ∈ W0 := in_W0 (in_t3 173 rfl) rfl
theorem f_ML_114 : wML (11, 425, 6) ∈ W0 := in_W0 (in_t3 192 rfl) rfl
theorem f_ML_115 : wML (11, 429, 78) ∈ W0 := in_W0 (in_t3 217 rfl) rfl
theorem f_ML_116 : wML (11, 432, 59) ∈ W0 := in_W0 (in_t4 6 rfl) rfl
theorem f_ML_117 : wML (11, 435, 60) ∈ W0 := in_W0 (in_t4 11 rfl) rfl
theorem f_ML_118 : wML (11, 438, 24) ∈ W0 := in_W0 (in_t4 60 rfl) rfl
theorem f_ML_119 : wML (11, 443, 37) ∈ W0 := in_W0 (in_t4 218 rfl) rfl
theorem f_ML_120 : wML (11, 447, 145) ∈ W0 := in_W0 (in_t3 189 rfl) rfl
theorem f_ML_121 : wML (11, 450, 250) ∈ W0 := in_W0 (in_t4 30 rfl) rfl
theorem f_ML_122 : wML (12, 178, 148) ∈ W0 := in_W0 (in_t6 41 rfl) rfl
theorem f_ML_123 : wML (12, 182, 149) ∈ W0 := in_W0 (in_t6 76 rfl) rfl
theorem f_ML_124 : wML (12, 192, 153) ∈ W0 := in_W0 (in_t6 56 rfl) rfl
theorem f_ML_125 : wML (12, 196, 155) ∈ W0 := in_W0 (in_t6 64 rfl) rfl
theorem f_ML_126 : wML (12, 200, 154) ∈ W0 := in_W0 (in_t6 52 rfl) rfl
theorem f_ML_127 : wML (12, 203, 156) ∈ W0 := in_W0 (in_t6 60 rfl) rfl
theorem f_ML_128 : wML (12, 207, 157) ∈ W0 := in_W0 (in_t6 48 rfl) rfl
theorem f_ML_129 : wML (12, 210, 150) ∈ W0 := in_W0 (in_t6 72 rfl) rfl
theorem f_ML_130 : wML (12, 213, 159) ∈ W0 := in_W0 (in_t6 80 rfl) rfl
theorem f_ML_131 : wML (12, 218, 151) ∈ W0 := in_W0 (in_t6 97 rfl) rfl
theorem f_ML_132 : wML (12, 221, 168) ∈ W0 := in_W0 (in_t6 125 rfl) rfl
theorem f_ML_133 : wML (12, 228, 170) ∈ W0 := in_W0 (in_t6 113 rfl) rfl
theorem f_ML_134 : wML (12, 231, 166) ∈ W0 := in_W0 (in_t6 117 rfl) rfl
theorem f_ML_135 : wML (12, 234, 169) ∈ W0 := in_W0 (in_t6 121 rfl) rfl
theorem f_ML_136 : wML (12, 238, 175) ∈ W0 := in_W0 (in_t6 157 rfl) rfl
theorem f_ML_137 : wML (12, 241, 176) ∈ W0 := in_W0 (in_t6 153 rfl) rfl
theorem f_ML_138 : wML (12, 244, 178) ∈ W0 := in_W0 (in_t6 165 rfl) rfl
theorem f_ML_139 : wML (12, 247, 179) ∈ W0 := in_W0 (in_t6 161 rfl) rfl
theorem f_ML_140 : wML (12, 250, 177) ∈ W0 := in_W0 (in_t6 149 rfl) rfl
theorem f_ML_141 : wML (12, 257, 180) ∈ W0 := in_W0 (in_t6 145 rfl) rfl
theorem f_ML_142 : wML (12, 264, 184) ∈ W0 := in_W0 (in_t6 205 rfl) rfl
theorem f_ML_143 : wML (12, 268, 188) ∈ W0 := in_W0 (in_t6 193 rfl) rfl
theorem f_ML_144 : wML (12, 272, 187) ∈ W0 := in_W0 (in_t6 197 rfl) rfl
theorem f_ML_145 : wML (12, 275, 186) ∈ W0 := in_W0 (in_t6 201 rfl) rfl
theorem f_ML_146 : wML (12, 289, 191) ∈ W0 := in_W0 (in_t6 216 rfl) rfl
theorem f_ML_147 : wML (12, 295, 192) ∈ W0 := in_W0 (in_t6 212 rfl) rfl
theorem f_ML_148 : wML (12, 299, 190) ∈ W0 := in_W0 (in_t6 221 rfl) rfl
theorem f_ML_149 : wML (12, 303, 194) ∈ W0 := in_W0 (in_t6 234 rfl) rfl
theorem f_ML_150 : wML (12, 306, 195) ∈ W0 := in_W0 (in_t6 230 rfl) rfl
theorem f_ML_151 : wML (12, 309, 196) ∈ W0 := in_W0 (in_t6 238 rfl) rfl
theorem f_ML_152 : wML (12, 312, 202) ∈ W0 := in_W0 (in_t7 6 rfl) rfl
theorem f_ML_153 : wML (12, 317, 199) ∈ W0 := in_W0 (in_t7 10 rfl) rfl
theorem f_ML_154 : wML (12, 320, 201) ∈ W0 := in_W0 (in_t7 14 rfl) rfl
theorem f_ML_155 : wML (12, 323, 200) ∈ W0 := in_W0 (in_t7 18 rfl) rfl
theorem f_ML_156 : wML (12, 326, 185) ∈ W0 := in_W0 (in_t6 185 rfl) rfl
theorem f_ML_157 : wML (12, 329, 189) ∈ W0 := in_W0 (in_t6 189 rfl) rfl
theorem f_ML_158 : wML (12, 332, 193) ∈ W0 := in_W0 (in_t6 208 rfl) rfl
theorem f_ML_159 : wML (12, 335, 197) ∈ W0 := in_W0 (in_t6 226 rfl) rfl
theorem f_ML_160 : wML (12, 338, 198) ∈ W0 := in_W0 (in_t7 2 rfl) rfl
theorem f_ML_161 : wML (12, 341, 203) ∈ W0 := in_W0 (in_t6 181 rfl) rfl
theorem f_ML_162 : wML (12, 346, 206) ∈ W0 := in_W0 (in_t7 32 rfl) rfl
theorem f_ML_163 : wML (12, 349, 207) ∈ W0 := in_W0 (in_t7 36 rfl) rfl
theorem f_ML_164 : wML (12, 352, 213) ∈ W0 := in_W0 (in_t7 48 rfl) rfl
theorem f_ML_165 : wML (12, 355, 210) ∈ W0 := in_W0 (in_t7 52 rfl) rfl
theorem f_ML_166 : wML (12, 358, 212) ∈ W0 := in_W0 (in_t7 56 rfl) rfl
theorem f_ML_167 : wML (12, 361, 211) ∈ W0 := in_W0 (in_t7 60 rfl) rfl
theorem f_ML_168 : wML (12, 364, 215) ∈ W0 := in_W0 (in_t7 68 rfl) rfl
theorem f_ML_169 : wML (12, 368, 219) ∈ W0 := in_W0 (in_t7 84 rfl) rfl
theorem f_ML_170 : wML (12, 371, 221) ∈ W0 := in_W0 (in_t7 92 rfl) rfl
theorem f_ML_171 : wML (12, 374, 222) ∈ W0 := in_W0 (in_t7 96 rfl) rfl
theorem f_ML_172 : wML (12, 383, 224) ∈ W0 := in_W0 (in_t7 108 rfl) rfl
theorem f_ML_173 : wML (12, 387, 167) ∈ W0 := in_W0 (in_t7 121 rfl) rfl
theorem f_ML_174 : wML (12, 393, 230) ∈ W0 := in_W0 (in_t7 137 rfl) rfl
theorem f_ML_175 : wML (12, 396, 232) ∈ W0 := in_W0 (in_t7 133 rfl) rfl
theorem f_ML_176 : wML (12, 399, 231) ∈ W0 := in_W0 (in_t7 141 rfl) rfl
theorem f_ML_177 : wML (12, 402, 233) ∈ W0 := in_W0 (in_t7 144 rfl) rfl
theorem f_ML_178 : wML (12, 405, 234) ∈ W0 := in_W0 (in_t7 148 rfl) rfl
theorem f_ML_179 : wML (12, 408, 235) ∈ W0 := in_W0 (in_t7 152 rfl) rfl
theorem f_ML_180 : wML (12, 411, 238) ∈ W0 := in_W0 (in_t7 164 rfl) rfl
theorem f_ML_181 : wML (12, 414, 241) ∈ W0 := in_W0 (in_t7 175 rfl) rfl
theorem f_ML_182 : wML (16, 9, 85) ∈ W0 := in_W0 (in_t1 20 rfl) rfl
theorem f_ML_183 : wML (16, 12, 147) ∈ W0 := in_W0 (in_t5 76 rfl) rfl
theorem f_ML_184 : wML (16, 13, 86) ∈ W0 := in_W0 (in_t2 202 rfl) rfl
theorem f_ML_185 : wML (16, 17, 152) ∈ W0 := in_W0 (in_t6 37 rfl) rfl
theorem f_ML_186 : wML (16, 18, 87) ∈ W0 := in_W0 (in_t2 210 rfl) rfl
theorem f_ML_187 : wML (16, 22, 158) ∈ W0 := in_W0 (in_t6 44 rfl) rfl
theorem f_ML_188 : wML (16, 23, 88) ∈ W0 := in_W0 (in_t3 24 rfl) rfl
theorem f_ML_189 : wML (16, 26, 161) ∈ W0 := in_W0 (in_t6 84 rfl) rfl
theorem f_ML_190 : wML (16, 27, 89) ∈ W0 := in_W0 (in_t3 37 rfl) rfl
theorem f_ML_191 : wML (16, 30, 162) ∈ W0 := in_W0 (in_t6 89 rfl) rfl
theorem f_ML_192 : wML (16, 31, 90) ∈ W0 := in_W0 (in_t3 42 rfl) rfl
theorem f_ML_193 : wML (16, 35, 163) ∈ W0 := in_W0 (in_t6 93 rfl) rfl
theorem f_ML_194 : wML (16, 36, 91) ∈ W0 := in_W0 (in_t3 46 rfl) rfl
theorem f_ML_195 : wML (16, 39, 164) ∈ W0 := in_W0 (in_t6 101 rfl) rfl
theorem f_ML_196 : wML (16, 40, 92) ∈ W0 := in_W0 (in_t3 50 rfl) rfl
theorem f_ML_197 : wML (16, 43, 165) ∈ W0 := in_W0 (in_t6 105 rfl) rfl
theorem f_ML_198 : wML (16, 44, 93) ∈ W0 := in_W0 (in_t3 58 rfl) rfl
theorem f_ML_199 : wML (16, 47, 160) ∈ W0 := in_W0 (in_t6 68 rfl) rfl
theorem f_ML_200 : wML (16, 48, 94) ∈ W0 := in_W0 (in_t3 73 rfl) rfl
theorem f_ML_201 : wML (16, 51, 171) ∈ W0 := in_W0 (in_t6 109 rfl) rfl
theorem f_ML_202 : wML (16, 52, 95) ∈ W0 := in_W0 (in_t3 99 rfl) rfl
theorem f_ML_203 : wML (16, 55, 172) ∈ W0 := in_W0 (in_t6 129 rfl) rfl
theorem f_ML_204 : wML (16, 56, 96) ∈ W0 := in_W0 (in_t3 107 rfl) rfl
theorem f_ML_205 : wML (16, 60, 173) ∈ W0 := in_W0 (in_t6 133 rfl) rfl
theorem f_ML_206 : wML (16, 61, 97) ∈ W0 := in_W0 (in_t3 111 rfl) rfl
theorem f_ML_207 : wML (16, 64, 174) ∈ W0 := in_W0 (in_t6 137 rfl) rfl
theorem f_ML_208 : wML (16, 65, 98) ∈ W0 := in_W0 (in_t3 118 rfl) rfl
theorem f_ML_209 : wML (16, 68, 181) ∈ W0 := in_W0 (in_t6 141 rfl) rfl
theorem f_ML_210 : wML (16, 69, 99) ∈ W0 := in_W0 (in_t3 146 rfl) rfl
theorem f_ML_211 : wML (16, 72, 182) ∈ W0 := in_W0 (in_t6 169 rfl) rfl
theorem f_ML_212 : wML (16, 73, 100) ∈ W0 := in_W0 (in_t3 150 rfl) rfl
theorem f_ML_213 : wML (16, 76, 183) ∈ W0 := in_W0 (in_t6 173 rfl) rfl
theorem f_ML_214 : wML (16, 77, 101) ∈ W0 := in_W0 (in_t3 154 rfl) rfl
theorem f_ML_215 : wML (16, 81, 204) ∈ W0 := in_W0 (in_t6 177 rfl) rfl
theorem f_ML_216 : wML (16, 82, 102) ∈ W0 := in_W0 (in_t4 33 rfl) rfl
theorem f_ML_217 : wML (16, 85, 205) ∈ W0 := in_W0 (in_t7 24 rfl) rfl
theorem f_ML_218 : wML (16, 86, 103) ∈ W0 := in_W0 (in_t4 37 rfl) rfl
theorem f_ML_219 : wML (16, 90, 208) ∈ W0 := in_W0 (in_t7 28 rfl) rfl
theorem f_ML_220 : wML (16, 91, 104) ∈ W0 := in_W0 (in_t4 44 rfl) rfl
theorem f_ML_221 : wML (16, 94, 209) ∈ W0 := in_W0 (in_t7 40 rfl) rfl
theorem f_ML_222 : wML (16, 95, 105) ∈ W0 := in_W0 (in_t4 48 rfl) rfl
theorem f_ML_223 : wML (16, 98, 214) ∈ W0 := in_W0 (in_t7 44 rfl) rfl
theorem f_ML_224 : wML (16, 99, 106) ∈ W0 := in_W0 (in_t4 66 rfl) rfl
theorem f_ML_225 : wML (16, 102, 216) ∈ W0 := in_W0 (in_t7 64 rfl) rfl
theorem f_ML_226 : wML (16, 103, 107) ∈ W0 := in_W0 (in_t4 76 rfl) rfl
theorem f_ML_227 : wML (16, 106, 217) ∈ W0 := in_W0 (in_t7 72 rfl) rfl
theorem f_ML_228 : wML (16, 107, 108) ∈ W0 := in_W0 (in_t4 88 rfl) rfl
theorem f_ML_229 : wML (16, 110, 218) ∈ W0 := in_W0 (in_t7 76 rfl) rfl
theorem f_ML_230 : wML (16, 111, 109) ∈ W0 := in_W0 (in_t4 103 rfl) rfl
theorem f_ML_231 : wML (16, 114, 220) ∈ W0 := in_W0 (in_t7 80 rfl) rfl
theorem f_ML_232 : wML (16, 115, 110) ∈ W0 := in_W0 (in_t4 123 rfl) rfl
theorem f_ML_233 : wML (16, 118, 223) ∈ W0 := in_W0 (in_t7 88 rfl) rfl
theorem f_ML_234 : wML (16, 119, 111) ∈ W0 := in_W0 (in_t4 164 rfl) rfl
theorem f_ML_235 : wML (16, 122, 225) ∈ W0 := in_W0 (in_t7 100 rfl) rfl
theorem f_ML_236 : wML (16, 123, 112) ∈ W0 := in_W0 (in_t4 176 rfl) rfl
theorem f_ML_237 : wML (16, 126, 226) ∈ W0 := in_W0 (in_t7 104 rfl) rfl
theorem f_ML_238 : wML (16, 127, 113) ∈ W0 := in_W0 (in_t4 205 rfl) rfl
theorem f_ML_239 : wML (16, 130, 227) ∈ W0 := in_W0 (in_t7 113 rfl) rfl
theorem f_ML_240 : wML (16, 131, 114) ∈ W0 := in_W0 (in_t4 209 rfl) rfl
theorem f_ML_241 : wML (16, 134, 228) ∈ W0 := in_W0 (in_t7 117 rfl) rfl
theorem f_ML_242 : wML (16, 135, 115) ∈ W0 := in_W0 (in_t4 226 rfl) rfl
theorem f_ML_243 : wML (16, 138, 229) ∈ W0 := in_W0 (in_t7 125 rfl) rfl
theorem f_ML_244 : wML (16, 139, 116) ∈ W0 := in_W0 (in_t4 236 rfl) rfl
theorem f_ML_245 : wML (16, 142, 236) ∈ W0 := in_W0 (in_t7 129 rfl) rfl
theorem f_ML_246 : wML (16, 143, 117) ∈ W0 := in_W0 (in_t5 19 rfl) rfl
theorem f_ML_247 : wML (16, 146, 237) ∈ W0 := in_W0 (in_t7 156 rfl) rfl
theorem f_ML_248 : wML (16, 147, 118) ∈ W0 := in_W0 (in_t5 23 rfl) rfl
theorem f_ML_249 : wML (16, 150, 239) ∈ W0 := in_W0 (in_t7 160 rfl) rfl
theorem f_ML_250 : wML (16, 151, 119) ∈ W0 := in_W0 (in_t5 31 rfl) rfl
theorem f_ML_251 : wML (16, 154, 240) ∈ W0 := in_W0 (in_t7 167 rfl) rfl
theorem f_ML_252 : wML (16, 157, 120) ∈ W0 := in_W0 (in_t5 40 rfl) rfl
theorem f_ML_253 : wML (16, 161, 242) ∈ W0 := in_W0 (in_t7 171 rfl) rfl
theorem f_ML_254 : wML (16, 162, 121) ∈ W0 := in_W0 (in_t5 52 rfl) rfl
theorem f_ML_255 : wML (16, 166, 243) ∈ W0 := in_W0 (in_t7 179 rfl) rfl
theorem f_ML_256 : wML (16, 167, 122) ∈ W0 := in_W0 (in_t5 57 rfl) rfl
theorem f_ML_257 : wML (16, 171, 244) ∈ W0 := in_W0 (in_t7 184 rfl) rfl
theorem f_ML_258 : wML (16, 172, 123) ∈ W0 := in_W0 (in_t5 62 rfl) rfl
theorem f_ML_259 : wML (16, 175, 245) ∈ W0 := in_W0 (in_t7 188 rfl) rfl
theorem f_ML_260 : wML (16, 176, 124) ∈ W0 := in_W0 (in_t5 70 rfl) rfl
theorem f_ML_261 : wML (16, 179, 246) ∈ W0 := in_W0 (in_t7 192 rfl) rfl
theorem ML_ok_nil : ∀ q ∈ ([] : List (Nat × Nat × Nat)), wML q ∈ W0 := fun _ h => absurd h List.not_mem_nil
set_option maxRecDepth 100000 in
theorem ML_ok : ∀ q ∈ LML, wML q ∈ W0 := List.forall_mem_cons.mpr ⟨f_ML_0, List.forall_mem_cons.mpr ⟨f_ML_1, List.forall_mem_cons.mpr ⟨f_ML_2, List.forall_mem_cons.mpr ⟨f_ML_3, List.forall_mem_cons.mpr ⟨f_ML_4, List.forall_mem_cons.mpr ⟨f_ML_5, List.forall_mem_cons.mpr ⟨f_ML_6, List.forall_mem_cons.mpr ⟨f_ML_7, List.forall_mem_cons.mpr ⟨f_ML_8, List.forall_mem_cons.mpr ⟨f_ML_9, List.forall_mem_cons.mpr ⟨f_ML_10, List.forall_mem_cons.mpr ⟨f_ML_11, List.forall_mem_cons.mpr ⟨f_ML_12, List.forall_mem_cons.mpr ⟨f_ML_13, List.forall_mem_cons.mpr ⟨f_ML_14, List.forall_mem_cons.mpr ⟨f_ML_15, List.forall_mem_cons.mpr ⟨f_ML_16, List.forall_mem_cons.mpr ⟨f_ML_17, List.forall_mem_cons.mpr ⟨f_ML_18, List.forall_mem_cons.mpr ⟨f_ML_19, List.forall_mem_cons.mpr ⟨f_ML_20, List.forall_mem_cons.mpr ⟨f_ML_21, List.forall_mem_cons.mpr ⟨f_ML_22, List.forall_mem_cons.mpr ⟨f_ML_23, List.forall_mem_cons.mpr ⟨f_ML_24, List.forall_mem_cons.mpr ⟨f_ML_25, List.forall_mem_cons.mpr ⟨f_ML_26, List.forall_mem_cons.mpr ⟨f_ML_27, List.forall_mem_cons.mpr ⟨f_ML_28, List.forall_mem_cons.mpr ⟨f_ML_29, List.forall_mem_cons.mpr ⟨f_ML_30, List.forall_mem_cons.mpr ⟨f_ML_31, List.forall_mem_cons.mpr ⟨f_ML_32, List.forall_mem_cons.mpr ⟨f_ML_33, List.forall_mem_cons.mpr ⟨f_ML_34, List.forall_mem_cons.mpr ⟨f_ML_35, List.forall_mem_cons.mpr ⟨f_ML_36, List.forall_mem_cons.mpr ⟨f_ML_37, List.forall_mem_cons.mpr ⟨f_ML_38, List.forall_mem_cons.mpr ⟨f_ML_39, List.forall_mem_cons.mpr ⟨f_ML_40, List.forall_mem_cons.mpr ⟨f_ML_41, List.forall_mem_cons.mpr ⟨f_ML_42, List.forall_mem_cons.mpr ⟨f_ML_43, List.forall_mem_cons.mpr ⟨f_ML_44, List.forall_mem_cons.mpr ⟨f_ML_45, List.forall_mem_cons.mpr ⟨f_ML_46, List.forall_mem_cons.mpr ⟨f_ML_47, List.forall_mem_cons.mpr ⟨f_ML_48, List.forall_mem_cons.mpr ⟨f_ML_49, List.forall_mem_cons.mpr ⟨f_ML_50, List.forall_mem_cons.mpr ⟨f_ML_51, List.forall_mem_cons.mpr ⟨f_ML_52, List.forall_mem_cons.mpr ⟨f_ML_53, List.forall_mem_cons.mpr ⟨f_ML_54, List.forall_mem_cons.mpr ⟨f_ML_55, List.forall_mem_cons.mpr ⟨f_ML_56, List.forall_mem_cons.mpr ⟨f_ML_57, List.forall_mem_cons.mpr ⟨f_ML_58, List.forall_mem_cons.mpr ⟨f_ML_59, List.forall_mem_cons.mpr ⟨f_ML_60, List.forall_mem_cons.mpr ⟨f_ML_61, List.forall_mem_cons.mpr ⟨f_ML_62, List.forall_mem_cons.mpr ⟨f_ML_63, List.forall_mem_cons.mpr ⟨f_ML_64, List.forall_mem_cons.mpr ⟨f_ML_65, List.forall_mem_cons.mpr ⟨f_ML_66, List.forall_mem_cons.mpr ⟨f_ML_67, List.forall_mem_cons.mpr ⟨f_ML_68, List.forall_mem_cons.mpr ⟨f_ML_69, List.forall_mem_cons.mpr ⟨f_ML_70, List.forall_mem_cons.mpr ⟨f_ML_71, List.forall_mem_cons.mpr ⟨f_ML_72, List.forall_mem_cons.mpr ⟨f_ML_73, List.forall_mem_cons.mpr ⟨f_ML_74, List.forall_mem_cons.mpr ⟨f_ML_75, List.forall_mem_cons.mpr ⟨f_ML_76, List.forall_mem_cons.mpr ⟨f_ML_77, List.forall_mem_cons.mpr ⟨f_ML_78, List.forall_mem_cons.mpr ⟨f_ML_79, List.forall_mem_cons.mpr ⟨f_ML_80, List.forall_mem_cons.mpr ⟨f_ML_81, List.forall_mem_cons.mpr ⟨f_ML_82, List.forall_mem_cons.mpr ⟨f_ML_83, List.forall_mem_cons.mpr ⟨f_ML_84, List.forall_mem_cons.mpr ⟨f_ML_85, List.forall_mem_cons.mpr ⟨f_ML_86, List.forall_mem_cons.mpr ⟨f_ML_87, List.forall_mem_cons.mpr ⟨f_ML_88, List.forall_mem_cons.mpr ⟨f_ML_89, List.forall_mem_cons.mpr ⟨f_ML_90, List.forall_mem_cons.mpr ⟨f_ML_91, List.forall_mem_cons.mpr ⟨f_ML_92, List.forall_mem_cons.mpr ⟨f_ML_93, List.forall_mem_cons.mpr ⟨f_ML_94, List.forall_mem_cons.mpr ⟨f_ML_95, List.forall_mem_cons.mpr ⟨f_ML_96, List.forall_mem_cons.mpr ⟨f_ML_97, List.forall_mem_cons.mpr ⟨f_ML_98, List.forall_mem_cons.mpr ⟨f_ML_99, List.forall_mem_cons.mpr ⟨f_ML_100, List.forall_mem_cons.mpr ⟨f_ML_101, List.forall_mem_cons.mpr ⟨f_ML_102, List.forall_mem_cons.mpr ⟨f_ML_103, List.forall_mem_cons.mpr ⟨f_ML_104, List.forall_mem_cons.mpr ⟨f_ML_105, List.forall_mem_cons.mpr ⟨f_ML_106, List.forall_mem_cons.mpr ⟨f_ML_107, List.forall_mem_cons.mpr ⟨f_ML_108, List.forall_mem_cons.mpr ⟨f_ML_109, List.forall_mem_cons.mpr ⟨f_ML_110, List.forall_mem_cons.mpr ⟨f_ML_111, List.forall_mem_cons.mpr ⟨f_ML_112, List.forall_mem_cons.mpr ⟨f_ML_113, List.forall_mem_cons.mpr ⟨f_ML_114, List.forall_mem_cons.mpr ⟨f_ML_115, List.forall_mem_cons.mpr ⟨f_ML_116, List.forall_mem_cons.mpr ⟨f_ML_117, List.forall_mem_cons.mpr ⟨f_ML_118, List.forall_mem_cons.mpr ⟨f_ML_119, List.forall_mem_cons.mpr ⟨f_ML_120, List.forall_mem_cons.mpr ⟨f_ML_121, List.forall_mem_cons.mpr ⟨f_ML_122, List.forall_mem_cons.mpr ⟨f_ML_123, List.forall_mem_cons.mpr ⟨f_ML_124, List.forall_mem_cons.mpr ⟨f_ML_125, List.forall_mem_cons.mpr ⟨f_ML_126, List.forall_mem_cons.mpr ⟨f_ML_127, List.forall_mem_cons.mpr ⟨f_ML_128, List.forall_mem_cons.mpr ⟨f_ML_129, List.forall_mem_cons.mpr ⟨f_ML_130, List.forall_mem_cons.mpr ⟨f_ML_131, List.forall_mem_cons.mpr ⟨f_ML_132, List.forall_mem_cons.mpr ⟨f_ML_133, List.forall_mem_cons.mpr ⟨f_ML_134, List.forall_mem_cons.mpr ⟨f_ML_135, List.forall_mem_cons.mpr ⟨f_ML_136, List.forall_mem_cons.mpr ⟨f_ML_137, List.forall_mem_cons.mpr ⟨f_ML_138, List.forall_mem_cons.mpr ⟨f_ML_139, List.forall_mem_cons.mpr ⟨f_ML_140, List.forall_mem_cons.mpr ⟨f_ML_141, List.forall_mem_cons.mpr ⟨f_ML_142, List.forall_mem_cons.mpr ⟨f_ML_143, List.forall_mem_cons.mpr ⟨f_ML_144, List.forall_mem_cons.mpr ⟨f_ML_145, List.forall_mem_cons.mpr ⟨f_ML_146, List.forall_mem_cons.mpr ⟨f_ML_147, List.forall_mem_cons.mpr ⟨f_ML_148, List.forall_mem_cons.mpr ⟨f_ML_149, List.forall_mem_cons.mpr ⟨f_ML_150, List.forall_mem_cons.mpr ⟨f_ML_151, List.forall_mem_cons.mpr ⟨f_ML_152, List.forall_mem_cons.mpr ⟨f_ML_153, List.forall_mem_cons.mpr ⟨f_ML_154, List.forall_mem_cons.mpr ⟨f_ML_155, List.forall_mem_cons.mpr ⟨f_ML_156, List.forall_mem_cons.mpr ⟨f_ML_157, List.forall_mem_cons.mpr ⟨f_ML_158, List.forall_mem_cons.mpr ⟨f_ML_159, List.forall_mem_cons.mpr ⟨f_ML_160, List.forall_mem_cons.mpr ⟨f_ML_161, List.forall_mem_cons.mpr ⟨f_ML_162, List.forall_mem_cons.mpr ⟨f_ML_163, List.forall_mem_cons.mpr ⟨f_ML_164, List.forall_mem_cons.mpr ⟨f_ML_165, List.forall_mem_cons.mpr ⟨f_ML_166, List.forall_mem_cons.mpr ⟨f_ML_167, List.forall_mem_cons.mpr ⟨f_ML_168, List.forall_mem_cons.mpr ⟨f_ML_169, List.forall_mem_cons.mpr ⟨f_ML_170, List.forall_mem_cons.mpr ⟨f_ML_171, List.forall_mem_cons.mpr ⟨f_ML_172, List.forall_mem_cons.mpr ⟨f_ML_173, List.forall_mem_cons.mpr ⟨f_ML_174, List.forall_mem_cons.mpr ⟨f_ML_175, List.forall_mem_cons.mpr ⟨f_ML_176, List.forall_mem_cons.mpr ⟨f_ML_177, List.forall_mem_cons.mpr ⟨f_ML_178, List.forall_mem_cons.mpr ⟨f_ML_179, List.forall_mem_cons.mpr ⟨f_ML_180, List.forall_mem_cons.mpr ⟨f_ML_181, List.forall_mem_cons.mpr ⟨f_ML_182, List.forall_mem_cons.mpr ⟨f_ML_183, List.forall_mem_cons.mpr ⟨f_ML_184, List.forall_mem_cons.mpr ⟨f_ML_185, List.forall_mem_cons.mpr ⟨f_ML_186, List.forall_mem_cons.mpr ⟨f_ML_187, List.forall_mem_cons.mpr ⟨f_ML_188, List.forall_mem_cons.mpr ⟨f_ML_189, List.forall_mem_cons.mpr ⟨f_ML_190, List.forall_mem_cons.mpr ⟨f_ML_191, List.forall_mem_cons.mpr ⟨f_ML_192, List.forall_mem_cons.mpr ⟨f_ML_193, List.forall_mem_cons.mpr ⟨f_ML_194, List.forall_mem_cons.mpr ⟨f_ML_195, List.forall_mem_cons.mpr ⟨f_ML_196, List.forall_mem_cons.mpr ⟨f_ML_197, List.forall_mem_cons.mpr ⟨f_ML_198, List.forall_mem_cons.mpr ⟨f_ML_199, List.forall_mem_cons.mpr ⟨f_ML_200, List.forall_mem_cons.mpr ⟨f_ML_201, List.forall_mem_cons.mpr ⟨f_ML_202, List.forall_mem_cons.mpr ⟨f_ML_203, List.forall_mem_cons.mpr ⟨f_ML_204, List.forall_mem_cons.mpr ⟨f_ML_205, List.forall_mem_cons.mpr ⟨f_ML_206, List.forall_mem_cons.mpr ⟨f_ML_207, List.forall_mem_cons.mpr ⟨f_ML_208, List.forall_mem_cons.mpr ⟨f_ML_209, List.forall_mem_cons.mpr ⟨f_ML_210, List.forall_mem_cons.mpr ⟨f_ML_211, List.forall_mem_cons.mpr ⟨f_ML_212, List.forall_mem_cons.mpr ⟨f_ML_213, List.forall_mem_cons.mpr ⟨f_ML_214, List.forall_mem_cons.mpr ⟨f_ML_215, List.forall_mem_cons.mpr ⟨f_ML_216, List.forall_mem_cons.mpr ⟨f_ML_217, List.forall_mem_cons.mpr ⟨f_ML_218, List.forall_mem_cons.mpr ⟨f_ML_219, List.forall_mem_cons.mpr ⟨f_ML_220, List.forall_mem_cons.mpr ⟨f_ML_221, List.forall_mem_cons.mpr ⟨f_ML_222, List.forall_mem_cons.mpr ⟨f_ML_223, List.forall_mem_cons.mpr ⟨f_ML_224, List.forall_mem_cons.mpr ⟨f_ML_225, List.forall_mem_cons.mpr ⟨f_ML_226, List.forall_mem_cons.mpr ⟨f_ML_227, List.forall_mem_cons.mpr ⟨f_ML_228, List.forall_mem_cons.mpr ⟨f_ML_229, List.forall_mem_cons.mpr ⟨f_ML_230, List.forall_mem_cons.mpr ⟨f_ML_231, List.forall_mem_cons.mpr ⟨f_ML_232, List.forall_mem_cons.mpr ⟨f_ML_233, List.forall_mem_cons.mpr ⟨f_ML_234, List.forall_mem_cons.mpr ⟨f_ML_235, List.forall_mem_cons.mpr ⟨f_ML_236, List.forall_mem_cons.mpr ⟨f_ML_237, List.forall_mem_cons.mpr ⟨f_ML_238, List.forall_mem_cons.mpr ⟨f_ML_239, List.forall_mem_cons.mpr ⟨f_ML_240, List.forall_mem_cons.mpr ⟨f_ML_241, List.forall_mem_cons.mpr ⟨f_ML_242, List.forall_mem_cons.mpr ⟨f_ML_243, List.forall_mem_cons.mpr ⟨f_ML_244, List.forall_mem_cons.mpr ⟨f_ML_245, List.forall_mem_cons.mpr ⟨f_ML_246, List.forall_mem_cons.mpr ⟨f_ML_247, List.forall_mem_cons.mpr ⟨f_ML_248, List.forall_mem_cons.mpr ⟨f_ML_249, List.forall_mem_cons.mpr ⟨f_ML_250, List.forall_mem_cons.mpr ⟨f_ML_251, List.forall_mem_cons.mpr ⟨f_ML_252, List.forall_mem_cons.mpr ⟨f_ML_253, List.forall_mem_cons.mpr ⟨f_ML_254, List.forall_mem_cons.mpr ⟨f_ML_255, List.forall_mem_cons.mpr ⟨f_ML_256, List.forall_mem_cons.mpr ⟨f_ML_257, List.forall_mem_cons.mpr ⟨f_ML_258, List.forall_mem_cons.mpr ⟨f_ML_259, List.forall_mem_cons.mpr ⟨f_ML_260, List.forall_mem_cons.mpr ⟨f_ML_261, ML_ok_nil⟩⟩⟩⟩⟩⟩⟩⟩⟩⟩⟩⟩⟩⟩⟩⟩⟩⟩⟩⟩⟩⟩⟩⟩⟩⟩⟩⟩⟩⟩⟩⟩⟩⟩⟩⟩⟩⟩⟩⟩⟩⟩⟩⟩⟩⟩⟩⟩⟩⟩⟩⟩⟩⟩⟩⟩⟩⟩⟩⟩⟩⟩⟩⟩⟩⟩⟩⟩⟩⟩⟩⟩⟩⟩⟩⟩⟩⟩⟩⟩⟩⟩⟩⟩⟩⟩⟩⟩⟩⟩⟩⟩⟩⟩⟩⟩⟩⟩⟩⟩⟩⟩⟩⟩⟩⟩⟩⟩⟩⟩⟩⟩⟩⟩⟩⟩⟩⟩⟩⟩⟩⟩⟩⟩⟩⟩⟩⟩⟩⟩⟩⟩⟩⟩⟩⟩⟩⟩⟩⟩⟩⟩⟩⟩⟩⟩⟩⟩⟩⟩⟩⟩⟩⟩⟩⟩⟩⟩⟩⟩⟩⟩⟩⟩⟩⟩⟩⟩⟩⟩⟩⟩⟩⟩⟩⟩⟩⟩⟩⟩⟩⟩⟩⟩⟩⟩⟩⟩⟩⟩⟩⟩⟩⟩⟩⟩⟩⟩⟩⟩⟩⟩⟩⟩⟩⟩⟩⟩⟩⟩⟩⟩⟩⟩⟩⟩⟩⟩⟩⟩⟩⟩⟩⟩⟩⟩⟩⟩⟩⟩⟩⟩⟩⟩⟩⟩⟩⟩⟩⟩⟩⟩⟩⟩⟩⟩⟩⟩⟩⟩⟩⟩⟩⟩⟩⟩⟩⟩⟩⟩⟩⟩
theorem f_CL_0 : wCL (2, 15, 106) ∈ W0 := in_W0 (in_t2 71 rfl) rfl
theorem f_CL_1 : wCL (3, 21, 106) ∈ W0 := in_W0 (in_t1 52 rfl) rfl
theorem f_CL_2 : wCL (3, 32, 105) ∈ W0 := in_W0 (in_t1 54 rfl) rfl
theorem f_CL_3 : wCL (3, 32, 7) ∈ W0 := in_W0 (in_t1 54 rfl) rfl
theorem f_CL_4 : wCL (4, 18, 106) ∈ W0 := in_W0 (in_t1 179 rfl) rfl
theorem f_CL_5 : wCL (5, 18, 106) ∈ W0 := in_W0 (in_t2 30 rfl) rfl
theorem f_CL_6 : wCL (11, 9, 9) ∈ W0 := in_W0 (in_t1 26 rfl) rfl
theorem f_CL_7 : wCL (11, 16, 103) ∈ W0 := in_W0 (in_t1 45 rfl) rfl
theorem f_CL_8 : wCL (11, 16, 3) ∈ W0 := in_W0 (in_t1 45 rfl) rfl
theorem f_CL_9 : wCL (11, 31, 4) ∈ W0 := in_W0 (in_t1 173 rfl) rfl
theorem f_CL_10 : wCL (11, 38, 6) ∈ W0 := in_W0 (in_t1 203 rfl) rfl
theorem f_CL_11 : wCL (11, 58, 1) ∈ W0 := in_W0 (in_t1 225 rfl) rfl
theorem f_CL_12 : wCL (11, 65, 10) ∈ W0 := in_W0 (in_t2 4 rfl) rfl
theorem f_CL_13 : wCL (11, 72, 5) ∈ W0 := in_W0 (in_t2 24 rfl) rfl
theorem f_CL_14 : wCL (11, 79, 2) ∈ W0 := in_W0 (in_t2 65 rfl) rfl
theorem f_CL_15 : wCL (11, 86, 0) ∈ W0 := in_W0 (in_t2 96 rfl) rfl
theorem f_CL_16 : wCL (11, 93, 104) ∈ W0 := in_W0 (in_t2 117 rfl) rfl
theorem f_CL_17 : wCL (11, 93, 8) ∈ W0 := in_W0 (in_t2 117 rfl) rfl
theorem f_CL_18 : wCL (16, 7, 11) ∈ W0 := in_W0 (in_t1 18 rfl) rfl
theorem f_CL_19 : wCL (16, 10, 12) ∈ W0 := in_W0 (in_t5 74 rfl) rfl
theorem CL_ok_nil : ∀ q ∈ ([] : List (Nat × Nat × Nat)), wCL q ∈ W0 := fun _ h => absurd h List.not_mem_nil
set_option maxRecDepth 100000 in
theorem CL_ok : ∀ q ∈ LCL, wCL q ∈ W0 := List.forall_mem_cons.mpr ⟨f_CL_0, List.forall_mem_cons.mpr ⟨f_CL_1, List.forall_mem_cons.mpr ⟨f_CL_2, List.forall_mem_cons.mpr ⟨f_CL_3, List.forall_mem_cons.mpr ⟨f_CL_4, List.forall_mem_cons.mpr ⟨f_CL_5, List.forall_mem_cons.mpr ⟨f_CL_6, List.forall_mem_cons.mpr ⟨f_CL_7, List.forall_mem_cons.mpr ⟨f_CL_8, List.forall_mem_cons.mpr ⟨f_CL_9, List.forall_mem_cons.mpr ⟨f_CL_10, List.forall_mem_cons.mpr ⟨f_CL_11, List.forall_mem_cons.mpr ⟨f_CL_12, List.forall_mem_cons.mpr ⟨f_CL_13, List.forall_mem_cons.mpr ⟨f_CL_14, List.forall_mem_cons.mpr ⟨f_CL_15, List.forall_mem_cons.mpr ⟨f_CL_16, List.forall_mem_cons.mpr ⟨f_CL_17, List.forall_mem_cons.mpr ⟨f_CL_18, List.forall_mem_cons.mpr ⟨f_CL_19, CL_ok_nil⟩⟩⟩⟩⟩⟩⟩⟩⟩⟩⟩⟩⟩⟩⟩⟩⟩⟩⟩⟩
theorem f_KI_0 : wKI (2, 58, 1000000) ∈ W0 := in_W0 (in_t4 196 rfl) rfl
theorem f_KI_1 : wKI (4, 67, 1000000) ∈ W0 := in_W0 (in_t4 222 rfl) rfl
theorem f_KI_2 : wKI (7, 42, 40320) ∈ W0 := in_W0 (in_t3 180 rfl) rfl
theorem f_KI_3 : wKI (11, 122, (-2000000000)) ∈ W0 := in_W0 (in_t3 32 rfl) rfl
theorem f_KI_4 : wKI (11, 266, 40320) ∈ W0 := in_W0 (in_t4 71 rfl) rfl
theorem f_KI_5 : wKI (11, 442, 1000000) ∈ W0 := in_W0 (in_t4 217 rfl) rfl
theorem f_KI_6 : wKI (12, 217, (-2000000000)) ∈ W0 := in_W0 (in_t6 88 rfl) rfl
theorem f_KI_7 : wKI (12, 386, 1000000) ∈ W0 := in_W0 (in_t7 112 rfl) rfl
theorem f_KI_8 : wKI (13, 265, 1431655765) ∈ W0 := in_W0 (in_t4 201 rfl) rfl
theorem f_KI_9 : wKI (13, 266, 858993459) ∈ W0 := in_W0 (in_t4 202 rfl) rfl
theorem f_KI_10 : wKI (13, 267, 252645135) ∈ W0 := in_W0 (in_t4 203 rfl) rfl
theorem KI_ok_nil : ∀ q ∈ ([] : List (Nat × Nat × Int)), wKI q ∈ W0 := fun _ h => absurd h List.not_mem_nil
set_option maxRecDepth 100000 in
theorem KI_ok : ∀ q ∈ LKI, wKI q ∈ W0 := List.forall_mem_cons.mpr ⟨f_KI_0, List.forall_mem_cons.mpr ⟨f_KI_1, List.forall_mem_cons.mpr ⟨f_KI_2, List.forall_mem_cons.mpr ⟨f_KI_3, List.forall_mem_cons.mpr ⟨f_KI_4, List.forall_mem_cons.mpr ⟨f_KI_5, List.forall_mem_cons.mpr ⟨f_KI_6, List.forall_mem_cons.mpr ⟨f_KI_7, List.forall_mem_cons.mpr ⟨f_KI_8, List.forall_mem_cons.mpr ⟨f_KI_9, List.forall_mem_cons.mpr ⟨f_KI_10, KI_ok_nil⟩⟩⟩⟩⟩⟩⟩⟩⟩⟩⟩
theorem f_KL_0 : wKL (1, 51, 1000000000000) ∈ W0 := in_W0 (in_t3 205 rfl) rfl
theorem f_KL_1 : wKL (3, 39, 60) ∈ W0 := in_W0 (in_t4 102 rfl) rfl
theorem f_KL_2 : wKL (7, 65, 60) ∈ W0 := in_W0 (in_t4 10 rfl) rfl
theorem f_KL_3 : wKL (11, 223, (-1)) ∈ W0 := in_W0 (in_t3 161 rfl) rfl
theorem f_KL_4 : wKL (11, 235, (-4)) ∈ W0 := in_W0 (in_t4 26 rfl) rfl
theorem f_KL_5 : wKL (11, 394, (-9223372036854775808)) ∈ W0 := in_W0 (in_t5 56 rfl) rfl
theorem f_KL_6 : wKL (12, 65, (-1)) ∈ W0 := in_W0 (in_t5 80 rfl) rfl
theorem f_KL_7 : wKL (12, 285, 1000000000000) ∈ W0 := in_W0 (in_t6 220 rfl) rfl
theorem f_KL_8 : wKL (12, 287, (-1000000000000)) ∈ W0 := in_W0 (in_t6 225 rfl) rfl
theorem f_KL_9 : wKL (12, 315, 60) ∈ W0 := in_W0 (in_t7 22 rfl) rfl
theorem f_KL_10 : wKL (12, 344, (-4)) ∈ W0 := in_W0 (in_t7 23 rfl) rfl
theorem f_KL_11 : wKL (12, 417, (-9223372036854775808)) ∈ W0 := in_W0 (in_t7 183 rfl) rfl
theorem f_KL_12 : wKL (16, 155, 4294967295) ∈ W0 := in_W0 (in_t7 196 rfl) rfl
theorem KL_ok_nil : ∀ q ∈ ([] : List (Nat × Nat × Int)), wKL q ∈ W0 := fun _ h => absurd h List.not_mem_nil
set_option maxRecDepth 100000 in
theorem KL_ok : ∀ q ∈ LKL, wKL q ∈ W0 := List.forall_mem_cons.mpr ⟨f_KL_0, List.forall_mem_cons.mpr ⟨f_KL_1, List.forall_mem_cons.mpr ⟨f_KL_2, List.forall_mem_cons.mpr ⟨f_KL_3, List.forall_mem_cons.mpr ⟨f_KL_4, List.forall_mem_cons.mpr ⟨f_KL_5, List.forall_mem_cons.mpr ⟨f_KL_6, List.forall_mem_cons.mpr ⟨f_KL_7, List.forall_mem_cons.mpr ⟨f_KL_8, List.forall_mem_cons.mpr ⟨f_KL_9, List.forall_mem_cons.mpr ⟨f_KL_10, List.forall_mem_cons.mpr ⟨f_KL_11, List.forall_mem_cons.mpr ⟨f_KL_12, KL_ok_nil⟩⟩⟩⟩⟩⟩⟩⟩⟩⟩⟩⟩⟩
theorem f_AC_0 : wAC (0, 1003) ∈ W0 := in_W0 (in_t2 101 rfl) rfl
theorem f_AC_1 : wAC (1, 1003) ∈ W0 := in_W0 (in_t1 230 rfl) rfl
theorem f_AC_2 : wAC (2, 1003) ∈ W0 := in_W0 (in_t2 70 rfl) rfl
theorem f_AC_3 : wAC (3, 1003) ∈ W0 := in_W0 (in_t1 51 rfl) rfl
theorem f_AC_4 : wAC (3, 60) ∈ W0 := in_W0 (in_t3 66 rfl) rfl
theorem f_AC_5 : wAC (4, 1003) ∈ W0 := in_W0 (in_t1 178 rfl) rfl
theorem f_AC_6 : wAC (4, 31) ∈ W0 := in_W0 (in_t3 88 rfl) rfl
theorem f_AC_7 : wAC (5, 1003) ∈ W0 := in_W0 (in_t2 29 rfl) rfl
theorem f_AC_8 : wAC (5, 49) ∈ W0 := in_W0 (in_t4 136 rfl) rfl
theorem f_AC_9 : wAC (6, 1003) ∈ W0 := in_W0 (in_t1 208 rfl) rfl
theorem f_AC_10 : wAC (7, 1003) ∈ W0 := in_W0 (in_t1 60 rfl) rfl
theorem f_AC_11 : wAC (8, 1001) ∈ W0 := in_W0 (in_t2 123 rfl) rfl
theorem f_AC_12 : wAC (9, 1003) ∈ W0 := in_W0 (in_t1 31 rfl) rfl
theorem f_AC_13 : wAC (10, 1003) ∈ W0 := in_W0 (in_t2 9 rfl) rfl
theorem f_AC_14 : wAC (11, 1003) ∈ W0 := in_W0 (in_t1 23 rfl) rfl
theorem f_AC_15 : wAC (11, 396) ∈ W0 := in_W0 (in_t5 61 rfl) rfl
theorem f_AC_16 : wAC (12, 1001) ∈ W0 := in_W0 (in_t5 79 rfl) rfl
theorem AC_ok_nil : ∀ q ∈ ([] : List (Nat × Nat)), wAC q ∈ W0 := fun _ h => absurd h List.not_mem_nil
set_option maxRecDepth 100000 in
theorem AC_ok : ∀ q ∈ LAC, wAC q ∈ W0 := List.forall_mem_cons.mpr ⟨f_AC_0, List.forall_mem_cons.mpr ⟨f_AC_1, List.forall_mem_cons.mpr ⟨f_AC_2, List.forall_mem_cons.mpr ⟨f_AC_3, List.forall_mem_cons.mpr ⟨f_AC_4, List.forall_mem_cons.mpr ⟨f_AC_5, List.forall_mem_cons.mpr ⟨f_AC_6, List.forall_mem_cons.mpr ⟨f_AC_7, List.forall_mem_cons.mpr ⟨f_AC_8, List.forall_mem_cons.mpr ⟨f_AC_9, List.forall_mem_cons.mpr ⟨f_AC_10, List.forall_mem_cons.mpr ⟨f_AC_11, List.forall_mem_cons.mpr ⟨f_AC_12, List.forall_mem_cons.mpr ⟨f_AC_13, List.forall_mem_cons.mpr ⟨f_AC_14, List.forall_mem_cons.mpr ⟨f_AC_15, List.forall_mem_cons.mpr ⟨f_AC_16, AC_ok_nil⟩⟩⟩⟩⟩⟩⟩⟩⟩⟩⟩⟩⟩⟩⟩⟩⟩
theorem f_SM_0 : wS 4 ∈ W0 := in_W0 (in_t5 9 rfl) rfl
theorem f_SM_1 : wS 247 ∈ W0 := in_W0 (in_t4 199 rfl) rfl
theorem f_SM_2 : wS 146 ∈ W0 := in_W0 (in_t4 28 rfl) rfl
theorem f_SM_3 : wS 249 ∈ W0 := in_W0 (in_t2 223 rfl) rfl
theorem f_SM_4 : wS 142 ∈ W0 := in_W0 (in_t4 73 rfl) rfl
theorem f_SM_5 : wS 52 ∈ W0 := in_W0 (in_t3 138 rfl) rfl
theorem f_SM_6 : wS 50 ∈ W0 := in_W0 (in_t3 132 rfl) rfl
theorem f_SM_7 : wS 51 ∈ W0 := in_W0 (in_t3 135 rfl) rfl
theorem f_SM_8 : wS 54 ∈ W0 := in_W0 (in_t3 141 rfl) rfl
theorem f_SM_9 : wS 53 ∈ W0 := in_W0 (in_t3 144 rfl) rfl
theorem f_SM_10 : wS 248 ∈ W0 := in_W0 (in_t3 171 rfl) rfl
theorem f_SM_11 : wS 143 ∈ W0 := in_W0 (in_t3 178 rfl) rfl
theorem f_SM_12 : wS 144 ∈ W0 := in_W0 (in_t3 187 rfl) rfl
theorem f_SM_13 : wS 127 ∈ W0 := in_W0 (in_t3 14 rfl) rfl
theorem f_SM_14 : wS 126 ∈ W0 := in_W0 (in_t3 34 rfl) rfl
theorem f_SM_15 : wS 141 ∈ W0 := in_W0 (in_t3 82 rfl) rfl
theorem f_SM_16 : wS 130 ∈ W0 := in_W0 (in_t3 116 rfl) rfl
theorem f_SM_17 : wS 128 ∈ W0 := in_W0 (in_t3 159 rfl) rfl
theorem f_SM_18 : wS 138 ∈ W0 := in_W0 (in_t4 42 rfl) rfl
theorem f_SM_19 : wS 129 ∈ W0 := in_W0 (in_t4 93 rfl) rfl
theorem f_SM_20 : wS 18 ∈ W0 := in_W0 (in_t4 100 rfl) rfl
theorem f_SM_21 : wS 133 ∈ W0 := in_W0 (in_t5 67 rfl) rfl
theorem f_SM_22 : wS 145 ∈ W0 := in_W0 (in_t3 190 rfl) rfl
theorem f_SM_23 : wS 148 ∈ W0 := in_W0 (in_t6 42 rfl) rfl
theorem f_SM_24 : wS 184 ∈ W0 := in_W0 (in_t6 206 rfl) rfl
theorem f_SM_25 : wS 231 ∈ W0 := in_W0 (in_t7 142 rfl) rfl
theorem f_SM_26 : wS 238 ∈ W0 := in_W0 (in_t7 165 rfl) rfl
theorem SM_ok_nil : ∀ q ∈ ([] : List Nat), wS q ∈ W0 := fun _ h => absurd h List.not_mem_nil
set_option maxRecDepth 100000 in
theorem SM_ok : ∀ q ∈ LSM, wS q ∈ W0 := List.forall_mem_cons.mpr ⟨f_SM_0, List.forall_mem_cons.mpr ⟨f_SM_1, List.forall_mem_cons.mpr ⟨f_SM_2, List.forall_mem_cons.mpr ⟨f_SM_3, List.forall_mem_cons.mpr ⟨f_SM_4, List.forall_mem_cons.mpr ⟨f_SM_5, List.forall_mem_cons.mpr ⟨f_SM_6, List.forall_mem_cons.mpr ⟨f_SM_7, List.forall_mem_cons.mpr ⟨f_SM_8, List.forall_mem_cons.mpr ⟨f_SM_9, List.forall_mem_cons.mpr ⟨f_SM_10, List.forall_mem_cons.mpr ⟨f_SM_11, List.forall_mem_cons.mpr ⟨f_SM_12, List.forall_mem_cons.mpr ⟨f_SM_13, List.forall_mem_cons.mpr ⟨f_SM_14, List.forall_mem_cons.mpr ⟨f_SM_15, List.forall_mem_cons.mpr ⟨f_SM_16, List.forall_mem_cons.mpr ⟨f_SM_17, List.forall_mem_cons.mpr ⟨f_SM_18, List.forall_mem_cons.mpr ⟨f_SM_19, List.forall_mem_cons.mpr ⟨f_SM_20, List.forall_mem_cons.mpr ⟨f_SM_21, List.forall_mem_cons.mpr ⟨f_SM_22, List.forall_mem_cons.mpr ⟨f_SM_23, List.forall_mem_cons.mpr ⟨f_SM_24, List.forall_mem_cons.mpr ⟨f_SM_25, List.forall_mem_cons.mpr ⟨f_SM_26, SM_ok_nil⟩⟩⟩⟩⟩⟩⟩⟩⟩⟩⟩⟩⟩⟩⟩⟩⟩⟩⟩⟩⟩⟩⟩⟩⟩⟩⟩
theorem GS_two : ∀ q ∈ LGS, q.2.2.1 = 1 ∨ q.2.2.1 = 2 := by decide
theorem f_VM_0 : wI 3 ∈ W0 ∧ wV 3 ∈ W0 := ⟨in_W0 (in_t5 17 rfl) rfl, in_sel (q := (⟨"TakenInTurns$Acts", "note", "(I)V"⟩, 4)) (List.mem_of_getElem? (i := 35) rfl)⟩
theorem f_VM_1 : wI 7 ∈ W0 ∧ wV 7 ∈ W0 := ⟨in_W0 (in_t3 198 rfl) rfl, in_sel (q := (⟨"TakenInTurns$Eating", "choose", "(LTakenInTurns$Giving;)Z"⟩, 4)) (List.mem_of_getElem? (i := 11) rfl)⟩
theorem f_VM_2 : wI 8 ∈ W0 ∧ wV 8 ∈ W0 := ⟨in_W0 (in_t3 203 rfl) rfl, in_sel (q := (⟨"TakenInTurns$Eating", "nextEaten", "(LTakenInTurns$Giving;LTakenInTurns$Shares;)I"⟩, 4)) (List.mem_of_getElem? (i := 12) rfl)⟩
theorem f_VM_3 : wI 9 ∈ W0 ∧ wV 9 ∈ W0 := ⟨in_W0 (in_t3 211 rfl) rfl, in_sel (q := (⟨"TakenInTurns$Eating", "widen", "(LTakenInTurns$Shares;J)V"⟩, 4)) (List.mem_of_getElem? (i := 13) rfl)⟩
theorem f_VM_4 : wI 10 ∈ W0 ∧ wV 10 ∈ W0 := ⟨in_W0 (in_t3 215 rfl) rfl, in_sel (q := (⟨"TakenInTurns$Eating", "pass", "(LTakenInTurns$Giving;LTakenInTurns$Shares;J)V"⟩, 4)) (List.mem_of_getElem? (i := 14) rfl)⟩
theorem f_VM_5 : wI 26 ∈ W0 ∧ wV 26 ∈ W0 := ⟨in_W0 (in_t3 55 rfl) rfl, in_W0 (in_t3 56 rfl) rfl⟩
theorem f_VM_6 : wI 36 ∈ W0 ∧ wV 36 ∈ W0 := ⟨in_W0 (in_t4 185 rfl) rfl, in_W0 (in_t4 186 rfl) rfl⟩
theorem f_VM_7 : wI 16 ∈ W0 ∧ wV 16 ∈ W0 := ⟨in_W0 (in_t4 194 rfl) rfl, in_sel (q := (⟨"TakenInTurns$Evens", "leastOf", "(II)I"⟩, 6)) (List.mem_of_getElem? (i := 32) rfl)⟩
theorem f_VM_8 : wI 21 ∈ W0 ∧ wV 21 ∈ W0 := ⟨in_W0 (in_t2 226 rfl) rfl, in_W0 (in_t2 227 rfl) rfl⟩
theorem f_VM_9 : wI 22 ∈ W0 ∧ wV 22 ∈ W0 := ⟨in_W0 (in_t3 6 rfl) rfl, in_W0 (in_t3 7 rfl) rfl⟩
theorem f_VM_10 : wI 23 ∈ W0 ∧ wV 23 ∈ W0 := ⟨in_W0 (in_t3 21 rfl) rfl, in_W0 (in_t3 22 rfl) rfl⟩
theorem f_VM_11 : wI 27 ∈ W0 ∧ wV 27 ∈ W0 := ⟨in_W0 (in_t4 112 rfl) rfl, in_W0 (in_t4 113 rfl) rfl⟩
theorem f_VM_12 : wI 30 ∈ W0 ∧ wV 30 ∈ W0 := ⟨in_W0 (in_t4 117 rfl) rfl, in_sel (q := (⟨"TakenInTurns$Giving", "hasUnlisted", "(I)Z"⟩, 13)) (List.mem_of_getElem? (i := 26) rfl)⟩
theorem f_VM_13 : wI 28 ∈ W0 ∧ wV 28 ∈ W0 := ⟨in_W0 (in_t4 120 rfl) rfl, in_W0 (in_t4 121 rfl) rfl⟩
theorem f_VM_14 : wI 29 ∈ W0 ∧ wV 29 ∈ W0 := ⟨in_W0 (in_t4 108 rfl) rfl, in_W0 (in_t4 109 rfl) rfl⟩
theorem f_VM_15 : wI 34 ∈ W0 ∧ wV 34 ∈ W0 := ⟨in_W0 (in_t3 92 rfl) rfl, in_sel (q := (⟨"TakenInTurns$Hand", "take", "(LTakenInTurns$Giving;II)V"⟩, 5)) (List.mem_of_getElem? (i := 7) rfl)⟩
theorem f_VM_16 : wI 41 ∈ W0 ∧ wV 41 ∈ W0 := ⟨in_W0 (in_t4 139 rfl) rfl, in_sel (q := (⟨"TakenInTurns$Parting", "measure", "(LTakenInTurns$Giving;I)V"⟩, 10)) (List.mem_of_getElem? (i := 27) rfl)⟩
theorem f_VM_17 : wI 42 ∈ W0 ∧ wV 42 ∈ W0 := ⟨in_W0 (in_t4 146 rfl) rfl, in_sel (q := (⟨"TakenInTurns$Parting", "pickFirst", "(LTakenInTurns$Giving;)Z"⟩, 10)) (List.mem_of_getElem? (i := 28) rfl)⟩
theorem f_VM_18 : wI 45 ∈ W0 ∧ wV 45 ∈ W0 := ⟨in_W0 (in_t4 158 rfl) rfl, in_sel (q := (⟨"TakenInTurns$Parting", "mostOff", "(LTakenInTurns$Giving;)I"⟩, 10)) (List.mem_of_getElem? (i := 31) rfl)⟩
theorem f_VM_19 : wI 43 ∈ W0 ∧ wV 43 ∈ W0 := ⟨in_W0 (in_t4 150 rfl) rfl, in_sel (q := (⟨"TakenInTurns$Parting", "pickFor", "(LTakenInTurns$Giving;I)Z"⟩, 10)) (List.mem_of_getElem? (i := 29) rfl)⟩
theorem f_VM_20 : wI 44 ∈ W0 ∧ wV 44 ∈ W0 := ⟨in_W0 (in_t4 154 rfl) rfl, in_sel (q := (⟨"TakenInTurns$Parting", "canGoOn", "(LTakenInTurns$Giving;I)Z"⟩, 10)) (List.mem_of_getElem? (i := 30) rfl)⟩
theorem f_VM_21 : wI 49 ∈ W0 ∧ wV 49 ∈ W0 := ⟨in_W0 (in_t3 128 rfl) rfl, in_sel (q := (⟨"TakenInTurns$Rings", "findAlone", "(LTakenInTurns$Giving;LTakenInTurns$Hand;)Z"⟩, 4)) (List.mem_of_getElem? (i := 8) rfl)⟩
theorem f_VM_22 : wI 35 ∈ W0 ∧ wV 35 ∈ W0 := ⟨in_W0 (in_t3 104 rfl) rfl, in_W0 (in_t3 105 rfl) rfl⟩
theorem f_VM_23 : wI 33 ∈ W0 ∧ wV 33 ∈ W0 := ⟨in_W0 (in_t3 85 rfl) rfl, in_W0 (in_t3 86 rfl) rfl⟩
theorem f_VM_24 : wI 58 ∈ W0 ∧ wV 58 ∈ W0 := ⟨in_W0 (in_t3 184 rfl) rfl, in_sel (q := (⟨"TakenInTurns$Shares", "addHand", "(LTakenInTurns$Giving;LTakenInTurns$Hand;)V"⟩, 5)) (List.mem_of_getElem? (i := 10) rfl)⟩
theorem f_VM_25 : wI 61 ∈ W0 ∧ wV 61 ∈ W0 := ⟨in_W0 (in_t4 17 rfl) rfl, in_sel (q := (⟨"TakenInTurns$Shares", "dropUnlisted", "(LTakenInTurns$Giving;I)J"⟩, 5)) (List.mem_of_getElem? (i := 21) rfl)⟩
theorem f_VM_26 : wI 62 ∈ W0 ∧ wV 62 ∈ W0 := ⟨in_W0 (in_t4 21 rfl) rfl, in_sel (q := (⟨"TakenInTurns$Shares", "cut", "(IIJ)J"⟩, 5)) (List.mem_of_getElem? (i := 22) rfl)⟩
theorem f_VM_27 : wI 19 ∈ W0 ∧ wV 19 ∈ W0 := ⟨in_W0 (in_t2 219 rfl) rfl, in_W0 (in_t2 220 rfl) rfl⟩
theorem f_VM_28 : wI 73 ∈ W0 ∧ wV 73 ∈ W0 := ⟨in_W0 (in_t2 231 rfl) rfl, in_sel (q := (⟨"TakenInTurns$Tape", "readThings", "(LTakenInTurns$Giving;)Z"⟩, 3)) (List.mem_of_getElem? (i := 0) rfl)⟩
theorem f_VM_29 : wI 74 ∈ W0 ∧ wV 74 ∈ W0 := ⟨in_W0 (in_t2 239 rfl) rfl, in_sel (q := (⟨"TakenInTurns$Tape", "readLists", "(LTakenInTurns$Giving;)Z"⟩, 3)) (List.mem_of_getElem? (i := 2) rfl)⟩
theorem f_VM_30 : wI 75 ∈ W0 ∧ wV 75 ∈ W0 := ⟨in_W0 (in_t3 3 rfl) rfl, in_sel (q := (⟨"TakenInTurns$Tape", "readList", "(LTakenInTurns$Giving;I)Z"⟩, 3)) (List.mem_of_getElem? (i := 3) rfl)⟩
theorem f_VM_31 : wI 72 ∈ W0 ∧ wV 72 ∈ W0 := ⟨in_W0 (in_t2 235 rfl) rfl, in_sel (q := (⟨"TakenInTurns$Tape", "next", "()I"⟩, 3)) (List.mem_of_getElem? (i := 1) rfl)⟩
theorem f_VM_32 : wI 76 ∈ W0 ∧ wV 76 ∈ W0 := ⟨in_W0 (in_t3 11 rfl) rfl, in_sel (q := (⟨"TakenInTurns$Tape", "readHeld", "(LTakenInTurns$Giving;I)Z"⟩, 3)) (List.mem_of_getElem? (i := 4) rfl)⟩
theorem f_VM_33 : wI 25 ∈ W0 ∧ wV 25 ∈ W0 := ⟨in_W0 (in_t3 17 rfl) rfl, in_W0 (in_t3 18 rfl) rfl⟩
theorem f_VM_34 : wI 79 ∈ W0 ∧ wV 79 ∈ W0 := ⟨in_W0 (in_t3 223 rfl) rfl, in_sel (q := (⟨"TakenInTurns$Trade", "pointAll", "(LTakenInTurns$Giving;)Z"⟩, 4)) (List.mem_of_getElem? (i := 15) rfl)⟩
theorem f_VM_35 : wI 81 ∈ W0 ∧ wV 81 ∈ W0 := ⟨in_W0 (in_t3 232 rfl) rfl, in_sel (q := (⟨"TakenInTurns$Trade", "closeRing", "(LTakenInTurns$Giving;)V"⟩, 4)) (List.mem_of_getElem? (i := 17) rfl)⟩
theorem f_VM_36 : wI 83 ∈ W0 ∧ wV 83 ∈ W0 := ⟨in_W0 (in_t4 0 rfl) rfl, in_sel (q := (⟨"TakenInTurns$Trade", "takeRest", "(LTakenInTurns$Giving;)V"⟩, 4)) (List.mem_of_getElem? (i := 19) rfl)⟩
theorem f_VM_37 : wI 80 ∈ W0 ∧ wV 80 ∈ W0 := ⟨in_W0 (in_t3 228 rfl) rfl, in_sel (q := (⟨"TakenInTurns$Trade", "holderOf", "(LTakenInTurns$Giving;II)I"⟩, 4)) (List.mem_of_getElem? (i := 16) rfl)⟩
theorem f_VM_38 : wI 82 ∈ W0 ∧ wV 82 ∈ W0 := ⟨in_W0 (in_t3 236 rfl) rfl, in_sel (q := (⟨"TakenInTurns$Trade", "isInRing", "(LTakenInTurns$Giving;I)Z"⟩, 4)) (List.mem_of_getElem? (i := 18) rfl)⟩
theorem f_VM_39 : wI 84 ∈ W0 ∧ wV 84 ∈ W0 := ⟨in_W0 (in_t4 4 rfl) rfl, in_sel (q := (⟨"TakenInTurns$Trade", "leftOf", "(LTakenInTurns$Giving;)I"⟩, 4)) (List.mem_of_getElem? (i := 20) rfl)⟩
theorem f_VM_40 : wI 69 ∈ W0 ∧ wV 69 ∈ W0 := ⟨in_W0 (in_t2 207 rfl) rfl, in_W0 (in_t2 208 rfl) rfl⟩
theorem f_VM_41 : wI 70 ∈ W0 ∧ wV 70 ∈ W0 := ⟨in_W0 (in_t2 215 rfl) rfl, in_W0 (in_t2 216 rfl) rfl⟩
theorem f_VM_42 : wI 125 ∈ W0 ∧ wV 125 ∈ W0 := ⟨in_W0 (in_t3 30 rfl) rfl, in_sel (q := (⟨"TakenInTurns", "isGiving", "(I)Z"⟩, 19)) (List.mem_of_getElem? (i := 5) rfl)⟩
theorem f_VM_43 : wI 20 ∈ W0 ∧ wV 20 ∈ W0 := ⟨in_W0 (in_t3 63 rfl) rfl, in_W0 (in_t3 64 rfl) rfl⟩
theorem f_VM_44 : wI 71 ∈ W0 ∧ wV 71 ∈ W0 := ⟨in_W0 (in_t3 70 rfl) rfl, in_W0 (in_t3 71 rfl) rfl⟩
theorem f_VM_45 : wI 131 ∈ W0 ∧ wV 131 ∈ W0 := ⟨in_W0 (in_t3 79 rfl) rfl, in_sel (q := (⟨"TakenInTurns", "kindAt", "(I)I"⟩, 19)) (List.mem_of_getElem? (i := 6) rfl)⟩
theorem f_VM_46 : wI 47 ∈ W0 ∧ wV 47 ∈ W0 := ⟨in_W0 (in_t3 96 rfl) rfl, in_W0 (in_t3 97 rfl) rfl⟩
theorem f_VM_47 : wI 48 ∈ W0 ∧ wV 48 ∈ W0 := ⟨in_W0 (in_t3 123 rfl) rfl, in_W0 (in_t3 124 rfl) rfl⟩
theorem f_VM_48 : wI 136 ∈ W0 ∧ wV 136 ∈ W0 := ⟨in_W0 (in_t3 164 rfl) rfl, in_sel (q := (⟨"TakenInTurns", "sharesOf", "(LTakenInTurns$Giving;I)LTakenInTurns$Shares;"⟩, 19)) (List.mem_of_getElem? (i := 9) rfl)⟩
theorem f_VM_49 : wI 132 ∈ W0 ∧ wV 132 ∈ W0 := ⟨in_W0 (in_t4 54 rfl) rfl, in_sel (q := (⟨"TakenInTurns", "isToldWrongly", "(I)Z"⟩, 19)) (List.mem_of_getElem? (i := 23) rfl)⟩
theorem f_VM_50 : wI 137 ∈ W0 ∧ wV 137 ∈ W0 := ⟨in_W0 (in_t4 58 rfl) rfl, in_sel (q := (⟨"TakenInTurns", "compareOtherwise", "(LTakenInTurns$Giving;II)I"⟩, 19)) (List.mem_of_getElem? (i := 24) rfl)⟩
theorem f_VM_51 : wI 135 ∈ W0 ∧ wV 135 ∈ W0 := ⟨in_W0 (in_t4 82 rfl) rfl, in_sel (q := (⟨"TakenInTurns", "forgetTable", "(LTakenInTurns$Giving;)V"⟩, 19)) (List.mem_of_getElem? (i := 25) rfl)⟩
theorem f_VM_52 : wI 66 ∈ W0 ∧ wV 66 ∈ W0 := ⟨in_W0 (in_t4 96 rfl) rfl, in_W0 (in_t4 97 rfl) rfl⟩
theorem f_VM_53 : wI 31 ∈ W0 ∧ wV 31 ∈ W0 := ⟨in_W0 (in_t4 128 rfl) rfl, in_W0 (in_t4 129 rfl) rfl⟩
theorem f_VM_54 : wI 40 ∈ W0 ∧ wV 40 ∈ W0 := ⟨in_W0 (in_t4 133 rfl) rfl, in_W0 (in_t4 134 rfl) rfl⟩
theorem f_VM_55 : wI 12 ∈ W0 ∧ wV 12 ∈ W0 := ⟨in_W0 (in_t4 169 rfl) rfl, in_W0 (in_t4 170 rfl) rfl⟩
theorem f_VM_56 : wI 13 ∈ W0 ∧ wV 13 ∈ W0 := ⟨in_W0 (in_t4 173 rfl) rfl, in_W0 (in_t4 174 rfl) rfl⟩
theorem f_VM_57 : wI 14 ∈ W0 ∧ wV 14 ∈ W0 := ⟨in_W0 (in_t4 181 rfl) rfl, in_W0 (in_t4 182 rfl) rfl⟩
theorem f_VM_58 : wI 15 ∈ W0 ∧ wV 15 ∈ W0 := ⟨in_W0 (in_t4 189 rfl) rfl, in_W0 (in_t4 190 rfl) rfl⟩
theorem f_VM_59 : wI 139 ∈ W0 ∧ wV 139 ∈ W0 := ⟨in_W0 (in_t4 215 rfl) rfl, in_sel (q := (⟨"TakenInTurns", "findSwap", "(LTakenInTurns$Giving;)V"⟩, 19)) (List.mem_of_getElem? (i := 33) rfl)⟩
theorem f_VM_60 : wI 140 ∈ W0 ∧ wV 140 ∈ W0 := ⟨in_W0 (in_t4 234 rfl) rfl, in_sel (q := (⟨"TakenInTurns", "fewestFirst", "(I)V"⟩, 19)) (List.mem_of_getElem? (i := 34) rfl)⟩
theorem f_VM_61 : wI 1 ∈ W0 ∧ wV 1 ∈ W0 := ⟨in_W0 (in_t5 1 rfl) rfl, in_W0 (in_t5 2 rfl) rfl⟩
theorem f_VM_62 : wI 2 ∈ W0 ∧ wV 2 ∈ W0 := ⟨in_W0 (in_t5 5 rfl) rfl, in_W0 (in_t5 6 rfl) rfl⟩
theorem f_VM_63 : wI 64 ∈ W0 ∧ wV 64 ∈ W0 := ⟨in_W0 (in_t5 28 rfl) rfl, in_W0 (in_t5 29 rfl) rfl⟩
theorem f_VM_64 : wI 65 ∈ W0 ∧ wV 65 ∈ W0 := ⟨in_W0 (in_t5 36 rfl) rfl, in_W0 (in_t5 37 rfl) rfl⟩
theorem f_VM_65 : wI 134 ∈ W0 ∧ wV 134 ∈ W0 := ⟨in_W0 (in_t5 46 rfl) rfl, in_sel (q := (⟨"TakenInTurns", "refusalAt", "(II)I"⟩, 19)) (List.mem_of_getElem? (i := 36) rfl)⟩
theorem f_VM_66 : wI 67 ∈ W0 ∧ wV 67 ∈ W0 := ⟨in_W0 (in_t5 49 rfl) rfl, in_W0 (in_t5 50 rfl) rfl⟩
theorem f_VM_67 : wI 39 ∈ W0 ∧ wV 39 ∈ W0 := ⟨in_W0 (in_t4 85 rfl) rfl, in_W0 (in_t4 86 rfl) rfl⟩
theorem f_VM_68 : wI 56 ∈ W0 ∧ wV 56 ∈ W0 := ⟨in_W0 (in_t3 167 rfl) rfl, in_W0 (in_t3 168 rfl) rfl⟩
theorem f_VM_69 : wI 57 ∈ W0 ∧ wV 57 ∈ W0 := ⟨in_W0 (in_t3 174 rfl) rfl, in_W0 (in_t3 175 rfl) rfl⟩
theorem f_VM_70 : wI 6 ∈ W0 ∧ wV 6 ∈ W0 := ⟨in_W0 (in_t3 193 rfl) rfl, in_W0 (in_t3 194 rfl) rfl⟩
theorem f_VM_71 : wI 78 ∈ W0 ∧ wV 78 ∈ W0 := ⟨in_W0 (in_t3 218 rfl) rfl, in_W0 (in_t3 219 rfl) rfl⟩
theorem f_VM_72 : wI 59 ∈ W0 ∧ wV 59 ∈ W0 := ⟨in_W0 (in_t4 7 rfl) rfl, in_W0 (in_t4 8 rfl) rfl⟩
theorem f_VM_73 : wI 60 ∈ W0 ∧ wV 60 ∈ W0 := ⟨in_W0 (in_t4 12 rfl) rfl, in_W0 (in_t4 13 rfl) rfl⟩
theorem f_VM_74 : wI 24 ∈ W0 ∧ wV 24 ∈ W0 := ⟨in_W0 (in_t4 61 rfl) rfl, in_W0 (in_t4 62 rfl) rfl⟩
theorem f_VM_75 : wI 37 ∈ W0 ∧ wV 37 ∈ W0 := ⟨in_W0 (in_t4 219 rfl) rfl, in_W0 (in_t4 220 rfl) rfl⟩
theorem f_VM_76 : wI 149 ∈ W0 ∧ wV 149 ∈ W0 := ⟨in_W0 (in_t6 78 rfl) rfl, in_sel (q := (⟨"TakenInTurnsModel", "isGiving", "(I)Z"⟩, 65)) (List.mem_of_getElem? (i := 43) rfl)⟩
theorem f_VM_77 : wI 153 ∈ W0 ∧ wV 153 ∈ W0 := ⟨in_W0 (in_t6 58 rfl) rfl, in_sel (q := (⟨"TakenInTurnsModel", "here", "()I"⟩, 65)) (List.mem_of_getElem? (i := 39) rfl)⟩
theorem f_VM_78 : wI 155 ∈ W0 ∧ wV 155 ∈ W0 := ⟨in_W0 (in_t6 66 rfl) rfl, in_sel (q := (⟨"TakenInTurnsModel", "heldOf", "(III)I"⟩, 65)) (List.mem_of_getElem? (i := 41) rfl)⟩
theorem f_VM_79 : wI 154 ∈ W0 ∧ wV 154 ∈ W0 := ⟨in_W0 (in_t6 54 rfl) rfl, in_sel (q := (⟨"TakenInTurnsModel", "readsThings", "(I)Z"⟩, 65)) (List.mem_of_getElem? (i := 38) rfl)⟩
theorem f_VM_80 : wI 156 ∈ W0 ∧ wV 156 ∈ W0 := ⟨in_W0 (in_t6 62 rfl) rfl, in_sel (q := (⟨"TakenInTurnsModel", "readsList", "(II)Z"⟩, 65)) (List.mem_of_getElem? (i := 40) rfl)⟩
theorem f_VM_81 : wI 157 ∈ W0 ∧ wV 157 ∈ W0 := ⟨in_W0 (in_t6 50 rfl) rfl, in_sel (q := (⟨"TakenInTurnsModel", "readsGiving", "(I)Z"⟩, 65)) (List.mem_of_getElem? (i := 37) rfl)⟩
theorem f_VM_82 : wI 150 ∈ W0 ∧ wV 150 ∈ W0 := ⟨in_W0 (in_t6 74 rfl) rfl, in_sel (q := (⟨"TakenInTurnsModel", "isPerson", "(II)Z"⟩, 65)) (List.mem_of_getElem? (i := 42) rfl)⟩
theorem f_VM_83 : wI 159 ∈ W0 ∧ wV 159 ∈ W0 := ⟨in_W0 (in_t6 82 rfl) rfl, in_sel (q := (⟨"TakenInTurnsModel", "copies", "(II)V"⟩, 65)) (List.mem_of_getElem? (i := 44) rfl)⟩
theorem f_VM_84 : wI 151 ∈ W0 ∧ wV 151 ∈ W0 := ⟨in_W0 (in_t6 99 rfl) rfl, in_sel (q := (⟨"TakenInTurnsModel", "isThing", "(II)Z"⟩, 65)) (List.mem_of_getElem? (i := 45) rfl)⟩
theorem f_VM_85 : wI 168 ∈ W0 ∧ wV 168 ∈ W0 := ⟨in_W0 (in_t6 127 rfl) rfl, in_sel (q := (⟨"TakenInTurnsModel", "firstLeft", "(II)I"⟩, 65)) (List.mem_of_getElem? (i := 49) rfl)⟩
theorem f_VM_86 : wI 170 ∈ W0 ∧ wV 170 ∈ W0 := ⟨in_W0 (in_t6 115 rfl) rfl, in_sel (q := (⟨"TakenInTurnsModel", "isWay", "(I)Z"⟩, 65)) (List.mem_of_getElem? (i := 46) rfl)⟩
theorem f_VM_87 : wI 166 ∈ W0 ∧ wV 166 ∈ W0 := ⟨in_W0 (in_t6 119 rfl) rfl, in_sel (q := (⟨"TakenInTurnsModel", "isOrder", "(II)Z"⟩, 65)) (List.mem_of_getElem? (i := 47) rfl)⟩
theorem f_VM_88 : wI 169 ∈ W0 ∧ wV 169 ∈ W0 := ⟨in_W0 (in_t6 123 rfl) rfl, in_sel (q := (⟨"TakenInTurnsModel", "runs", "(IZ)V"⟩, 65)) (List.mem_of_getElem? (i := 48) rfl)⟩
theorem f_VM_89 : wI 175 ∈ W0 ∧ wV 175 ∈ W0 := ⟨in_W0 (in_t6 159 rfl) rfl, in_sel (q := (⟨"TakenInTurnsModel", "levelIn", "(II)I"⟩, 65)) (List.mem_of_getElem? (i := 53) rfl)⟩
theorem f_VM_90 : wI 176 ∈ W0 ∧ wV 176 ∈ W0 := ⟨in_W0 (in_t6 155 rfl) rfl, in_sel (q := (⟨"TakenInTurnsModel", "wishes", "(III)Z"⟩, 65)) (List.mem_of_getElem? (i := 52) rfl)⟩
theorem f_VM_91 : wI 178 ∈ W0 ∧ wV 178 ∈ W0 := ⟨in_W0 (in_t6 167 rfl) rfl, in_sel (q := (⟨"TakenInTurnsModel", "findsThings", "(II)Z"⟩, 65)) (List.mem_of_getElem? (i := 55) rfl)⟩
theorem f_VM_92 : wI 179 ∈ W0 ∧ wV 179 ∈ W0 := ⟨in_W0 (in_t6 163 rfl) rfl, in_sel (q := (⟨"TakenInTurnsModel", "findsPeople", "(III)Z"⟩, 65)) (List.mem_of_getElem? (i := 54) rfl)⟩
theorem f_VM_93 : wI 177 ∈ W0 ∧ wV 177 ∈ W0 := ⟨in_W0 (in_t6 151 rfl) rfl, in_sel (q := (⟨"TakenInTurnsModel", "findsOne", "()Z"⟩, 65)) (List.mem_of_getElem? (i := 51) rfl)⟩
theorem f_VM_94 : wI 180 ∈ W0 ∧ wV 180 ∈ W0 := ⟨in_W0 (in_t6 147 rfl) rfl, in_sel (q := (⟨"TakenInTurnsModel", "findsRing", "()V"⟩, 65)) (List.mem_of_getElem? (i := 50) rfl)⟩
theorem f_VM_95 : wI 188 ∈ W0 ∧ wV 188 ∈ W0 := ⟨in_W0 (in_t6 195 rfl) rfl, in_sel (q := (⟨"TakenInTurnsModel", "firstOrder", "(I)V"⟩, 65)) (List.mem_of_getElem? (i := 59) rfl)⟩
theorem f_VM_96 : wI 187 ∈ W0 ∧ wV 187 ∈ W0 := ⟨in_W0 (in_t6 199 rfl) rfl, in_sel (q := (⟨"TakenInTurnsModel", "nextOrder", "(I)Z"⟩, 65)) (List.mem_of_getElem? (i := 60) rfl)⟩
theorem f_VM_97 : wI 186 ∈ W0 ∧ wV 186 ∈ W0 := ⟨in_W0 (in_t6 203 rfl) rfl, in_sel (q := (⟨"TakenInTurnsModel", "puts", "(IJJ)V"⟩, 65)) (List.mem_of_getElem? (i := 61) rfl)⟩
theorem f_VM_98 : wI 191 ∈ W0 ∧ wV 191 ∈ W0 := ⟨in_W0 (in_t6 218 rfl) rfl, in_sel (q := (⟨"TakenInTurnsModel", "firstUneaten", "(II)I"⟩, 65)) (List.mem_of_getElem? (i := 64) rfl)⟩
theorem f_VM_99 : wI 192 ∈ W0 ∧ wV 192 ∈ W0 := ⟨in_W0 (in_t6 214 rfl) rfl, in_sel (q := (⟨"TakenInTurnsModel", "eatNow", "(I)I"⟩, 65)) (List.mem_of_getElem? (i := 63) rfl)⟩
theorem f_VM_100 : wI 190 ∈ W0 ∧ wV 190 ∈ W0 := ⟨in_W0 (in_t6 223 rfl) rfl, in_sel (q := (⟨"TakenInTurnsModel", "adds", "(JJJJ)V"⟩, 65)) (List.mem_of_getElem? (i := 65) rfl)⟩
theorem f_VM_101 : wI 194 ∈ W0 ∧ wV 194 ∈ W0 := ⟨in_W0 (in_t6 236 rfl) rfl, in_sel (q := (⟨"TakenInTurnsModel", "pointOf", "(II)I"⟩, 65)) (List.mem_of_getElem? (i := 68) rfl)⟩
theorem f_VM_102 : wI 195 ∈ W0 ∧ wV 195 ∈ W0 := ⟨in_W0 (in_t6 232 rfl) rfl, in_sel (q := (⟨"TakenInTurnsModel", "endsSome", "(I)Z"⟩, 65)) (List.mem_of_getElem? (i := 67) rfl)⟩
theorem f_VM_103 : wI 196 ∈ W0 ∧ wV 196 ∈ W0 := ⟨in_W0 (in_t7 0 rfl) rfl, in_sel (q := (⟨"TakenInTurnsModel", "endsRing", "(I)Z"⟩, 65)) (List.mem_of_getElem? (i := 69) rfl)⟩
theorem f_VM_104 : wI 202 ∈ W0 ∧ wV 202 ∈ W0 := ⟨in_W0 (in_t7 8 rfl) rfl, in_sel (q := (⟨"TakenInTurnsModel", "mends", "(I)V"⟩, 65)) (List.mem_of_getElem? (i := 71) rfl)⟩
theorem f_VM_105 : wI 199 ∈ W0 ∧ wV 199 ∈ W0 := ⟨in_W0 (in_t7 12 rfl) rfl, in_sel (q := (⟨"TakenInTurnsModel", "sumOf", "(II)I"⟩, 65)) (List.mem_of_getElem? (i := 72) rfl)⟩
theorem f_VM_106 : wI 201 ∈ W0 ∧ wV 201 ∈ W0 := ⟨in_W0 (in_t7 16 rfl) rfl, in_sel (q := (⟨"TakenInTurnsModel", "less", "(II)V"⟩, 65)) (List.mem_of_getElem? (i := 73) rfl)⟩
theorem f_VM_107 : wI 200 ∈ W0 ∧ wV 200 ∈ W0 := ⟨in_W0 (in_t7 20 rfl) rfl, in_sel (q := (⟨"TakenInTurnsModel", "sumOver", "(II)I"⟩, 65)) (List.mem_of_getElem? (i := 74) rfl)⟩
theorem f_VM_108 : wI 185 ∈ W0 ∧ wV 185 ∈ W0 := ⟨in_W0 (in_t6 187 rfl) rfl, in_sel (q := (⟨"TakenInTurnsModel", "clears", "()V"⟩, 65)) (List.mem_of_getElem? (i := 57) rfl)⟩
theorem f_VM_109 : wI 189 ∈ W0 ∧ wV 189 ∈ W0 := ⟨in_W0 (in_t6 191 rfl) rfl, in_sel (q := (⟨"TakenInTurnsModel", "means", "(IZ)V"⟩, 65)) (List.mem_of_getElem? (i := 58) rfl)⟩
theorem f_VM_110 : wI 193 ∈ W0 ∧ wV 193 ∈ W0 := ⟨in_W0 (in_t6 210 rfl) rfl, in_sel (q := (⟨"TakenInTurnsModel", "eating", "(I)V"⟩, 65)) (List.mem_of_getElem? (i := 62) rfl)⟩
theorem f_VM_111 : wI 197 ∈ W0 ∧ wV 197 ∈ W0 := ⟨in_W0 (in_t6 228 rfl) rfl, in_sel (q := (⟨"TakenInTurnsModel", "trades", "(I)V"⟩, 65)) (List.mem_of_getElem? (i := 66) rfl)⟩
theorem f_VM_112 : wI 198 ∈ W0 ∧ wV 198 ∈ W0 := ⟨in_W0 (in_t7 4 rfl) rfl, in_sel (q := (⟨"TakenInTurnsModel", "takesParts", "(IZ)V"⟩, 65)) (List.mem_of_getElem? (i := 70) rfl)⟩
theorem f_VM_113 : wI 203 ∈ W0 ∧ wV 203 ∈ W0 := ⟨in_W0 (in_t6 183 rfl) rfl, in_sel (q := (⟨"TakenInTurnsModel", "shares", "(II)V"⟩, 65)) (List.mem_of_getElem? (i := 56) rfl)⟩
theorem f_VM_114 : wI 206 ∈ W0 ∧ wV 206 ∈ W0 := ⟨in_W0 (in_t7 34 rfl) rfl, in_sel (q := (⟨"TakenInTurnsModel", "keepsRow", "(I)V"⟩, 65)) (List.mem_of_getElem? (i := 75) rfl)⟩
theorem f_VM_115 : wI 207 ∈ W0 ∧ wV 207 ∈ W0 := ⟨in_W0 (in_t7 38 rfl) rfl, in_sel (q := (⟨"TakenInTurnsModel", "against", "(III)I"⟩, 65)) (List.mem_of_getElem? (i := 76) rfl)⟩
theorem f_VM_116 : wI 213 ∈ W0 ∧ wV 213 ∈ W0 := ⟨in_W0 (in_t7 50 rfl) rfl, in_sel (q := (⟨"TakenInTurnsModel", "isLie", "(III)Z"⟩, 65)) (List.mem_of_getElem? (i := 77) rfl)⟩
theorem f_VM_117 : wI 210 ∈ W0 ∧ wV 210 ∈ W0 := ⟨in_W0 (in_t7 54 rfl) rfl, in_sel (q := (⟨"TakenInTurnsModel", "areDigits", "(II)Z"⟩, 65)) (List.mem_of_getElem? (i := 78) rfl)⟩
theorem f_VM_118 : wI 212 ∈ W0 ∧ wV 212 ∈ W0 := ⟨in_W0 (in_t7 58 rfl) rfl, in_sel (q := (⟨"TakenInTurnsModel", "keepsOwn", "(III)Z"⟩, 65)) (List.mem_of_getElem? (i := 79) rfl)⟩
theorem f_VM_119 : wI 211 ∈ W0 ∧ wV 211 ∈ W0 := ⟨in_W0 (in_t7 62 rfl) rfl, in_sel (q := (⟨"TakenInTurnsModel", "tries", "(III)I"⟩, 65)) (List.mem_of_getElem? (i := 80) rfl)⟩
theorem f_VM_120 : wI 215 ∈ W0 ∧ wV 215 ∈ W0 := ⟨in_W0 (in_t7 70 rfl) rfl, in_sel (q := (⟨"TakenInTurnsModel", "triesAll", "(IIIIII)I"⟩, 65)) (List.mem_of_getElem? (i := 81) rfl)⟩
theorem f_VM_121 : wI 219 ∈ W0 ∧ wV 219 ∈ W0 := ⟨in_W0 (in_t7 86 rfl) rfl, in_sel (q := (⟨"TakenInTurnsModel", "barsOf", "(I)I"⟩, 65)) (List.mem_of_getElem? (i := 82) rfl)⟩
theorem f_VM_122 : wI 221 ∈ W0 ∧ wV 221 ∈ W0 := ⟨in_W0 (in_t7 94 rfl) rfl, in_sel (q := (⟨"TakenInTurnsModel", "finds", "(II)Z"⟩, 65)) (List.mem_of_getElem? (i := 83) rfl)⟩
theorem f_VM_123 : wI 222 ∈ W0 ∧ wV 222 ∈ W0 := ⟨in_W0 (in_t7 98 rfl) rfl, in_sel (q := (⟨"TakenInTurnsModel", "most", "(II)I"⟩, 65)) (List.mem_of_getElem? (i := 84) rfl)⟩
theorem f_VM_124 : wI 224 ∈ W0 ∧ wV 224 ∈ W0 := ⟨in_W0 (in_t7 110 rfl) rfl, in_sel (q := (⟨"TakenInTurnsModel", "pointsOf", "(II)I"⟩, 65)) (List.mem_of_getElem? (i := 85) rfl)⟩
theorem f_VM_125 : wI 167 ∈ W0 ∧ wV 167 ∈ W0 := ⟨in_W0 (in_t7 123 rfl) rfl, in_sel (q := (⟨"TakenInTurnsModel", "asDigits", "(I)I"⟩, 65)) (List.mem_of_getElem? (i := 86) rfl)⟩
theorem f_VM_126 : wI 230 ∈ W0 ∧ wV 230 ∈ W0 := ⟨in_W0 (in_t7 139 rfl) rfl, in_sel (q := (⟨"TakenInTurnsModel", "begins", "(I)V"⟩, 65)) (List.mem_of_getElem? (i := 88) rfl)⟩
theorem f_VM_127 : wI 232 ∈ W0 ∧ wV 232 ∈ W0 := ⟨in_W0 (in_t7 135 rfl) rfl, in_sel (q := (⟨"TakenInTurnsModel", "takesFrom", "(III)I"⟩, 65)) (List.mem_of_getElem? (i := 87) rfl)⟩
theorem f_VM_128 : wI 233 ∈ W0 ∧ wV 233 ∈ W0 := ⟨in_W0 (in_t7 146 rfl) rfl, in_sel (q := (⟨"TakenInTurnsModel", "leavesFrom", "(III)I"⟩, 65)) (List.mem_of_getElem? (i := 89) rfl)⟩
theorem f_VM_129 : wI 234 ∈ W0 ∧ wV 234 ∈ W0 := ⟨in_W0 (in_t7 150 rfl) rfl, in_sel (q := (⟨"TakenInTurnsModel", "likesFrom", "(III)I"⟩, 65)) (List.mem_of_getElem? (i := 90) rfl)⟩
theorem f_VM_130 : wI 235 ∈ W0 ∧ wV 235 ∈ W0 := ⟨in_W0 (in_t7 154 rfl) rfl, in_sel (q := (⟨"TakenInTurnsModel", "tellsFrom", "(III)I"⟩, 65)) (List.mem_of_getElem? (i := 91) rfl)⟩
theorem f_VM_131 : wI 241 ∈ W0 ∧ wV 241 ∈ W0 := ⟨in_W0 (in_t7 177 rfl) rfl, in_sel (q := (⟨"TakenInTurnsModel", "barred", "(II)I"⟩, 65)) (List.mem_of_getElem? (i := 92) rfl)⟩
theorem f_VM_132 : wI 86 ∈ W0 ∧ wV 86 ∈ W0 := ⟨in_W0 (in_t2 203 rfl) rfl, in_W0 (in_t2 204 rfl) rfl⟩
theorem f_VM_133 : wI 152 ∈ W0 ∧ wV 152 ∈ W0 := ⟨in_W0 (in_t6 38 rfl) rfl, in_W0 (in_t6 39 rfl) rfl⟩
theorem f_VM_134 : wI 87 ∈ W0 ∧ wV 87 ∈ W0 := ⟨in_W0 (in_t2 211 rfl) rfl, in_W0 (in_t2 212 rfl) rfl⟩
theorem f_VM_135 : wI 158 ∈ W0 ∧ wV 158 ∈ W0 := ⟨in_W0 (in_t6 45 rfl) rfl, in_W0 (in_t6 46 rfl) rfl⟩
theorem f_VM_136 : wI 88 ∈ W0 ∧ wV 88 ∈ W0 := ⟨in_W0 (in_t3 25 rfl) rfl, in_W0 (in_t3 26 rfl) rfl⟩
theorem f_VM_137 : wI 161 ∈ W0 ∧ wV 161 ∈ W0 := ⟨in_W0 (in_t6 85 rfl) rfl, in_W0 (in_t6 86 rfl) rfl⟩
theorem f_VM_138 : wI 89 ∈ W0 ∧ wV 89 ∈ W0 := ⟨in_W0 (in_t3 38 rfl) rfl, in_W0 (in_t3 39 rfl) rfl⟩
theorem f_VM_139 : wI 162 ∈ W0 ∧ wV 162 ∈ W0 := ⟨in_W0 (in_t6 90 rfl) rfl, in_W0 (in_t6 91 rfl) rfl⟩
theorem f_VM_140 : wI 90 ∈ W0 ∧ wV 90 ∈ W0 := ⟨in_W0 (in_t3 43 rfl) rfl, in_W0 (in_t3 44 rfl) rfl⟩
theorem f_VM_141 : wI 163 ∈ W0 ∧ wV 163 ∈ W0 := ⟨in_W0 (in_t6 94 rfl) rfl, in_W0 (in_t6 95 rfl) rfl⟩
theorem f_VM_142 : wI 91 ∈ W0 ∧ wV 91 ∈ W0 := ⟨in_W0 (in_t3 47 rfl) rfl, in_W0 (in_t3 48 rfl) rfl⟩
theorem f_VM_143 : wI 164 ∈ W0 ∧ wV 164 ∈ W0 := ⟨in_W0 (in_t6 102 rfl) rfl, in_W0 (in_t6 103 rfl) rfl⟩
theorem f_VM_144 : wI 92 ∈ W0 ∧ wV 92 ∈ W0 := ⟨in_W0 (in_t3 51 rfl) rfl, in_W0 (in_t3 52 rfl) rfl⟩
theorem f_VM_145 : wI 165 ∈ W0 ∧ wV 165 ∈ W0 := ⟨in_W0 (in_t6 106 rfl) rfl, in_W0 (in_t6 107 rfl) rfl⟩
theorem f_VM_146 : wI 93 ∈ W0 ∧ wV 93 ∈ W0 := ⟨in_W0 (in_t3 59 rfl) rfl, in_W0 (in_t3 60 rfl) rfl⟩
theorem f_VM_147 : wI 160 ∈ W0 ∧ wV 160 ∈ W0 := ⟨in_W0 (in_t6 69 rfl) rfl, in_W0 (in_t6 70 rfl) rfl⟩
theorem f_VM_148 : wI 94 ∈ W0 ∧ wV 94 ∈ W0 := ⟨in_W0 (in_t3 74 rfl) rfl, in_W0 (in_t3 75 rfl) rfl⟩
theorem f_VM_149 : wI 171 ∈ W0 ∧ wV 171 ∈ W0 := ⟨in_W0 (in_t6 110 rfl) rfl, in_W0 (in_t6 111 rfl) rfl⟩
theorem f_VM_150 : wI 95 ∈ W0 ∧ wV 95 ∈ W0 := ⟨in_W0 (in_t3 100 rfl) rfl, in_W0 (in_t3 101 rfl) rfl⟩
theorem f_VM_151 : wI 172 ∈ W0 ∧ wV 172 ∈ W0 := ⟨in_W0 (in_t6 130 rfl) rfl, in_W0 (in_t6 131 rfl) rfl⟩
theorem f_VM_152 : wI 96 ∈ W0 ∧ wV 96 ∈ W0 := ⟨in_W0 (in_t3 108 rfl) rfl, in_W0 (in_t3 109 rfl) rfl⟩
theorem f_VM_153 : wI 173 ∈ W0 ∧ wV 173 ∈ W0 := ⟨in_W0 (in_t6 134 rfl) rfl, in_W0 (in_t6 135 rfl) rfl⟩
theorem f_VM_154 : wI 97 ∈ W0 ∧ wV 97 ∈ W0 := ⟨in_W0 (in_t3 112 rfl) rfl, in_W0 (in_t3 113 rfl) rfl⟩
theorem f_VM_155 : wI 174 ∈ W0 ∧ wV 174 ∈ W0 := ⟨in_W0 (in_t6 138 rfl) rfl, in_W0 (in_t6 139 rfl) rfl⟩
theorem f_VM_156 : wI 98 ∈ W0 ∧ wV 98 ∈ W0 := ⟨in_W0 (in_t3 119 rfl) rfl, in_W0 (in_t3 120 rfl) rfl⟩
theorem f_VM_157 : wI 181 ∈ W0 ∧ wV 181 ∈ W0 := ⟨in_W0 (in_t6 142 rfl) rfl, in_W0 (in_t6 143 rfl) rfl⟩
theorem f_VM_158 : wI 99 ∈ W0 ∧ wV 99 ∈ W0 := ⟨in_W0 (in_t3 147 rfl) rfl, in_W0 (in_t3 148 rfl) rfl⟩
theorem f_VM_159 : wI 182 ∈ W0 ∧ wV 182 ∈ W0 := ⟨in_W0 (in_t6 170 rfl) rfl, in_W0 (in_t6 171 rfl) rfl⟩
theorem f_VM_160 : wI 100 ∈ W0 ∧ wV 100 ∈ W0 := ⟨in_W0 (in_t3 151 rfl) rfl, in_W0 (in_t3 152 rfl) rfl⟩
theorem f_VM_161 : wI 183 ∈ W0 ∧ wV 183 ∈ W0 := ⟨in_W0 (in_t6 174 rfl) rfl, in_W0 (in_t6 175 rfl) rfl⟩
theorem f_VM_162 : wI 101 ∈ W0 ∧ wV 101 ∈ W0 := ⟨in_W0 (in_t3 155 rfl) rfl, in_W0 (in_t3 156 rfl) rfl⟩
theorem f_VM_163 : wI 204 ∈ W0 ∧ wV 204 ∈ W0 := ⟨in_W0 (in_t6 178 rfl) rfl, in_W0 (in_t6 179 rfl) rfl⟩
theorem f_VM_164 : wI 102 ∈ W0 ∧ wV 102 ∈ W0 := ⟨in_W0 (in_t4 34 rfl) rfl, in_W0 (in_t4 35 rfl) rfl⟩
theorem f_VM_165 : wI 205 ∈ W0 ∧ wV 205 ∈ W0 := ⟨in_W0 (in_t7 25 rfl) rfl, in_W0 (in_t7 26 rfl) rfl⟩
theorem f_VM_166 : wI 103 ∈ W0 ∧ wV 103 ∈ W0 := ⟨in_W0 (in_t4 38 rfl) rfl, in_W0 (in_t4 39 rfl) rfl⟩
theorem f_VM_167 : wI 208 ∈ W0 ∧ wV 208 ∈ W0 := ⟨in_W0 (in_t7 29 rfl) rfl, in_W0 (in_t7 30 rfl) rfl⟩
theorem f_VM_168 : wI 104 ∈ W0 ∧ wV 104 ∈ W0 := ⟨in_W0 (in_t4 45 rfl) rfl, in_W0 (in_t4 46 rfl) rfl⟩
theorem f_VM_169 : wI 209 ∈ W0 ∧ wV 209 ∈ W0 := ⟨in_W0 (in_t7 41 rfl) rfl, in_W0 (in_t7 42 rfl) rfl⟩
theorem f_VM_170 : wI 105 ∈ W0 ∧ wV 105 ∈ W0 := ⟨in_W0 (in_t4 49 rfl) rfl, in_W0 (in_t4 50 rfl) rfl⟩
theorem f_VM_171 : wI 214 ∈ W0 ∧ wV 214 ∈ W0 := ⟨in_W0 (in_t7 45 rfl) rfl, in_W0 (in_t7 46 rfl) rfl⟩
theorem f_VM_172 : wI 106 ∈ W0 ∧ wV 106 ∈ W0 := ⟨in_W0 (in_t4 67 rfl) rfl, in_W0 (in_t4 68 rfl) rfl⟩
theorem f_VM_173 : wI 216 ∈ W0 ∧ wV 216 ∈ W0 := ⟨in_W0 (in_t7 65 rfl) rfl, in_W0 (in_t7 66 rfl) rfl⟩
theorem f_VM_174 : wI 107 ∈ W0 ∧ wV 107 ∈ W0 := ⟨in_W0 (in_t4 77 rfl) rfl, in_W0 (in_t4 78 rfl) rfl⟩
theorem f_VM_175 : wI 217 ∈ W0 ∧ wV 217 ∈ W0 := ⟨in_W0 (in_t7 73 rfl) rfl, in_W0 (in_t7 74 rfl) rfl⟩
theorem f_VM_176 : wI 108 ∈ W0 ∧ wV 108 ∈ W0 := ⟨in_W0 (in_t4 89 rfl) rfl, in_W0 (in_t4 90 rfl) rfl⟩
theorem f_VM_177 : wI 218 ∈ W0 ∧ wV 218 ∈ W0 := ⟨in_W0 (in_t7 77 rfl) rfl, in_W0 (in_t7 78 rfl) rfl⟩
theorem f_VM_178 : wI 109 ∈ W0 ∧ wV 109 ∈ W0 := ⟨in_W0 (in_t4 104 rfl) rfl, in_W0 (in_t4 105 rfl) rfl⟩
theorem f_VM_179 : wI 220 ∈ W0 ∧ wV 220 ∈ W0 := ⟨in_W0 (in_t7 81 rfl) rfl, in_W0 (in_t7 82 rfl) rfl⟩
theorem f_VM_180 : wI 110 ∈ W0 ∧ wV 110 ∈ W0 := ⟨in_W0 (in_t4 124 rfl) rfl, in_W0 (in_t4 125 rfl) rfl⟩
theorem f_VM_181 : wI 223 ∈ W0 ∧ wV 223 ∈ W0 := ⟨in_W0 (in_t7 89 rfl) rfl, in_W0 (in_t7 90 rfl) rfl⟩
theorem f_VM_182 : wI 111 ∈ W0 ∧ wV 111 ∈ W0 := ⟨in_W0 (in_t4 165 rfl) rfl, in_W0 (in_t4 166 rfl) rfl⟩
theorem f_VM_183 : wI 225 ∈ W0 ∧ wV 225 ∈ W0 := ⟨in_W0 (in_t7 101 rfl) rfl, in_W0 (in_t7 102 rfl) rfl⟩
theorem f_VM_184 : wI 112 ∈ W0 ∧ wV 112 ∈ W0 := ⟨in_W0 (in_t4 177 rfl) rfl, in_W0 (in_t4 178 rfl) rfl⟩
theorem f_VM_185 : wI 226 ∈ W0 ∧ wV 226 ∈ W0 := ⟨in_W0 (in_t7 105 rfl) rfl, in_W0 (in_t7 106 rfl) rfl⟩
theorem f_VM_186 : wI 113 ∈ W0 ∧ wV 113 ∈ W0 := ⟨in_W0 (in_t4 206 rfl) rfl, in_W0 (in_t4 207 rfl) rfl⟩
theorem f_VM_187 : wI 227 ∈ W0 ∧ wV 227 ∈ W0 := ⟨in_W0 (in_t7 114 rfl) rfl, in_W0 (in_t7 115 rfl) rfl⟩
theorem f_VM_188 : wI 114 ∈ W0 ∧ wV 114 ∈ W0 := ⟨in_W0 (in_t4 210 rfl) rfl, in_W0 (in_t4 211 rfl) rfl⟩
theorem f_VM_189 : wI 228 ∈ W0 ∧ wV 228 ∈ W0 := ⟨in_W0 (in_t7 118 rfl) rfl, in_W0 (in_t7 119 rfl) rfl⟩
theorem f_VM_190 : wI 115 ∈ W0 ∧ wV 115 ∈ W0 := ⟨in_W0 (in_t4 227 rfl) rfl, in_W0 (in_t4 228 rfl) rfl⟩
theorem f_VM_191 : wI 229 ∈ W0 ∧ wV 229 ∈ W0 := ⟨in_W0 (in_t7 126 rfl) rfl, in_W0 (in_t7 127 rfl) rfl⟩
theorem f_VM_192 : wI 116 ∈ W0 ∧ wV 116 ∈ W0 := ⟨in_W0 (in_t4 237 rfl) rfl, in_W0 (in_t4 238 rfl) rfl⟩
theorem f_VM_193 : wI 236 ∈ W0 ∧ wV 236 ∈ W0 := ⟨in_W0 (in_t7 130 rfl) rfl, in_W0 (in_t7 131 rfl) rfl⟩
theorem f_VM_194 : wI 117 ∈ W0 ∧ wV 117 ∈ W0 := ⟨in_W0 (in_t5 20 rfl) rfl, in_W0 (in_t5 21 rfl) rfl⟩
theorem f_VM_195 : wI 237 ∈ W0 ∧ wV 237 ∈ W0 := ⟨in_W0 (in_t7 157 rfl) rfl, in_W0 (in_t7 158 rfl) rfl⟩
theorem f_VM_196 : wI 118 ∈ W0 ∧ wV 118 ∈ W0 := ⟨in_W0 (in_t5 24 rfl) rfl, in_W0 (in_t5 25 rfl) rfl⟩
theorem f_VM_197 : wI 239 ∈ W0 ∧ wV 239 ∈ W0 := ⟨in_W0 (in_t7 161 rfl) rfl, in_W0 (in_t7 162 rfl) rfl⟩
theorem f_VM_198 : wI 119 ∈ W0 ∧ wV 119 ∈ W0 := ⟨in_W0 (in_t5 32 rfl) rfl, in_W0 (in_t5 33 rfl) rfl⟩
theorem f_VM_199 : wI 240 ∈ W0 ∧ wV 240 ∈ W0 := ⟨in_W0 (in_t7 168 rfl) rfl, in_W0 (in_t7 169 rfl) rfl⟩
theorem f_VM_200 : wI 120 ∈ W0 ∧ wV 120 ∈ W0 := ⟨in_W0 (in_t5 41 rfl) rfl, in_W0 (in_t5 42 rfl) rfl⟩
theorem f_VM_201 : wI 242 ∈ W0 ∧ wV 242 ∈ W0 := ⟨in_W0 (in_t7 172 rfl) rfl, in_W0 (in_t7 173 rfl) rfl⟩
theorem f_VM_202 : wI 121 ∈ W0 ∧ wV 121 ∈ W0 := ⟨in_W0 (in_t5 53 rfl) rfl, in_W0 (in_t5 54 rfl) rfl⟩
theorem f_VM_203 : wI 243 ∈ W0 ∧ wV 243 ∈ W0 := ⟨in_W0 (in_t7 180 rfl) rfl, in_W0 (in_t7 181 rfl) rfl⟩
theorem f_VM_204 : wI 122 ∈ W0 ∧ wV 122 ∈ W0 := ⟨in_W0 (in_t5 58 rfl) rfl, in_W0 (in_t5 59 rfl) rfl⟩
theorem f_VM_205 : wI 244 ∈ W0 ∧ wV 244 ∈ W0 := ⟨in_W0 (in_t7 185 rfl) rfl, in_W0 (in_t7 186 rfl) rfl⟩
theorem f_VM_206 : wI 123 ∈ W0 ∧ wV 123 ∈ W0 := ⟨in_W0 (in_t5 63 rfl) rfl, in_W0 (in_t5 64 rfl) rfl⟩
theorem f_VM_207 : wI 245 ∈ W0 ∧ wV 245 ∈ W0 := ⟨in_W0 (in_t7 189 rfl) rfl, in_W0 (in_t7 190 rfl) rfl⟩
theorem f_VM_208 : wI 124 ∈ W0 ∧ wV 124 ∈ W0 := ⟨in_W0 (in_t5 71 rfl) rfl, in_W0 (in_t5 72 rfl) rfl⟩
theorem f_VM_209 : wI 246 ∈ W0 ∧ wV 246 ∈ W0 := ⟨in_W0 (in_t7 193 rfl) rfl, in_W0 (in_t7 194 rfl) rfl⟩
theorem VM_ok_nil : ∀ q ∈ ([] : List Nat), wI q ∈ W0 ∧ wV q ∈ W0 := fun _ h => absurd h List.not_mem_nil
set_option maxRecDepth 100000 in
theorem VM_ok : ∀ q ∈ LVM, wI q ∈ W0 ∧ wV q ∈ W0 := List.forall_mem_cons.mpr ⟨f_VM_0, List.forall_mem_cons.mpr ⟨f_VM_1, List.forall_mem_cons.mpr ⟨f_VM_2, List.forall_mem_cons.mpr ⟨f_VM_3, List.forall_mem_cons.mpr ⟨f_VM_4, List.forall_mem_cons.mpr ⟨f_VM_5, List.forall_mem_cons.mpr ⟨f_VM_6, List.forall_mem_cons.mpr ⟨f_VM_7, List.forall_mem_cons.mpr ⟨f_VM_8, List.forall_mem_cons.mpr ⟨f_VM_9, List.forall_mem_cons.mpr ⟨f_VM_10, List.forall_mem_cons.mpr ⟨f_VM_11, List.forall_mem_cons.mpr ⟨f_VM_12, List.forall_mem_cons.mpr ⟨f_VM_13, List.forall_mem_cons.mpr ⟨f_VM_14, List.forall_mem_cons.mpr ⟨f_VM_15, List.forall_mem_cons.mpr ⟨f_VM_16, List.forall_mem_cons.mpr ⟨f_VM_17, List.forall_mem_cons.mpr ⟨f_VM_18, List.forall_mem_cons.mpr ⟨f_VM_19, List.forall_mem_cons.mpr ⟨f_VM_20, List.forall_mem_cons.mpr ⟨f_VM_21, List.forall_mem_cons.mpr ⟨f_VM_22, List.forall_mem_cons.mpr ⟨f_VM_23, List.forall_mem_cons.mpr ⟨f_VM_24, List.forall_mem_cons.mpr ⟨f_VM_25, List.forall_mem_cons.mpr ⟨f_VM_26, List.forall_mem_cons.mpr ⟨f_VM_27, List.forall_mem_cons.mpr ⟨f_VM_28, List.forall_mem_cons.mpr ⟨f_VM_29, List.forall_mem_cons.mpr ⟨f_VM_30, List.forall_mem_cons.mpr ⟨f_VM_31, List.forall_mem_cons.mpr ⟨f_VM_32, List.forall_mem_cons.mpr ⟨f_VM_33, List.forall_mem_cons.mpr ⟨f_VM_34, List.forall_mem_cons.mpr ⟨f_VM_35, List.forall_mem_cons.mpr ⟨f_VM_36, List.forall_mem_cons.mpr ⟨f_VM_37, List.forall_mem_cons.mpr ⟨f_VM_38, List.forall_mem_cons.mpr ⟨f_VM_39, List.forall_mem_cons.mpr ⟨f_VM_40, List.forall_mem_cons.mpr ⟨f_VM_41, List.forall_mem_cons.mpr ⟨f_VM_42, List.forall_mem_cons.mpr ⟨f_VM_43, List.forall_mem_cons.mpr ⟨f_VM_44, List.forall_mem_cons.mpr ⟨f_VM_45, List.forall_mem_cons.mpr ⟨f_VM_46, List.forall_mem_cons.mpr ⟨f_VM_47, List.forall_mem_cons.mpr ⟨f_VM_48, List.forall_mem_cons.mpr ⟨f_VM_49, List.forall_mem_cons.mpr ⟨f_VM_50, List.forall_mem_cons.mpr ⟨f_VM_51, List.forall_mem_cons.mpr ⟨f_VM_52, List.forall_mem_cons.mpr ⟨f_VM_53, List.forall_mem_cons.mpr ⟨f_VM_54, List.forall_mem_cons.mpr ⟨f_VM_55, List.forall_mem_cons.mpr ⟨f_VM_56, List.forall_mem_cons.mpr ⟨f_VM_57, List.forall_mem_cons.mpr ⟨f_VM_58, List.forall_mem_cons.mpr ⟨f_VM_59, List.forall_mem_cons.mpr ⟨f_VM_60, List.forall_mem_cons.mpr ⟨f_VM_61, List.forall_mem_cons.mpr ⟨f_VM_62, List.forall_mem_cons.mpr ⟨f_VM_63, List.forall_mem_cons.mpr ⟨f_VM_64, List.forall_mem_cons.mpr ⟨f_VM_65, List.forall_mem_cons.mpr ⟨f_VM_66, List.forall_mem_cons.mpr ⟨f_VM_67, List.forall_mem_cons.mpr ⟨f_VM_68, List.forall_mem_cons.mpr ⟨f_VM_69, List.forall_mem_cons.mpr ⟨f_VM_70, List.forall_mem_cons.mpr ⟨f_VM_71, List.forall_mem_cons.mpr ⟨f_VM_72, List.forall_mem_cons.mpr ⟨f_VM_73, List.forall_mem_cons.mpr ⟨f_VM_74, List.forall_mem_cons.mpr ⟨f_VM_75, List.forall_mem_cons.mpr ⟨f_VM_76, List.forall_mem_cons.mpr ⟨f_VM_77, List.forall_mem_cons.mpr ⟨f_VM_78, List.forall_mem_cons.mpr ⟨f_VM_79, List.forall_mem_cons.mpr ⟨f_VM_80, List.forall_mem_cons.mpr ⟨f_VM_81, List.forall_mem_cons.mpr ⟨f_VM_82, List.forall_mem_cons.mpr ⟨f_VM_83, List.forall_mem_cons.mpr ⟨f_VM_84, List.forall_mem_cons.mpr ⟨f_VM_85, List.forall_mem_cons.mpr ⟨f_VM_86, List.forall_mem_cons.mpr ⟨f_VM_87, List.forall_mem_cons.mpr ⟨f_VM_88, List.forall_mem_cons.mpr ⟨f_VM_89, List.forall_mem_cons.mpr ⟨f_VM_90, List.forall_mem_cons.mpr ⟨f_VM_91, List.forall_mem_cons.mpr ⟨f_VM_92, List.forall_mem_cons.mpr ⟨f_VM_93, List.forall_mem_cons.mpr ⟨f_VM_94, List.forall_mem_cons.mpr ⟨f_VM_95, List.forall_mem_cons.mpr ⟨f_VM_96, List.forall_mem_cons.mpr ⟨f_VM_97, List.forall_mem_cons.mpr ⟨f_VM_98, List.forall_mem_cons.mpr ⟨f_VM_99, List.forall_mem_cons.mpr ⟨f_VM_100, List.forall_mem_cons.mpr ⟨f_VM_101, List.forall_mem_cons.mpr ⟨f_VM_102, List.forall_mem_cons.mpr ⟨f_VM_103, List.forall_mem_cons.mpr ⟨f_VM_104, List.forall_mem_cons.mpr ⟨f_VM_105, List.forall_mem_cons.mpr ⟨f_VM_106, List.forall_mem_cons.mpr ⟨f_VM_107, List.forall_mem_cons.mpr ⟨f_VM_108, List.forall_mem_cons.mpr ⟨f_VM_109, List.forall_mem_cons.mpr ⟨f_VM_110, List.forall_mem_cons.mpr ⟨f_VM_111, List.forall_mem_cons.mpr ⟨f_VM_112, List.forall_mem_cons.mpr ⟨f_VM_113, List.forall_mem_cons.mpr ⟨f_VM_114, List.forall_mem_cons.mpr ⟨f_VM_115, List.forall_mem_cons.mpr ⟨f_VM_116, List.forall_mem_cons.mpr ⟨f_VM_117, List.forall_mem_cons.mpr ⟨f_VM_118, List.forall_mem_cons.mpr ⟨f_VM_119, List.forall_mem_cons.mpr ⟨f_VM_120, List.forall_mem_cons.mpr ⟨f_VM_121, List.forall_mem_cons.mpr ⟨f_VM_122, List.forall_mem_cons.mpr ⟨f_VM_123, List.forall_mem_cons.mpr ⟨f_VM_124, List.forall_mem_cons.mpr ⟨f_VM_125, List.forall_mem_cons.mpr ⟨f_VM_126, List.forall_mem_cons.mpr ⟨f_VM_127, List.forall_mem_cons.mpr ⟨f_VM_128, List.forall_mem_cons.mpr ⟨f_VM_129, List.forall_mem_cons.mpr ⟨f_VM_130, List.forall_mem_cons.mpr ⟨f_VM_131, List.forall_mem_cons.mpr ⟨f_VM_132, List.forall_mem_cons.mpr ⟨f_VM_133, List.forall_mem_cons.mpr ⟨f_VM_134, List.forall_mem_cons.mpr ⟨f_VM_135, List.forall_mem_cons.mpr ⟨f_VM_136, List.forall_mem_cons.mpr ⟨f_VM_137, List.forall_mem_cons.mpr ⟨f_VM_138, List.forall_mem_cons.mpr ⟨f_VM_139, List.forall_mem_cons.mpr ⟨f_VM_140, List.forall_mem_cons.mpr ⟨f_VM_141, List.forall_mem_cons.mpr ⟨f_VM_142, List.forall_mem_cons.mpr ⟨f_VM_143, List.forall_mem_cons.mpr ⟨f_VM_144, List.forall_mem_cons.mpr ⟨f_VM_145, List.forall_mem_cons.mpr ⟨f_VM_146, List.forall_mem_cons.mpr ⟨f_VM_147, List.forall_mem_cons.mpr ⟨f_VM_148, List.forall_mem_cons.mpr ⟨f_VM_149, List.forall_mem_cons.mpr ⟨f_VM_150, List.forall_mem_cons.mpr ⟨f_VM_151, List.forall_mem_cons.mpr ⟨f_VM_152, List.forall_mem_cons.mpr ⟨f_VM_153, List.forall_mem_cons.mpr ⟨f_VM_154, List.forall_mem_cons.mpr ⟨f_VM_155, List.forall_mem_cons.mpr ⟨f_VM_156, List.forall_mem_cons.mpr ⟨f_VM_157, List.forall_mem_cons.mpr ⟨f_VM_158, List.forall_mem_cons.mpr ⟨f_VM_159, List.forall_mem_cons.mpr ⟨f_VM_160, List.forall_mem_cons.mpr ⟨f_VM_161, List.forall_mem_cons.mpr ⟨f_VM_162, List.forall_mem_cons.mpr ⟨f_VM_163, List.forall_mem_cons.mpr ⟨f_VM_164, List.forall_mem_cons.mpr ⟨f_VM_165, List.forall_mem_cons.mpr ⟨f_VM_166, List.forall_mem_cons.mpr ⟨f_VM_167, List.forall_mem_cons.mpr ⟨f_VM_168, List.forall_mem_cons.mpr ⟨f_VM_169, List.forall_mem_cons.mpr ⟨f_VM_170, List.forall_mem_cons.mpr ⟨f_VM_171, List.forall_mem_cons.mpr ⟨f_VM_172, List.forall_mem_cons.mpr ⟨f_VM_173, List.forall_mem_cons.mpr ⟨f_VM_174, List.forall_mem_cons.mpr ⟨f_VM_175, List.forall_mem_cons.mpr ⟨f_VM_176, List.forall_mem_cons.mpr ⟨f_VM_177, List.forall_mem_cons.mpr ⟨f_VM_178, List.forall_mem_cons.mpr ⟨f_VM_179, List.forall_mem_cons.mpr ⟨f_VM_180, List.forall_mem_cons.mpr ⟨f_VM_181, List.forall_mem_cons.mpr ⟨f_VM_182, List.forall_mem_cons.mpr ⟨f_VM_183, List.forall_mem_cons.mpr ⟨f_VM_184, List.forall_mem_cons.mpr ⟨f_VM_185, List.forall_mem_cons.mpr ⟨f_VM_186, List.forall_mem_cons.mpr ⟨f_VM_187, List.forall_mem_cons.mpr ⟨f_VM_188, List.forall_mem_cons.mpr ⟨f_VM_189, List.forall_mem_cons.mpr ⟨f_VM_190, List.forall_mem_cons.mpr ⟨f_VM_191, List.forall_mem_cons.mpr ⟨f_VM_192, List.forall_mem_cons.mpr ⟨f_VM_193, List.forall_mem_cons.mpr ⟨f_VM_194, List.forall_mem_cons.mpr ⟨f_VM_195, List.forall_mem_cons.mpr ⟨f_VM_196, List.forall_mem_cons.mpr ⟨f_VM_197, List.forall_mem_cons.mpr ⟨f_VM_198, List.forall_mem_cons.mpr ⟨f_VM_199, List.forall_mem_cons.mpr ⟨f_VM_200, List.forall_mem_cons.mpr ⟨f_VM_201, List.forall_mem_cons.mpr ⟨f_VM_202, List.forall_mem_cons.mpr ⟨f_VM_203, List.forall_mem_cons.mpr ⟨f_VM_204, List.forall_mem_cons.mpr ⟨f_VM_205, List.forall_mem_cons.mpr ⟨f_VM_206, List.forall_mem_cons.mpr ⟨f_VM_207, List.forall_mem_cons.mpr ⟨f_VM_208, List.forall_mem_cons.mpr ⟨f_VM_209, VM_ok_nil⟩⟩⟩⟩⟩⟩⟩⟩⟩⟩⟩⟩⟩⟩⟩⟩⟩⟩⟩⟩⟩⟩⟩⟩⟩⟩⟩⟩⟩⟩⟩⟩⟩⟩⟩⟩⟩⟩⟩⟩⟩⟩⟩⟩⟩⟩⟩⟩⟩⟩⟩⟩⟩⟩⟩⟩⟩⟩⟩⟩⟩⟩⟩⟩⟩⟩⟩⟩⟩⟩⟩⟩⟩⟩⟩⟩⟩⟩⟩⟩⟩⟩⟩⟩⟩⟩⟩⟩⟩⟩⟩⟩⟩⟩⟩⟩⟩⟩⟩⟩⟩⟩⟩⟩⟩⟩⟩⟩⟩⟩⟩⟩⟩⟩⟩⟩⟩⟩⟩⟩⟩⟩⟩⟩⟩⟩⟩⟩⟩⟩⟩⟩⟩⟩⟩⟩⟩⟩⟩⟩⟩⟩⟩⟩⟩⟩⟩⟩⟩⟩⟩⟩⟩⟩⟩⟩⟩⟩⟩⟩⟩⟩⟩⟩⟩⟩⟩⟩⟩⟩⟩⟩⟩⟩⟩⟩⟩⟩⟩⟩⟩⟩⟩⟩⟩⟩⟩⟩⟩⟩⟩⟩⟩⟩⟩⟩⟩⟩⟩⟩⟩⟩⟩⟩⟩⟩⟩⟩⟩⟩
theorem f_IM_0 : wI 55 ∈ W0 ∧ (mN (callee 55)).name = "<init>" := ⟨in_W0 (in_t1 58 rfl) rfl, rfl⟩
theorem f_IM_1 : wI 68 ∈ W0 ∧ (mN (callee 68)).name = "<init>" := ⟨in_W0 (in_t1 29 rfl) rfl, rfl⟩
theorem f_IM_2 : wI 17 ∈ W0 ∧ (mN (callee 17)).name = "<init>" := ⟨in_W0 (in_t1 49 rfl) rfl, rfl⟩
theorem f_IM_3 : wI 32 ∈ W0 ∧ (mN (callee 32)).name = "<init>" := ⟨in_W0 (in_t1 176 rfl) rfl, rfl⟩
theorem f_IM_4 : wI 46 ∈ W0 ∧ (mN (callee 46)).name = "<init>" := ⟨in_W0 (in_t1 206 rfl) rfl, rfl⟩
theorem f_IM_5 : wI 5 ∈ W0 ∧ (mN (callee 5)).name = "<init>" := ⟨in_W0 (in_t1 228 rfl) rfl, rfl⟩
theorem f_IM_6 : wI 77 ∈ W0 ∧ (mN (callee 77)).name = "<init>" := ⟨in_W0 (in_t2 7 rfl) rfl, rfl⟩
theorem f_IM_7 : wI 38 ∈ W0 ∧ (mN (callee 38)).name = "<init>" := ⟨in_W0 (in_t2 27 rfl) rfl, rfl⟩
theorem f_IM_8 : wI 11 ∈ W0 ∧ (mN (callee 11)).name = "<init>" := ⟨in_W0 (in_t2 68 rfl) rfl, rfl⟩
theorem f_IM_9 : wI 0 ∈ W0 ∧ (mN (callee 0)).name = "<init>" := ⟨in_W0 (in_t2 99 rfl) rfl, rfl⟩
theorem f_IM_10 : wI 63 ∈ W0 ∧ (mN (callee 63)).name = "<init>" := ⟨in_W0 (in_t2 121 rfl) rfl, rfl⟩
theorem f_IM_11 : wI 85 ∈ W0 ∧ (mN (callee 85)).name = "<init>" := ⟨in_W0 (in_t1 21 rfl) rfl, rfl⟩
theorem f_IM_12 : wI 147 ∈ W0 ∧ (mN (callee 147)).name = "<init>" := ⟨in_W0 (in_t5 77 rfl) rfl, rfl⟩
theorem IM_ok_nil : ∀ q ∈ ([] : List Nat), wI q ∈ W0 ∧ (mN (callee q)).name = "<init>" := fun _ h => absurd h List.not_mem_nil
set_option maxRecDepth 100000 in
theorem IM_ok : ∀ q ∈ LIM, wI q ∈ W0 ∧ (mN (callee q)).name = "<init>" := List.forall_mem_cons.mpr ⟨f_IM_0, List.forall_mem_cons.mpr ⟨f_IM_1, List.forall_mem_cons.mpr ⟨f_IM_2, List.forall_mem_cons.mpr ⟨f_IM_3, List.forall_mem_cons.mpr ⟨f_IM_4, List.forall_mem_cons.mpr ⟨f_IM_5, List.forall_mem_cons.mpr ⟨f_IM_6, List.forall_mem_cons.mpr ⟨f_IM_7, List.forall_mem_cons.mpr ⟨f_IM_8, List.forall_mem_cons.mpr ⟨f_IM_9, List.forall_mem_cons.mpr ⟨f_IM_10, List.forall_mem_cons.mpr ⟨f_IM_11, List.forall_mem_cons.mpr ⟨f_IM_12, IM_ok_nil⟩⟩⟩⟩⟩⟩⟩⟩⟩⟩⟩⟩⟩
theorem f_NM_0 : ∃ host, (ownNm 2, 48, mN (callee 146), host) ∈ nestM := ⟨"TakenInTurns", List.mem_of_getElem? (i := 14) rfl⟩
theorem f_NM_1 : ∃ host, (ownNm 3, 38, mN (callee 55), host) ∈ nestM := ⟨"TakenInTurns", List.mem_of_getElem? (i := 1) rfl⟩
theorem f_NM_2 : ∃ host, (ownNm 5, 76, mN (callee 142), host) ∈ nestM := ⟨"TakenInTurns", List.mem_of_getElem? (i := 13) rfl⟩
theorem f_NM_3 : ∃ host, (ownNm 7, 38, mN (callee 143), host) ∈ nestM := ⟨"TakenInTurns", List.mem_of_getElem? (i := 11) rfl⟩
theorem f_NM_4 : ∃ host, (ownNm 7, 53, mN (callee 144), host) ∈ nestM := ⟨"TakenInTurns", List.mem_of_getElem? (i := 12) rfl⟩
theorem f_NM_5 : ∃ host, (ownNm 9, 58, mN (callee 127), host) ∈ nestM := ⟨"TakenInTurns", List.mem_of_getElem? (i := 10) rfl⟩
theorem f_NM_6 : ∃ host, (ownNm 11, 11, mN (callee 68), host) ∈ nestM := ⟨"TakenInTurns", List.mem_of_getElem? (i := 0) rfl⟩
theorem f_NM_7 : ∃ host, (ownNm 11, 33, mN (callee 32), host) ∈ nestM := ⟨"TakenInTurns", List.mem_of_getElem? (i := 2) rfl⟩
theorem f_NM_8 : ∃ host, (ownNm 11, 40, mN (callee 46), host) ∈ nestM := ⟨"TakenInTurns", List.mem_of_getElem? (i := 3) rfl⟩
theorem f_NM_9 : ∃ host, (ownNm 11, 60, mN (callee 5), host) ∈ nestM := ⟨"TakenInTurns", List.mem_of_getElem? (i := 4) rfl⟩
theorem f_NM_10 : ∃ host, (ownNm 11, 67, mN (callee 77), host) ∈ nestM := ⟨"TakenInTurns", List.mem_of_getElem? (i := 5) rfl⟩
theorem f_NM_11 : ∃ host, (ownNm 11, 74, mN (callee 38), host) ∈ nestM := ⟨"TakenInTurns", List.mem_of_getElem? (i := 6) rfl⟩
theorem f_NM_12 : ∃ host, (ownNm 11, 81, mN (callee 11), host) ∈ nestM := ⟨"TakenInTurns", List.mem_of_getElem? (i := 7) rfl⟩
theorem f_NM_13 : ∃ host, (ownNm 11, 88, mN (callee 0), host) ∈ nestM := ⟨"TakenInTurns", List.mem_of_getElem? (i := 8) rfl⟩
theorem f_NM_14 : ∃ host, (ownNm 11, 99, mN (callee 63), host) ∈ nestM := ⟨"TakenInTurns", List.mem_of_getElem? (i := 9) rfl⟩
theorem NM_ok_nil : ∀ q ∈ ([] : List (Nat × Nat × Nat)), ∃ host, (ownNm q.1, q.2.1, mN (callee q.2.2), host) ∈ nestM := fun _ h => absurd h List.not_mem_nil
set_option maxRecDepth 100000 in
theorem NM_ok : ∀ q ∈ LNM, ∃ host, (ownNm q.1, q.2.1, mN (callee q.2.2), host) ∈ nestM := List.forall_mem_cons.mpr ⟨f_NM_0, List.forall_mem_cons.mpr ⟨f_NM_1, List.forall_mem_cons.mpr ⟨f_NM_2, List.forall_mem_cons.mpr ⟨f_NM_3, List.forall_mem_cons.mpr ⟨f_NM_4, List.forall_mem_cons.mpr ⟨f_NM_5, List.forall_mem_cons.mpr ⟨f_NM_6, List.forall_mem_cons.mpr ⟨f_NM_7, List.forall_mem_cons.mpr ⟨f_NM_8, List.forall_mem_cons.mpr ⟨f_NM_9, List.forall_mem_cons.mpr ⟨f_NM_10, List.forall_mem_cons.mpr ⟨f_NM_11, List.forall_mem_cons.mpr ⟨f_NM_12, List.forall_mem_cons.mpr ⟨f_NM_13, List.forall_mem_cons.mpr ⟨f_NM_14, NM_ok_nil⟩⟩⟩⟩⟩⟩⟩⟩⟩⟩⟩⟩⟩⟩⟩
theorem wAC_copy {own c : Nat} (h : c < 1000) : wAC (own, c) = .methodLink (ownNm own) c arraycopyName := if_pos h
theorem own_ne : ∀ k, k < 16 → ownNm k ≠ "java/lang/invoke/MethodHandle" ∧ ownNm k ≠ "java/lang/invoke/VarHandle" := by decide +kernel
theorem own_pl : ∀ k, k < 16 → ¬ k = 15 → plainName (ownNm k) = true := by decide +kernel
theorem own_cls : ∀ k, k < 13 → ownNm k = (clsOf k).1 := by decide +kernel
theorem fld_own : ∀ a, a < 13 → ∀ b, b < (clsOf a).2.2 → ((clsOf a).2.1 b).1 = ownNm a := by decide +kernel
theorem ini_0 : Jvm.Cond.initialized (ownNm 0) ∈ W0 := in_W0 (in_t1 11 rfl) rfl
theorem ini_1 : Jvm.Cond.initialized (ownNm 1) ∈ W0 := in_W0 (in_t1 7 rfl) rfl
theorem ini_2 : Jvm.Cond.initialized (ownNm 2) ∈ W0 := in_W0 (in_t1 10 rfl) rfl
theorem ini_3 : Jvm.Cond.initialized (ownNm 3) ∈ W0 := in_W0 (in_t1 3 rfl) rfl
theorem ini_4 : Jvm.Cond.initialized (ownNm 4) ∈ W0 := in_W0 (in_t1 5 rfl) rfl
theorem ini_5 : Jvm.Cond.initialized (ownNm 5) ∈ W0 := in_W0 (in_t1 9 rfl) rfl
theorem ini_6 : Jvm.Cond.initialized (ownNm 6) ∈ W0 := in_W0 (in_t1 6 rfl) rfl
theorem ini_7 : Jvm.Cond.initialized (ownNm 7) ∈ W0 := in_W0 (in_t1 4 rfl) rfl
theorem ini_8 : Jvm.Cond.initialized (ownNm 8) ∈ W0 := in_W0 (in_t1 12 rfl) rfl
theorem ini_9 : Jvm.Cond.initialized (ownNm 9) ∈ W0 := in_W0 (in_t1 2 rfl) rfl
theorem ini_10 : Jvm.Cond.initialized (ownNm 10) ∈ W0 := in_W0 (in_t1 8 rfl) rfl
theorem ini_11 : Jvm.Cond.initialized (ownNm 11) ∈ W0 := in_W0 (in_t1 1 rfl) rfl
theorem ini_12 : Jvm.Cond.initialized (ownNm 12) ∈ W0 := in_W0 (in_t1 13 rfl) rfl
theorem ini_13 : Jvm.Cond.initialized (ownNm 13) ∈ W0 := in_W0 (in_t1 17 rfl) rfl
theorem ini_14 : Jvm.Cond.initialized (ownNm 14) ∈ W0 := in_W0 (in_t1 14 rfl) rfl
theorem ini_15 : Jvm.Cond.initialized (ownNm 15) ∈ W0 := in_W0 (in_t1 16 rfl) rfl
theorem ok_of {M : MI} (k : Nat) (hk : k < 16 ∧ ¬ k = 15) (hc : (mN M).cls = ownNm k) (hi : Jvm.Cond.initialized (ownNm k) ∈ W0) (h1 : Jvm.Cond.code (mN M) (mC M) (mL M) (mR M) ∈ W0) (h2 : mL M ≤ 45) (h6 : retOk (mR M) = true) (h7 : (parseMethodDescriptor (mN M).desc).map (fun z => z.parameters.length) = some (mA M)) (h8 : mO M = ownNm k) : okM M := ⟨h1, h2, by rw [hc]; exact own_ne k hk.1, by rw [hc]; exact own_pl k hk.1 hk.2, by rw [hc]; exact hi, h6, h7, by rw [hc, h8]⟩
theorem pd_0 : (parseMethodDescriptor "()V").map (fun z => z.parameters.length) = some 0 := by decide +kernel
theorem pd_1 : (parseMethodDescriptor "(IIII)I").map (fun z => z.parameters.length) = some 4 := by decide +kernel
theorem pd_2 : (parseMethodDescriptor "(I)V").map (fun z => z.parameters.length) = some 1 := by decide +kernel
theorem pd_3 : (parseMethodDescriptor "(LTakenInTurns$Acts;IIII)I").map (fun z => z.parameters.length) = some 5 := by decide +kernel
theorem pd_4 : (parseMethodDescriptor "(LTakenInTurns$Giving;LTakenInTurns$Shares;)V").map (fun z => z.parameters.length) = some 2 := by decide +kernel
theorem pd_5 : (parseMethodDescriptor "(LTakenInTurns$Giving;)Z").map (fun z => z.parameters.length) = some 1 := by decide +kernel
theorem pd_6 : (parseMethodDescriptor "(LTakenInTurns$Giving;LTakenInTurns$Shares;)I").map (fun z => z.parameters.length) = some 2 := by decide +kernel
theorem pd_7 : (parseMethodDescriptor "(LTakenInTurns$Shares;J)V").map (fun z => z.parameters.length) = some 2 := by decide +kernel
theorem pd_8 : (parseMethodDescriptor "(LTakenInTurns$Giving;LTakenInTurns$Shares;J)V").map (fun z => z.parameters.length) = some 3 := by decide +kernel
theorem pd_9 : (parseMethodDescriptor "(I)Z").map (fun z => z.parameters.length) = some 1 := by decide +kernel
theorem pd_10 : (parseMethodDescriptor "(II)V").map (fun z => z.parameters.length) = some 2 := by decide +kernel
theorem pd_11 : (parseMethodDescriptor "(ILTakenInTurns$Giving;LTakenInTurns$Hand;)V").map (fun z => z.parameters.length) = some 3 := by decide +kernel
theorem pd_12 : (parseMethodDescriptor "(I)I").map (fun z => z.parameters.length) = some 1 := by decide +kernel
theorem pd_13 : (parseMethodDescriptor "(II)I").map (fun z => z.parameters.length) = some 2 := by decide +kernel
theorem pd_14 : (parseMethodDescriptor "(J)Z").map (fun z => z.parameters.length) = some 1 := by decide +kernel
theorem pd_15 : (parseMethodDescriptor "(LTakenInTurns$Giving;)V").map (fun z => z.parameters.length) = some 1 := by decide +kernel
theorem pd_16 : (parseMethodDescriptor "(III)V").map (fun z => z.parameters.length) = some 3 := by decide +kernel
theorem pd_17 : (parseMethodDescriptor "(ILTakenInTurns$Giving;[I)V").map (fun z => z.parameters.length) = some 3 := by decide +kernel
theorem pd_18 : (parseMethodDescriptor "()I").map (fun z => z.parameters.length) = some 0 := by decide +kernel
theorem pd_19 : (parseMethodDescriptor "()Z").map (fun z => z.parameters.length) = some 0 := by decide +kernel
theorem pd_20 : (parseMethodDescriptor "(LTakenInTurns$Giving;[IZ)V").map (fun z => z.parameters.length) = some 3 := by decide +kernel
theorem pd_21 : (parseMethodDescriptor "(LTakenInTurns$Giving;II)V").map (fun z => z.parameters.length) = some 3 := by decide +kernel
theorem pd_22 : (parseMethodDescriptor "(LTakenInTurns$Giving;I)I").map (fun z => z.parameters.length) = some 2 := by decide +kernel
theorem pd_23 : (parseMethodDescriptor "(LTakenInTurns$Giving;)I").map (fun z => z.parameters.length) = some 1 := by decide +kernel
theorem pd_24 : (parseMethodDescriptor "(LTakenInTurns$Giving;I)V").map (fun z => z.parameters.length) = some 2 := by decide +kernel
theorem pd_25 : (parseMethodDescriptor "(LTakenInTurns$Giving;I)Z").map (fun z => z.parameters.length) = some 2 := by decide +kernel
theorem pd_26 : (parseMethodDescriptor "(LTakenInTurns$Giving;LTakenInTurns$Hand;)V").map (fun z => z.parameters.length) = some 2 := by decide +kernel
theorem pd_27 : (parseMethodDescriptor "(LTakenInTurns$Giving;LTakenInTurns$Hand;)Z").map (fun z => z.parameters.length) = some 2 := by decide +kernel
theorem pd_28 : (parseMethodDescriptor "(LTakenInTurns$Giving;LTakenInTurns$Hand;II)Z").map (fun z => z.parameters.length) = some 4 := by decide +kernel
theorem pd_29 : (parseMethodDescriptor "(LTakenInTurns$Giving;III)Z").map (fun z => z.parameters.length) = some 4 := by decide +kernel
theorem pd_30 : (parseMethodDescriptor "(LTakenInTurns$Rings;LTakenInTurns$Giving;LTakenInTurns$Hand;II)Z").map (fun z => z.parameters.length) = some 5 := by decide +kernel
theorem pd_31 : (parseMethodDescriptor "([III)Z").map (fun z => z.parameters.length) = some 3 := by decide +kernel
theorem pd_32 : (parseMethodDescriptor "(LTakenInTurns$Giving;LTakenInTurns$Hand;[IZ)V").map (fun z => z.parameters.length) = some 4 := by decide +kernel
theorem pd_33 : (parseMethodDescriptor "(LTakenInTurns$Giving;I)J").map (fun z => z.parameters.length) = some 2 := by decide +kernel
theorem pd_34 : (parseMethodDescriptor "(IIJ)J").map (fun z => z.parameters.length) = some 3 := by decide +kernel
theorem pd_35 : (parseMethodDescriptor "(JJ)Z").map (fun z => z.parameters.length) = some 2 := by decide +kernel
theorem pd_36 : (parseMethodDescriptor "(IJ)V").map (fun z => z.parameters.length) = some 2 := by decide +kernel
theorem pd_37 : (parseMethodDescriptor "(LTakenInTurns$Giving;II)I").map (fun z => z.parameters.length) = some 3 := by decide +kernel
theorem pd_38 : (parseMethodDescriptor "(III)I").map (fun z => z.parameters.length) = some 3 := by decide +kernel
theorem pd_39 : (parseMethodDescriptor "(IIII)J").map (fun z => z.parameters.length) = some 4 := by decide +kernel
theorem pd_40 : (parseMethodDescriptor "(IIJ)I").map (fun z => z.parameters.length) = some 3 := by decide +kernel
theorem pd_41 : (parseMethodDescriptor "(II)J").map (fun z => z.parameters.length) = some 2 := by decide +kernel
theorem pd_42 : (parseMethodDescriptor "(IIIII)I").map (fun z => z.parameters.length) = some 5 := by decide +kernel
theorem pd_43 : (parseMethodDescriptor "(II)Z").map (fun z => z.parameters.length) = some 2 := by decide +kernel
theorem pd_44 : (parseMethodDescriptor "(LTakenInTurns$Giving;I)LTakenInTurns$Shares;").map (fun z => z.parameters.length) = some 2 := by decide +kernel
theorem pd_45 : (parseMethodDescriptor "(LTakenInTurns$Giving;ILTakenInTurns$Shares;ILTakenInTurns$Shares;I)I").map (fun z => z.parameters.length) = some 6 := by decide +kernel
theorem pd_46 : (parseMethodDescriptor "(III[I)Z").map (fun z => z.parameters.length) = some 4 := by decide +kernel
theorem pd_47 : (parseMethodDescriptor "([III)I").map (fun z => z.parameters.length) = some 3 := by decide +kernel
theorem pd_48 : (parseMethodDescriptor "([II)V").map (fun z => z.parameters.length) = some 2 := by decide +kernel
theorem pd_49 : (parseMethodDescriptor "([II)Z").map (fun z => z.parameters.length) = some 2 := by decide +kernel
theorem pd_50 : (parseMethodDescriptor "([III)V").map (fun z => z.parameters.length) = some 3 := by decide +kernel
theorem pd_51 : (parseMethodDescriptor "(JJ)J").map (fun z => z.parameters.length) = some 2 := by decide +kernel
theorem pd_52 : (parseMethodDescriptor "(III)Z").map (fun z => z.parameters.length) = some 3 := by decide +kernel
theorem pd_53 : (parseMethodDescriptor "(IZ)V").map (fun z => z.parameters.length) = some 2 := by decide +kernel
theorem pd_54 : (parseMethodDescriptor "(IJJ)V").map (fun z => z.parameters.length) = some 3 := by decide +kernel
theorem pd_55 : (parseMethodDescriptor "(JJJJ)V").map (fun z => z.parameters.length) = some 4 := by decide +kernel
theorem pd_56 : (parseMethodDescriptor "(IIIIII)I").map (fun z => z.parameters.length) = some 6 := by decide +kernel
theorem pd_57 : (parseMethodDescriptor "([JJ)V").map (fun z => z.parameters.length) = some 2 := by decide +kernel
theorem pd_58 : (parseMethodDescriptor "(J)J").map (fun z => z.parameters.length) = some 1 := by decide +kernel
theorem pd_59 : (parseMethodDescriptor "([I)Z").map (fun z => z.parameters.length) = some 1 := by decide +kernel
theorem ok_Acts_init : okM i_Acts_init := ok_of 0 (by decide) rfl ini_0 (in_W0 (in_t2 100 rfl) rfl) (Nat.le_of_ble_eq_true rfl) rfl pd_0 rfl
theorem ok_Acts_clear : okM i_Acts_clear := ok_of 0 (by decide) rfl ini_0 (in_W0 (in_t5 3 rfl) rfl) (Nat.le_of_ble_eq_true rfl) rfl pd_0 rfl
theorem ok_Acts_perform : okM i_Acts_perform := ok_of 0 (by decide) rfl ini_0 (in_W0 (in_t5 7 rfl) rfl) (Nat.le_of_ble_eq_true rfl) rfl pd_1 rfl
theorem ok_Acts_note : okM i_Acts_note := ok_of 0 (by decide) rfl ini_0 (in_W0 (in_t5 18 rfl) rfl) (Nat.le_of_ble_eq_true rfl) rfl pd_2 rfl
theorem ok_Acts_begin : okM i_Acts_begin := ok_of 0 (by decide) rfl ini_0 (in_W0 (in_t5 10 rfl) rfl) (Nat.le_of_ble_eq_true rfl) rfl pd_3 rfl
theorem ok_Eating_init : okM i_Eating_init := ok_of 1 (by decide) rfl ini_1 (in_W0 (in_t1 229 rfl) rfl) (Nat.le_of_ble_eq_true rfl) rfl pd_0 rfl
theorem ok_Eating_eat : okM i_Eating_eat := ok_of 1 (by decide) rfl ini_1 (in_W0 (in_t3 195 rfl) rfl) (Nat.le_of_ble_eq_true rfl) rfl pd_4 rfl
theorem ok_Eating_choose : okM i_Eating_choose := ok_of 1 (by decide) rfl ini_1 (in_W0 (in_t3 199 rfl) rfl) (Nat.le_of_ble_eq_true rfl) rfl pd_5 rfl
theorem ok_Eating_nextEaten : okM i_Eating_nextEaten := ok_of 1 (by decide) rfl ini_1 (in_W0 (in_t3 204 rfl) rfl) (Nat.le_of_ble_eq_true rfl) rfl pd_6 rfl
theorem ok_Eating_widen : okM i_Eating_widen := ok_of 1 (by decide) rfl ini_1 (in_W0 (in_t3 212 rfl) rfl) (Nat.le_of_ble_eq_true rfl) rfl pd_7 rfl
theorem ok_Eating_pass : okM i_Eating_pass := ok_of 1 (by decide) rfl ini_1 (in_W0 (in_t3 216 rfl) rfl) (Nat.le_of_ble_eq_true rfl) rfl pd_8 rfl
theorem ok_Evens_init : okM i_Evens_init := ok_of 2 (by decide) rfl ini_2 (in_W0 (in_t2 69 rfl) rfl) (Nat.le_of_ble_eq_true rfl) rfl pd_0 rfl
theorem ok_Evens_isTold : okM i_Evens_isTold := ok_of 2 (by decide) rfl ini_2 (in_W0 (in_t4 171 rfl) rfl) (Nat.le_of_ble_eq_true rfl) rfl pd_9 rfl
theorem ok_Evens_add : okM i_Evens_add := ok_of 2 (by decide) rfl ini_2 (in_W0 (in_t4 175 rfl) rfl) (Nat.le_of_ble_eq_true rfl) rfl pd_10 rfl
theorem ok_Evens_keepPoints : okM i_Evens_keepPoints := ok_of 2 (by decide) rfl ini_2 (in_W0 (in_t4 183 rfl) rfl) (Nat.le_of_ble_eq_true rfl) rfl pd_11 rfl
theorem ok_Evens_choose : okM i_Evens_choose := ok_of 2 (by decide) rfl ini_2 (in_W0 (in_t4 191 rfl) rfl) (Nat.le_of_ble_eq_true rfl) rfl pd_12 rfl
theorem ok_Evens_leastOf : okM i_Evens_leastOf := ok_of 2 (by decide) rfl ini_2 (in_W0 (in_t4 195 rfl) rfl) (Nat.le_of_ble_eq_true rfl) rfl pd_13 rfl
theorem ok_Giving_init : okM i_Giving_init := ok_of 3 (by decide) rfl ini_3 (in_W0 (in_t1 50 rfl) rfl) (Nat.le_of_ble_eq_true rfl) rfl pd_0 rfl
theorem ok_Giving_isPart : okM i_Giving_isPart := ok_of 3 (by decide) rfl ini_3 (in_W0 (in_t4 101 rfl) rfl) (Nat.le_of_ble_eq_true rfl) rfl pd_14 rfl
theorem ok_Giving_clear : okM i_Giving_clear := ok_of 3 (by decide) rfl ini_3 (in_W0 (in_t2 221 rfl) rfl) (Nat.le_of_ble_eq_true rfl) rfl pd_0 rfl
theorem ok_Giving_become : okM i_Giving_become := ok_of 3 (by decide) rfl ini_3 (in_W0 (in_t3 65 rfl) rfl) (Nat.le_of_ble_eq_true rfl) rfl pd_15 rfl
theorem ok_Giving_forgetAll : okM i_Giving_forgetAll := ok_of 3 (by decide) rfl ini_3 (in_W0 (in_t2 228 rfl) rfl) (Nat.le_of_ble_eq_true rfl) rfl pd_0 rfl
theorem ok_Giving_unlist : okM i_Giving_unlist := ok_of 3 (by decide) rfl ini_3 (in_W0 (in_t3 8 rfl) rfl) (Nat.le_of_ble_eq_true rfl) rfl pd_2 rfl
theorem ok_Giving_append : okM i_Giving_append := ok_of 3 (by decide) rfl ini_3 (in_W0 (in_t3 23 rfl) rfl) (Nat.le_of_ble_eq_true rfl) rfl pd_16 rfl
theorem ok_Giving_relist : okM i_Giving_relist := ok_of 3 (by decide) rfl ini_3 (in_W0 (in_t4 63 rfl) rfl) (Nat.le_of_ble_eq_true rfl) rfl pd_17 rfl
theorem ok_Giving_heldOf : okM i_Giving_heldOf := ok_of 3 (by decide) rfl ini_3 (in_W0 (in_t3 19 rfl) rfl) (Nat.le_of_ble_eq_true rfl) rfl pd_12 rfl
theorem ok_Giving_firstOf : okM i_Giving_firstOf := ok_of 3 (by decide) rfl ini_3 (in_W0 (in_t3 57 rfl) rfl) (Nat.le_of_ble_eq_true rfl) rfl pd_13 rfl
theorem ok_Giving_partsOfPerson : okM i_Giving_partsOfPerson := ok_of 3 (by decide) rfl ini_3 (in_W0 (in_t4 114 rfl) rfl) (Nat.le_of_ble_eq_true rfl) rfl pd_12 rfl
theorem ok_Giving_partsOfThing : okM i_Giving_partsOfThing := ok_of 3 (by decide) rfl ini_3 (in_W0 (in_t4 122 rfl) rfl) (Nat.le_of_ble_eq_true rfl) rfl pd_12 rfl
theorem ok_Giving_barring : okM i_Giving_barring := ok_of 3 (by decide) rfl ini_3 (in_W0 (in_t4 110 rfl) rfl) (Nat.le_of_ble_eq_true rfl) rfl pd_18 rfl
theorem ok_Giving_hasUnlisted : okM i_Giving_hasUnlisted := ok_of 3 (by decide) rfl ini_3 (in_W0 (in_t4 118 rfl) rfl) (Nat.le_of_ble_eq_true rfl) rfl pd_9 rfl
theorem ok_Giving_canBeParted : okM i_Giving_canBeParted := ok_of 3 (by decide) rfl ini_3 (in_W0 (in_t4 130 rfl) rfl) (Nat.le_of_ble_eq_true rfl) rfl pd_19 rfl
theorem ok_Hand_init : okM i_Hand_init := ok_of 4 (by decide) rfl ini_4 (in_W0 (in_t1 177 rfl) rfl) (Nat.le_of_ble_eq_true rfl) rfl pd_0 rfl
theorem ok_Hand_deal : okM i_Hand_deal := ok_of 4 (by decide) rfl ini_4 (in_W0 (in_t3 87 rfl) rfl) (Nat.le_of_ble_eq_true rfl) rfl pd_20 rfl
theorem ok_Hand_take : okM i_Hand_take := ok_of 4 (by decide) rfl ini_4 (in_W0 (in_t3 93 rfl) rfl) (Nat.le_of_ble_eq_true rfl) rfl pd_21 rfl
theorem ok_Hand_countOf : okM i_Hand_countOf := ok_of 4 (by decide) rfl ini_4 (in_W0 (in_t3 106 rfl) rfl) (Nat.le_of_ble_eq_true rfl) rfl pd_13 rfl
theorem ok_Hand_pointsOf : okM i_Hand_pointsOf := ok_of 4 (by decide) rfl ini_4 (in_W0 (in_t4 187 rfl) rfl) (Nat.le_of_ble_eq_true rfl) rfl pd_22 rfl
theorem ok_Hand_gapOf : okM i_Hand_gapOf := ok_of 4 (by decide) rfl ini_4 (in_W0 (in_t4 221 rfl) rfl) (Nat.le_of_ble_eq_true rfl) rfl pd_23 rfl
theorem ok_Parting_init : okM i_Parting_init := ok_of 5 (by decide) rfl ini_5 (in_W0 (in_t2 28 rfl) rfl) (Nat.le_of_ble_eq_true rfl) rfl pd_0 rfl
theorem ok_Parting_forget : okM i_Parting_forget := ok_of 5 (by decide) rfl ini_5 (in_W0 (in_t4 87 rfl) rfl) (Nat.le_of_ble_eq_true rfl) rfl pd_0 rfl
theorem ok_Parting_split : okM i_Parting_split := ok_of 5 (by decide) rfl ini_5 (in_W0 (in_t4 135 rfl) rfl) (Nat.le_of_ble_eq_true rfl) rfl pd_15 rfl
theorem ok_Parting_measure : okM i_Parting_measure := ok_of 5 (by decide) rfl ini_5 (in_W0 (in_t4 140 rfl) rfl) (Nat.le_of_ble_eq_true rfl) rfl pd_24 rfl
theorem ok_Parting_pickFirst : okM i_Parting_pickFirst := ok_of 5 (by decide) rfl ini_5 (in_W0 (in_t4 147 rfl) rfl) (Nat.le_of_ble_eq_true rfl) rfl pd_5 rfl
theorem ok_Parting_pickFor : okM i_Parting_pickFor := ok_of 5 (by decide) rfl ini_5 (in_W0 (in_t4 151 rfl) rfl) (Nat.le_of_ble_eq_true rfl) rfl pd_25 rfl
theorem ok_Parting_canGoOn : okM i_Parting_canGoOn := ok_of 5 (by decide) rfl ini_5 (in_W0 (in_t4 155 rfl) rfl) (Nat.le_of_ble_eq_true rfl) rfl pd_25 rfl
theorem ok_Parting_mostOff : okM i_Parting_mostOff := ok_of 5 (by decide) rfl ini_5 (in_W0 (in_t4 159 rfl) rfl) (Nat.le_of_ble_eq_true rfl) rfl pd_23 rfl
theorem ok_Rings_init : okM i_Rings_init := ok_of 6 (by decide) rfl ini_6 (in_W0 (in_t1 207 rfl) rfl) (Nat.le_of_ble_eq_true rfl) rfl pd_0 rfl
theorem ok_Rings_forget : okM i_Rings_forget := ok_of 6 (by decide) rfl ini_6 (in_W0 (in_t3 98 rfl) rfl) (Nat.le_of_ble_eq_true rfl) rfl pd_0 rfl
theorem ok_Rings_find : okM i_Rings_find := ok_of 6 (by decide) rfl ini_6 (in_W0 (in_t3 125 rfl) rfl) (Nat.le_of_ble_eq_true rfl) rfl pd_26 rfl
theorem ok_Rings_findAlone : okM i_Rings_findAlone := ok_of 6 (by decide) rfl ini_6 (in_W0 (in_t3 129 rfl) rfl) (Nat.le_of_ble_eq_true rfl) rfl pd_27 rfl
theorem ok_Rings_findLeft : okM i_Rings_findLeft := ok_of 6 (by decide) rfl ini_6 (in_W0 (in_t3 133 rfl) rfl) (Nat.le_of_ble_eq_true rfl) rfl pd_28 rfl
theorem ok_Rings_isBetter : okM i_Rings_isBetter := ok_of 6 (by decide) rfl ini_6 (in_W0 (in_t3 136 rfl) rfl) (Nat.le_of_ble_eq_true rfl) rfl pd_29 rfl
theorem ok_Rings_addPerson : okM i_Rings_addPerson := ok_of 6 (by decide) rfl ini_6 (in_W0 (in_t3 139 rfl) rfl) (Nat.le_of_ble_eq_true rfl) rfl pd_30 rfl
theorem ok_Rings_isAmong : okM i_Rings_isAmong := ok_of 6 (by decide) rfl ini_6 (in_W0 (in_t3 145 rfl) rfl) (Nat.le_of_ble_eq_true rfl) rfl pd_31 rfl
theorem ok_Rings_addThing : okM i_Rings_addThing := ok_of 6 (by decide) rfl ini_6 (in_W0 (in_t3 142 rfl) rfl) (Nat.le_of_ble_eq_true rfl) rfl pd_30 rfl
theorem ok_Shares_init : okM i_Shares_init := ok_of 7 (by decide) rfl ini_7 (in_W0 (in_t1 59 rfl) rfl) (Nat.le_of_ble_eq_true rfl) rfl pd_0 rfl
theorem ok_Shares_clear : okM i_Shares_clear := ok_of 7 (by decide) rfl ini_7 (in_W0 (in_t3 169 rfl) rfl) (Nat.le_of_ble_eq_true rfl) rfl pd_0 rfl
theorem ok_Shares_addOrders : okM i_Shares_addOrders := ok_of 7 (by decide) rfl ini_7 (in_W0 (in_t3 176 rfl) rfl) (Nat.le_of_ble_eq_true rfl) rfl pd_32 rfl
theorem ok_Shares_addHand : okM i_Shares_addHand := ok_of 7 (by decide) rfl ini_7 (in_W0 (in_t3 185 rfl) rfl) (Nat.le_of_ble_eq_true rfl) rfl pd_26 rfl
theorem ok_Shares_copyTable : okM i_Shares_copyTable := ok_of 7 (by decide) rfl ini_7 (in_W0 (in_t4 9 rfl) rfl) (Nat.le_of_ble_eq_true rfl) rfl pd_15 rfl
theorem ok_Shares_mend : okM i_Shares_mend := ok_of 7 (by decide) rfl ini_7 (in_W0 (in_t4 14 rfl) rfl) (Nat.le_of_ble_eq_true rfl) rfl pd_15 rfl
theorem ok_Shares_dropUnlisted : okM i_Shares_dropUnlisted := ok_of 7 (by decide) rfl ini_7 (in_W0 (in_t4 18 rfl) rfl) (Nat.le_of_ble_eq_true rfl) rfl pd_33 rfl
theorem ok_Shares_cut : okM i_Shares_cut := ok_of 7 (by decide) rfl ini_7 (in_W0 (in_t4 22 rfl) rfl) (Nat.le_of_ble_eq_true rfl) rfl pd_34 rfl
theorem ok_Shelf_init : okM i_Shelf_init := ok_of 8 (by decide) rfl ini_8 (in_W0 (in_t2 122 rfl) rfl) (Nat.le_of_ble_eq_true rfl) rfl pd_0 rfl
theorem ok_Shelf_keepKind : okM i_Shelf_keepKind := ok_of 8 (by decide) rfl ini_8 (in_W0 (in_t5 30 rfl) rfl) (Nat.le_of_ble_eq_true rfl) rfl pd_2 rfl
theorem ok_Shelf_keepRow : okM i_Shelf_keepRow := ok_of 8 (by decide) rfl ini_8 (in_W0 (in_t5 38 rfl) rfl) (Nat.le_of_ble_eq_true rfl) rfl pd_10 rfl
theorem ok_Shelf_hasRoom : okM i_Shelf_hasRoom := ok_of 8 (by decide) rfl ini_8 (in_W0 (in_t4 98 rfl) rfl) (Nat.le_of_ble_eq_true rfl) rfl pd_35 rfl
theorem ok_Shelf_write : okM i_Shelf_write := ok_of 8 (by decide) rfl ini_8 (in_W0 (in_t5 51 rfl) rfl) (Nat.le_of_ble_eq_true rfl) rfl pd_36 rfl
theorem ok_Tape_init : okM i_Tape_init := ok_of 9 (by decide) rfl ini_9 (in_W0 (in_t1 30 rfl) rfl) (Nat.le_of_ble_eq_true rfl) rfl pd_0 rfl
theorem ok_Tape_add : okM i_Tape_add := ok_of 9 (by decide) rfl ini_9 (in_W0 (in_t2 209 rfl) rfl) (Nat.le_of_ble_eq_true rfl) rfl pd_2 rfl
theorem ok_Tape_readGiving : okM i_Tape_readGiving := ok_of 9 (by decide) rfl ini_9 (in_W0 (in_t2 217 rfl) rfl) (Nat.le_of_ble_eq_true rfl) rfl pd_5 rfl
theorem ok_Tape_readInstead : okM i_Tape_readInstead := ok_of 9 (by decide) rfl ini_9 (in_W0 (in_t3 72 rfl) rfl) (Nat.le_of_ble_eq_true rfl) rfl pd_25 rfl
theorem ok_Tape_next : okM i_Tape_next := ok_of 9 (by decide) rfl ini_9 (in_W0 (in_t2 236 rfl) rfl) (Nat.le_of_ble_eq_true rfl) rfl pd_18 rfl
theorem ok_Tape_readThings : okM i_Tape_readThings := ok_of 9 (by decide) rfl ini_9 (in_W0 (in_t2 232 rfl) rfl) (Nat.le_of_ble_eq_true rfl) rfl pd_5 rfl
theorem ok_Tape_readLists : okM i_Tape_readLists := ok_of 9 (by decide) rfl ini_9 (in_W0 (in_t3 0 rfl) rfl) (Nat.le_of_ble_eq_true rfl) rfl pd_5 rfl
theorem ok_Tape_readList : okM i_Tape_readList := ok_of 9 (by decide) rfl ini_9 (in_W0 (in_t3 4 rfl) rfl) (Nat.le_of_ble_eq_true rfl) rfl pd_25 rfl
theorem ok_Tape_readHeld : okM i_Tape_readHeld := ok_of 9 (by decide) rfl ini_9 (in_W0 (in_t3 12 rfl) rfl) (Nat.le_of_ble_eq_true rfl) rfl pd_25 rfl
theorem ok_Trade_init : okM i_Trade_init := ok_of 10 (by decide) rfl ini_10 (in_W0 (in_t2 8 rfl) rfl) (Nat.le_of_ble_eq_true rfl) rfl pd_0 rfl
theorem ok_Trade_exchange : okM i_Trade_exchange := ok_of 10 (by decide) rfl ini_10 (in_W0 (in_t3 220 rfl) rfl) (Nat.le_of_ble_eq_true rfl) rfl pd_4 rfl
theorem ok_Trade_pointAll : okM i_Trade_pointAll := ok_of 10 (by decide) rfl ini_10 (in_W0 (in_t3 224 rfl) rfl) (Nat.le_of_ble_eq_true rfl) rfl pd_5 rfl
theorem ok_Trade_holderOf : okM i_Trade_holderOf := ok_of 10 (by decide) rfl ini_10 (in_W0 (in_t3 229 rfl) rfl) (Nat.le_of_ble_eq_true rfl) rfl pd_37 rfl
theorem ok_Trade_closeRing : okM i_Trade_closeRing := ok_of 10 (by decide) rfl ini_10 (in_W0 (in_t3 233 rfl) rfl) (Nat.le_of_ble_eq_true rfl) rfl pd_15 rfl
theorem ok_Trade_isInRing : okM i_Trade_isInRing := ok_of 10 (by decide) rfl ini_10 (in_W0 (in_t3 237 rfl) rfl) (Nat.le_of_ble_eq_true rfl) rfl pd_25 rfl
theorem ok_Trade_takeRest : okM i_Trade_takeRest := ok_of 10 (by decide) rfl ini_10 (in_W0 (in_t4 1 rfl) rfl) (Nat.le_of_ble_eq_true rfl) rfl pd_15 rfl
theorem ok_Trade_leftOf : okM i_Trade_leftOf := ok_of 10 (by decide) rfl ini_10 (in_W0 (in_t4 5 rfl) rfl) (Nat.le_of_ble_eq_true rfl) rfl pd_23 rfl
theorem ok_X_init : okM i_X_init := ok_of 11 (by decide) rfl ini_11 (in_W0 (in_t1 22 rfl) rfl) (Nat.le_of_ble_eq_true rfl) rfl pd_0 rfl
theorem ok_X_feed : okM i_X_feed := ok_of 11 (by decide) rfl ini_11 (in_W0 (in_t2 205 rfl) rfl) (Nat.le_of_ble_eq_true rfl) rfl pd_13 rfl
theorem ok_X_giving : okM i_X_giving := ok_of 11 (by decide) rfl ini_11 (in_W0 (in_t2 213 rfl) rfl) (Nat.le_of_ble_eq_true rfl) rfl pd_18 rfl
theorem ok_X_of : okM i_X_of := ok_of 11 (by decide) rfl ini_11 (in_W0 (in_t3 27 rfl) rfl) (Nat.le_of_ble_eq_true rfl) rfl pd_13 rfl
theorem ok_X_rounds : okM i_X_rounds := ok_of 11 (by decide) rfl ini_11 (in_W0 (in_t3 40 rfl) rfl) (Nat.le_of_ble_eq_true rfl) rfl pd_13 rfl
theorem ok_X_level : okM i_X_level := ok_of 11 (by decide) rfl ini_11 (in_W0 (in_t3 45 rfl) rfl) (Nat.le_of_ble_eq_true rfl) rfl pd_38 rfl
theorem ok_X_listed : okM i_X_listed := ok_of 11 (by decide) rfl ini_11 (in_W0 (in_t3 49 rfl) rfl) (Nat.le_of_ble_eq_true rfl) rfl pd_38 rfl
theorem ok_X_takes : okM i_X_takes := ok_of 11 (by decide) rfl ini_11 (in_W0 (in_t3 53 rfl) rfl) (Nat.le_of_ble_eq_true rfl) rfl pd_38 rfl
theorem ok_X_instead : okM i_X_instead := ok_of 11 (by decide) rfl ini_11 (in_W0 (in_t3 61 rfl) rfl) (Nat.le_of_ble_eq_true rfl) rfl pd_13 rfl
theorem ok_X_run : okM i_X_run := ok_of 11 (by decide) rfl ini_11 (in_W0 (in_t3 76 rfl) rfl) (Nat.le_of_ble_eq_true rfl) rfl pd_38 rfl
theorem ok_X_has : okM i_X_has := ok_of 11 (by decide) rfl ini_11 (in_W0 (in_t3 102 rfl) rfl) (Nat.le_of_ble_eq_true rfl) rfl pd_13 rfl
theorem ok_X_left : okM i_X_left := ok_of 11 (by decide) rfl ini_11 (in_W0 (in_t3 110 rfl) rfl) (Nat.le_of_ble_eq_true rfl) rfl pd_12 rfl
theorem ok_X_led : okM i_X_led := ok_of 11 (by decide) rfl ini_11 (in_W0 (in_t3 114 rfl) rfl) (Nat.le_of_ble_eq_true rfl) rfl pd_38 rfl
theorem ok_X_ring : okM i_X_ring := ok_of 11 (by decide) rfl ini_11 (in_W0 (in_t3 121 rfl) rfl) (Nat.le_of_ble_eq_true rfl) rfl pd_12 rfl
theorem ok_X_way : okM i_X_way := ok_of 11 (by decide) rfl ini_11 (in_W0 (in_t3 149 rfl) rfl) (Nat.le_of_ble_eq_true rfl) rfl pd_12 rfl
theorem ok_X_kindOf : okM i_X_kindOf := ok_of 11 (by decide) rfl ini_11 (in_W0 (in_t3 153 rfl) rfl) (Nat.le_of_ble_eq_true rfl) rfl pd_12 rfl
theorem ok_X_share : okM i_X_share := ok_of 11 (by decide) rfl ini_11 (in_W0 (in_t3 157 rfl) rfl) (Nat.le_of_ble_eq_true rfl) rfl pd_39 rfl
theorem ok_X_stops : okM i_X_stops := ok_of 11 (by decide) rfl ini_11 (in_W0 (in_t4 36 rfl) rfl) (Nat.le_of_ble_eq_true rfl) rfl pd_12 rfl
theorem ok_X_rather : okM i_X_rather := ok_of 11 (by decide) rfl ini_11 (in_W0 (in_t4 40 rfl) rfl) (Nat.le_of_ble_eq_true rfl) rfl pd_1 rfl
theorem ok_X_envy : okM i_X_envy := ok_of 11 (by decide) rfl ini_11 (in_W0 (in_t4 47 rfl) rfl) (Nat.le_of_ble_eq_true rfl) rfl pd_13 rfl
theorem ok_X_wrongly : okM i_X_wrongly := ok_of 11 (by decide) rfl ini_11 (in_W0 (in_t4 51 rfl) rfl) (Nat.le_of_ble_eq_true rfl) rfl pd_1 rfl
theorem ok_X_gains : okM i_X_gains := ok_of 11 (by decide) rfl ini_11 (in_W0 (in_t4 69 rfl) rfl) (Nat.le_of_ble_eq_true rfl) rfl pd_38 rfl
theorem ok_X_told : okM i_X_told := ok_of 11 (by decide) rfl ini_11 (in_W0 (in_t4 79 rfl) rfl) (Nat.le_of_ble_eq_true rfl) rfl pd_38 rfl
theorem ok_X_table : okM i_X_table := ok_of 11 (by decide) rfl ini_11 (in_W0 (in_t4 91 rfl) rfl) (Nat.le_of_ble_eq_true rfl) rfl pd_38 rfl
theorem ok_X_bars : okM i_X_bars := ok_of 11 (by decide) rfl ini_11 (in_W0 (in_t4 106 rfl) rfl) (Nat.le_of_ble_eq_true rfl) rfl pd_12 rfl
theorem ok_X_parted : okM i_X_parted := ok_of 11 (by decide) rfl ini_11 (in_W0 (in_t4 126 rfl) rfl) (Nat.le_of_ble_eq_true rfl) rfl pd_38 rfl
theorem ok_X_order : okM i_X_order := ok_of 11 (by decide) rfl ini_11 (in_W0 (in_t4 167 rfl) rfl) (Nat.le_of_ble_eq_true rfl) rfl pd_13 rfl
theorem ok_X_even : okM i_X_even := ok_of 11 (by decide) rfl ini_11 (in_W0 (in_t4 179 rfl) rfl) (Nat.le_of_ble_eq_true rfl) rfl pd_18 rfl
theorem ok_X_evenIs : okM i_X_evenIs := ok_of 11 (by decide) rfl ini_11 (in_W0 (in_t4 208 rfl) rfl) (Nat.le_of_ble_eq_true rfl) rfl pd_12 rfl
theorem ok_X_swap : okM i_X_swap := ok_of 11 (by decide) rfl ini_11 (in_W0 (in_t4 212 rfl) rfl) (Nat.le_of_ble_eq_true rfl) rfl pd_13 rfl
theorem ok_X_years : okM i_X_years := ok_of 11 (by decide) rfl ini_11 (in_W0 (in_t4 229 rfl) rfl) (Nat.le_of_ble_eq_true rfl) rfl pd_1 rfl
theorem ok_X_act : okM i_X_act := ok_of 11 (by decide) rfl ini_11 (in_W0 (in_t4 239 rfl) rfl) (Nat.le_of_ble_eq_true rfl) rfl pd_38 rfl
theorem ok_X_trace : okM i_X_trace := ok_of 11 (by decide) rfl ini_11 (in_W0 (in_t5 22 rfl) rfl) (Nat.le_of_ble_eq_true rfl) rfl pd_12 rfl
theorem ok_X_keep : okM i_X_keep := ok_of 11 (by decide) rfl ini_11 (in_W0 (in_t5 26 rfl) rfl) (Nat.le_of_ble_eq_true rfl) rfl pd_13 rfl
theorem ok_X_row : okM i_X_row := ok_of 11 (by decide) rfl ini_11 (in_W0 (in_t5 34 rfl) rfl) (Nat.le_of_ble_eq_true rfl) rfl pd_38 rfl
theorem ok_X_put : okM i_X_put := ok_of 11 (by decide) rfl ini_11 (in_W0 (in_t5 43 rfl) rfl) (Nat.le_of_ble_eq_true rfl) rfl pd_40 rfl
theorem ok_X_element : okM i_X_element := ok_of 11 (by decide) rfl ini_11 (in_W0 (in_t5 55 rfl) rfl) (Nat.le_of_ble_eq_true rfl) rfl pd_41 rfl
theorem ok_X_shift : okM i_X_shift := ok_of 11 (by decide) rfl ini_11 (in_W0 (in_t5 60 rfl) rfl) (Nat.le_of_ble_eq_true rfl) rfl pd_42 rfl
theorem ok_X_taken : okM i_X_taken := ok_of 11 (by decide) rfl ini_11 (in_W0 (in_t5 65 rfl) rfl) (Nat.le_of_ble_eq_true rfl) rfl pd_13 rfl
theorem ok_X_count : okM i_X_count := ok_of 11 (by decide) rfl ini_11 (in_W0 (in_t5 73 rfl) rfl) (Nat.le_of_ble_eq_true rfl) rfl pd_12 rfl
theorem ok_X_isGiving : okM i_X_isGiving := ok_of 11 (by decide) rfl ini_11 (in_W0 (in_t3 31 rfl) rfl) (Nat.le_of_ble_eq_true rfl) rfl pd_9 rfl
theorem ok_X_isPerson : okM i_X_isPerson := ok_of 11 (by decide) rfl ini_11 (in_W0 (in_t3 35 rfl) rfl) (Nat.le_of_ble_eq_true rfl) rfl pd_25 rfl
theorem ok_X_isThing : okM i_X_isThing := ok_of 11 (by decide) rfl ini_11 (in_W0 (in_t3 15 rfl) rfl) (Nat.le_of_ble_eq_true rfl) rfl pd_25 rfl
theorem ok_X_isCell : okM i_X_isCell := ok_of 11 (by decide) rfl ini_11 (in_W0 (in_t3 160 rfl) rfl) (Nat.le_of_ble_eq_true rfl) rfl pd_25 rfl
theorem ok_X_isShelf : okM i_X_isShelf := ok_of 11 (by decide) rfl ini_11 (in_W0 (in_t4 94 rfl) rfl) (Nat.le_of_ble_eq_true rfl) rfl pd_9 rfl
theorem ok_X_isNoSide : okM i_X_isNoSide := ok_of 11 (by decide) rfl ini_11 (in_W0 (in_t3 117 rfl) rfl) (Nat.le_of_ble_eq_true rfl) rfl pd_9 rfl
theorem ok_X_kindAt : okM i_X_kindAt := ok_of 11 (by decide) rfl ini_11 (in_W0 (in_t3 80 rfl) rfl) (Nat.le_of_ble_eq_true rfl) rfl pd_12 rfl
theorem ok_X_isToldWrongly : okM i_X_isToldWrongly := ok_of 11 (by decide) rfl ini_11 (in_W0 (in_t4 55 rfl) rfl) (Nat.le_of_ble_eq_true rfl) rfl pd_9 rfl
theorem ok_X_isUnder : okM i_X_isUnder := ok_of 11 (by decide) rfl ini_11 (in_W0 (in_t5 68 rfl) rfl) (Nat.le_of_ble_eq_true rfl) rfl pd_43 rfl
theorem ok_X_refusalAt : okM i_X_refusalAt := ok_of 11 (by decide) rfl ini_11 (in_W0 (in_t5 47 rfl) rfl) (Nat.le_of_ble_eq_true rfl) rfl pd_13 rfl
theorem ok_X_forgetTable : okM i_X_forgetTable := ok_of 11 (by decide) rfl ini_11 (in_W0 (in_t4 83 rfl) rfl) (Nat.le_of_ble_eq_true rfl) rfl pd_15 rfl
theorem ok_X_sharesOf : okM i_X_sharesOf := ok_of 11 (by decide) rfl ini_11 (in_W0 (in_t3 165 rfl) rfl) (Nat.le_of_ble_eq_true rfl) rfl pd_44 rfl
theorem ok_X_compareOtherwise : okM i_X_compareOtherwise := ok_of 11 (by decide) rfl ini_11 (in_W0 (in_t4 59 rfl) rfl) (Nat.le_of_ble_eq_true rfl) rfl pd_37 rfl
theorem ok_X_compareRows : okM i_X_compareRows := ok_of 11 (by decide) rfl ini_11 (in_W0 (in_t4 43 rfl) rfl) (Nat.le_of_ble_eq_true rfl) rfl pd_45 rfl
theorem ok_X_findSwap : okM i_X_findSwap := ok_of 11 (by decide) rfl ini_11 (in_W0 (in_t4 216 rfl) rfl) (Nat.le_of_ble_eq_true rfl) rfl pd_15 rfl
theorem ok_X_fewestFirst : okM i_X_fewestFirst := ok_of 11 (by decide) rfl ini_11 (in_W0 (in_t4 235 rfl) rfl) (Nat.le_of_ble_eq_true rfl) rfl pd_2 rfl
theorem ok_X_readLine : okM i_X_readLine := ok_of 11 (by decide) rfl ini_11 (in_W0 (in_t3 83 rfl) rfl) (Nat.le_of_ble_eq_true rfl) rfl pd_46 rfl
theorem ok_X_numberOf : okM i_X_numberOf := ok_of 11 (by decide) rfl ini_11 (in_W0 (in_t4 74 rfl) rfl) (Nat.le_of_ble_eq_true rfl) rfl pd_47 rfl
theorem ok_X_firstLine : okM i_X_firstLine := ok_of 11 (by decide) rfl ini_11 (in_W0 (in_t3 179 rfl) rfl) (Nat.le_of_ble_eq_true rfl) rfl pd_48 rfl
theorem ok_X_nextLine : okM i_X_nextLine := ok_of 11 (by decide) rfl ini_11 (in_W0 (in_t3 188 rfl) rfl) (Nat.le_of_ble_eq_true rfl) rfl pd_49 rfl
theorem ok_X_exchange : okM i_X_exchange := ok_of 11 (by decide) rfl ini_11 (in_W0 (in_t3 191 rfl) rfl) (Nat.le_of_ble_eq_true rfl) rfl pd_50 rfl
theorem ok_X_commonOf : okM i_X_commonOf := ok_of 11 (by decide) rfl ini_11 (in_W0 (in_t4 29 rfl) rfl) (Nat.le_of_ble_eq_true rfl) rfl pd_51 rfl
theorem ok_M_init : okM i_M_init := ok_of 12 (by decide) rfl ini_12 (in_W0 (in_t5 78 rfl) rfl) (Nat.le_of_ble_eq_true rfl) rfl pd_0 rfl
theorem ok_M_in : okM i_M_in := ok_of 12 (by decide) rfl ini_12 (in_W0 (in_t6 43 rfl) rfl) (Nat.le_of_ble_eq_true rfl) rfl pd_52 rfl
theorem ok_M_isGiving : okM i_M_isGiving := ok_of 12 (by decide) rfl ini_12 (in_W0 (in_t6 79 rfl) rfl) (Nat.le_of_ble_eq_true rfl) rfl pd_9 rfl
theorem ok_M_isPerson : okM i_M_isPerson := ok_of 12 (by decide) rfl ini_12 (in_W0 (in_t6 75 rfl) rfl) (Nat.le_of_ble_eq_true rfl) rfl pd_43 rfl
theorem ok_M_isThing : okM i_M_isThing := ok_of 12 (by decide) rfl ini_12 (in_W0 (in_t6 100 rfl) rfl) (Nat.le_of_ble_eq_true rfl) rfl pd_43 rfl
theorem ok_M_feed : okM i_M_feed := ok_of 12 (by decide) rfl ini_12 (in_W0 (in_t6 40 rfl) rfl) (Nat.le_of_ble_eq_true rfl) rfl pd_13 rfl
theorem ok_M_here : okM i_M_here := ok_of 12 (by decide) rfl ini_12 (in_W0 (in_t6 59 rfl) rfl) (Nat.le_of_ble_eq_true rfl) rfl pd_18 rfl
theorem ok_M_readsThings : okM i_M_readsThings := ok_of 12 (by decide) rfl ini_12 (in_W0 (in_t6 55 rfl) rfl) (Nat.le_of_ble_eq_true rfl) rfl pd_9 rfl
theorem ok_M_heldOf : okM i_M_heldOf := ok_of 12 (by decide) rfl ini_12 (in_W0 (in_t6 67 rfl) rfl) (Nat.le_of_ble_eq_true rfl) rfl pd_38 rfl
theorem ok_M_readsList : okM i_M_readsList := ok_of 12 (by decide) rfl ini_12 (in_W0 (in_t6 63 rfl) rfl) (Nat.le_of_ble_eq_true rfl) rfl pd_43 rfl
theorem ok_M_readsGiving : okM i_M_readsGiving := ok_of 12 (by decide) rfl ini_12 (in_W0 (in_t6 51 rfl) rfl) (Nat.le_of_ble_eq_true rfl) rfl pd_9 rfl
theorem ok_M_giving : okM i_M_giving := ok_of 12 (by decide) rfl ini_12 (in_W0 (in_t6 47 rfl) rfl) (Nat.le_of_ble_eq_true rfl) rfl pd_18 rfl
theorem ok_M_copies : okM i_M_copies := ok_of 12 (by decide) rfl ini_12 (in_W0 (in_t6 83 rfl) rfl) (Nat.le_of_ble_eq_true rfl) rfl pd_10 rfl
theorem ok_M_instead : okM i_M_instead := ok_of 12 (by decide) rfl ini_12 (in_W0 (in_t6 71 rfl) rfl) (Nat.le_of_ble_eq_true rfl) rfl pd_13 rfl
theorem ok_M_of : okM i_M_of := ok_of 12 (by decide) rfl ini_12 (in_W0 (in_t6 87 rfl) rfl) (Nat.le_of_ble_eq_true rfl) rfl pd_13 rfl
theorem ok_M_rounds : okM i_M_rounds := ok_of 12 (by decide) rfl ini_12 (in_W0 (in_t6 92 rfl) rfl) (Nat.le_of_ble_eq_true rfl) rfl pd_13 rfl
theorem ok_M_level : okM i_M_level := ok_of 12 (by decide) rfl ini_12 (in_W0 (in_t6 96 rfl) rfl) (Nat.le_of_ble_eq_true rfl) rfl pd_38 rfl
theorem ok_M_listed : okM i_M_listed := ok_of 12 (by decide) rfl ini_12 (in_W0 (in_t6 104 rfl) rfl) (Nat.le_of_ble_eq_true rfl) rfl pd_38 rfl
theorem ok_M_takes : okM i_M_takes := ok_of 12 (by decide) rfl ini_12 (in_W0 (in_t6 108 rfl) rfl) (Nat.le_of_ble_eq_true rfl) rfl pd_38 rfl
theorem ok_M_isOrder : okM i_M_isOrder := ok_of 12 (by decide) rfl ini_12 (in_W0 (in_t6 120 rfl) rfl) (Nat.le_of_ble_eq_true rfl) rfl pd_43 rfl
theorem ok_M_asDigits : okM i_M_asDigits := ok_of 12 (by decide) rfl ini_12 (in_W0 (in_t7 124 rfl) rfl) (Nat.le_of_ble_eq_true rfl) rfl pd_12 rfl
theorem ok_M_firstLeft : okM i_M_firstLeft := ok_of 12 (by decide) rfl ini_12 (in_W0 (in_t6 128 rfl) rfl) (Nat.le_of_ble_eq_true rfl) rfl pd_13 rfl
theorem ok_M_runs : okM i_M_runs := ok_of 12 (by decide) rfl ini_12 (in_W0 (in_t6 124 rfl) rfl) (Nat.le_of_ble_eq_true rfl) rfl pd_53 rfl
theorem ok_M_isWay : okM i_M_isWay := ok_of 12 (by decide) rfl ini_12 (in_W0 (in_t6 116 rfl) rfl) (Nat.le_of_ble_eq_true rfl) rfl pd_9 rfl
theorem ok_M_run : okM i_M_run := ok_of 12 (by decide) rfl ini_12 (in_W0 (in_t6 112 rfl) rfl) (Nat.le_of_ble_eq_true rfl) rfl pd_38 rfl
theorem ok_M_has : okM i_M_has := ok_of 12 (by decide) rfl ini_12 (in_W0 (in_t6 132 rfl) rfl) (Nat.le_of_ble_eq_true rfl) rfl pd_13 rfl
theorem ok_M_left : okM i_M_left := ok_of 12 (by decide) rfl ini_12 (in_W0 (in_t6 136 rfl) rfl) (Nat.le_of_ble_eq_true rfl) rfl pd_12 rfl
theorem ok_M_led : okM i_M_led := ok_of 12 (by decide) rfl ini_12 (in_W0 (in_t6 140 rfl) rfl) (Nat.le_of_ble_eq_true rfl) rfl pd_38 rfl
theorem ok_M_levelIn : okM i_M_levelIn := ok_of 12 (by decide) rfl ini_12 (in_W0 (in_t6 160 rfl) rfl) (Nat.le_of_ble_eq_true rfl) rfl pd_13 rfl
theorem ok_M_wishes : okM i_M_wishes := ok_of 12 (by decide) rfl ini_12 (in_W0 (in_t6 156 rfl) rfl) (Nat.le_of_ble_eq_true rfl) rfl pd_52 rfl
theorem ok_M_findsOne : okM i_M_findsOne := ok_of 12 (by decide) rfl ini_12 (in_W0 (in_t6 152 rfl) rfl) (Nat.le_of_ble_eq_true rfl) rfl pd_19 rfl
theorem ok_M_findsThings : okM i_M_findsThings := ok_of 12 (by decide) rfl ini_12 (in_W0 (in_t6 168 rfl) rfl) (Nat.le_of_ble_eq_true rfl) rfl pd_43 rfl
theorem ok_M_findsPeople : okM i_M_findsPeople := ok_of 12 (by decide) rfl ini_12 (in_W0 (in_t6 164 rfl) rfl) (Nat.le_of_ble_eq_true rfl) rfl pd_52 rfl
theorem ok_M_findsRing : okM i_M_findsRing := ok_of 12 (by decide) rfl ini_12 (in_W0 (in_t6 148 rfl) rfl) (Nat.le_of_ble_eq_true rfl) rfl pd_0 rfl
theorem ok_M_ring : okM i_M_ring := ok_of 12 (by decide) rfl ini_12 (in_W0 (in_t6 144 rfl) rfl) (Nat.le_of_ble_eq_true rfl) rfl pd_12 rfl
theorem ok_M_way : okM i_M_way := ok_of 12 (by decide) rfl ini_12 (in_W0 (in_t6 172 rfl) rfl) (Nat.le_of_ble_eq_true rfl) rfl pd_12 rfl
theorem ok_M_kindOf : okM i_M_kindOf := ok_of 12 (by decide) rfl ini_12 (in_W0 (in_t6 176 rfl) rfl) (Nat.le_of_ble_eq_true rfl) rfl pd_12 rfl
theorem ok_M_common : okM i_M_common := ok_of 12 (by decide) rfl ini_12 (in_W0 (in_t6 207 rfl) rfl) (Nat.le_of_ble_eq_true rfl) rfl pd_51 rfl
theorem ok_M_clears : okM i_M_clears := ok_of 12 (by decide) rfl ini_12 (in_W0 (in_t6 188 rfl) rfl) (Nat.le_of_ble_eq_true rfl) rfl pd_0 rfl
theorem ok_M_puts : okM i_M_puts := ok_of 12 (by decide) rfl ini_12 (in_W0 (in_t6 204 rfl) rfl) (Nat.le_of_ble_eq_true rfl) rfl pd_54 rfl
theorem ok_M_nextOrder : okM i_M_nextOrder := ok_of 12 (by decide) rfl ini_12 (in_W0 (in_t6 200 rfl) rfl) (Nat.le_of_ble_eq_true rfl) rfl pd_9 rfl
theorem ok_M_firstOrder : okM i_M_firstOrder := ok_of 12 (by decide) rfl ini_12 (in_W0 (in_t6 196 rfl) rfl) (Nat.le_of_ble_eq_true rfl) rfl pd_2 rfl
theorem ok_M_means : okM i_M_means := ok_of 12 (by decide) rfl ini_12 (in_W0 (in_t6 192 rfl) rfl) (Nat.le_of_ble_eq_true rfl) rfl pd_53 rfl
theorem ok_M_adds : okM i_M_adds := ok_of 12 (by decide) rfl ini_12 (in_W0 (in_t6 224 rfl) rfl) (Nat.le_of_ble_eq_true rfl) rfl pd_55 rfl
theorem ok_M_firstUneaten : okM i_M_firstUneaten := ok_of 12 (by decide) rfl ini_12 (in_W0 (in_t6 219 rfl) rfl) (Nat.le_of_ble_eq_true rfl) rfl pd_13 rfl
theorem ok_M_eatNow : okM i_M_eatNow := ok_of 12 (by decide) rfl ini_12 (in_W0 (in_t6 215 rfl) rfl) (Nat.le_of_ble_eq_true rfl) rfl pd_12 rfl
theorem ok_M_eating : okM i_M_eating := ok_of 12 (by decide) rfl ini_12 (in_W0 (in_t6 211 rfl) rfl) (Nat.le_of_ble_eq_true rfl) rfl pd_2 rfl
theorem ok_M_pointOf : okM i_M_pointOf := ok_of 12 (by decide) rfl ini_12 (in_W0 (in_t6 237 rfl) rfl) (Nat.le_of_ble_eq_true rfl) rfl pd_13 rfl
theorem ok_M_endsSome : okM i_M_endsSome := ok_of 12 (by decide) rfl ini_12 (in_W0 (in_t6 233 rfl) rfl) (Nat.le_of_ble_eq_true rfl) rfl pd_9 rfl
theorem ok_M_endsRing : okM i_M_endsRing := ok_of 12 (by decide) rfl ini_12 (in_W0 (in_t7 1 rfl) rfl) (Nat.le_of_ble_eq_true rfl) rfl pd_9 rfl
theorem ok_M_trades : okM i_M_trades := ok_of 12 (by decide) rfl ini_12 (in_W0 (in_t6 229 rfl) rfl) (Nat.le_of_ble_eq_true rfl) rfl pd_2 rfl
theorem ok_M_takesParts : okM i_M_takesParts := ok_of 12 (by decide) rfl ini_12 (in_W0 (in_t7 5 rfl) rfl) (Nat.le_of_ble_eq_true rfl) rfl pd_53 rfl
theorem ok_M_sumOf : okM i_M_sumOf := ok_of 12 (by decide) rfl ini_12 (in_W0 (in_t7 13 rfl) rfl) (Nat.le_of_ble_eq_true rfl) rfl pd_13 rfl
theorem ok_M_sumOver : okM i_M_sumOver := ok_of 12 (by decide) rfl ini_12 (in_W0 (in_t7 21 rfl) rfl) (Nat.le_of_ble_eq_true rfl) rfl pd_13 rfl
theorem ok_M_less : okM i_M_less := ok_of 12 (by decide) rfl ini_12 (in_W0 (in_t7 17 rfl) rfl) (Nat.le_of_ble_eq_true rfl) rfl pd_10 rfl
theorem ok_M_mends : okM i_M_mends := ok_of 12 (by decide) rfl ini_12 (in_W0 (in_t7 9 rfl) rfl) (Nat.le_of_ble_eq_true rfl) rfl pd_2 rfl
theorem ok_M_shares : okM i_M_shares := ok_of 12 (by decide) rfl ini_12 (in_W0 (in_t6 184 rfl) rfl) (Nat.le_of_ble_eq_true rfl) rfl pd_10 rfl
theorem ok_M_share : okM i_M_share := ok_of 12 (by decide) rfl ini_12 (in_W0 (in_t6 180 rfl) rfl) (Nat.le_of_ble_eq_true rfl) rfl pd_39 rfl
theorem ok_M_stops : okM i_M_stops := ok_of 12 (by decide) rfl ini_12 (in_W0 (in_t7 27 rfl) rfl) (Nat.le_of_ble_eq_true rfl) rfl pd_12 rfl
theorem ok_M_keepsRow : okM i_M_keepsRow := ok_of 12 (by decide) rfl ini_12 (in_W0 (in_t7 35 rfl) rfl) (Nat.le_of_ble_eq_true rfl) rfl pd_2 rfl
theorem ok_M_against : okM i_M_against := ok_of 12 (by decide) rfl ini_12 (in_W0 (in_t7 39 rfl) rfl) (Nat.le_of_ble_eq_true rfl) rfl pd_38 rfl
theorem ok_M_rather : okM i_M_rather := ok_of 12 (by decide) rfl ini_12 (in_W0 (in_t7 31 rfl) rfl) (Nat.le_of_ble_eq_true rfl) rfl pd_1 rfl
theorem ok_M_envy : okM i_M_envy := ok_of 12 (by decide) rfl ini_12 (in_W0 (in_t7 43 rfl) rfl) (Nat.le_of_ble_eq_true rfl) rfl pd_13 rfl
theorem ok_M_areDigits : okM i_M_areDigits := ok_of 12 (by decide) rfl ini_12 (in_W0 (in_t7 55 rfl) rfl) (Nat.le_of_ble_eq_true rfl) rfl pd_43 rfl
theorem ok_M_tries : okM i_M_tries := ok_of 12 (by decide) rfl ini_12 (in_W0 (in_t7 63 rfl) rfl) (Nat.le_of_ble_eq_true rfl) rfl pd_38 rfl
theorem ok_M_keepsOwn : okM i_M_keepsOwn := ok_of 12 (by decide) rfl ini_12 (in_W0 (in_t7 59 rfl) rfl) (Nat.le_of_ble_eq_true rfl) rfl pd_52 rfl
theorem ok_M_isLie : okM i_M_isLie := ok_of 12 (by decide) rfl ini_12 (in_W0 (in_t7 51 rfl) rfl) (Nat.le_of_ble_eq_true rfl) rfl pd_52 rfl
theorem ok_M_wrongly : okM i_M_wrongly := ok_of 12 (by decide) rfl ini_12 (in_W0 (in_t7 47 rfl) rfl) (Nat.le_of_ble_eq_true rfl) rfl pd_1 rfl
theorem ok_M_triesAll : okM i_M_triesAll := ok_of 12 (by decide) rfl ini_12 (in_W0 (in_t7 71 rfl) rfl) (Nat.le_of_ble_eq_true rfl) rfl pd_56 rfl
theorem ok_M_gains : okM i_M_gains := ok_of 12 (by decide) rfl ini_12 (in_W0 (in_t7 67 rfl) rfl) (Nat.le_of_ble_eq_true rfl) rfl pd_38 rfl
theorem ok_M_told : okM i_M_told := ok_of 12 (by decide) rfl ini_12 (in_W0 (in_t7 75 rfl) rfl) (Nat.le_of_ble_eq_true rfl) rfl pd_38 rfl
theorem ok_M_table : okM i_M_table := ok_of 12 (by decide) rfl ini_12 (in_W0 (in_t7 79 rfl) rfl) (Nat.le_of_ble_eq_true rfl) rfl pd_38 rfl
theorem ok_M_barsOf : okM i_M_barsOf := ok_of 12 (by decide) rfl ini_12 (in_W0 (in_t7 87 rfl) rfl) (Nat.le_of_ble_eq_true rfl) rfl pd_12 rfl
theorem ok_M_bars : okM i_M_bars := ok_of 12 (by decide) rfl ini_12 (in_W0 (in_t7 83 rfl) rfl) (Nat.le_of_ble_eq_true rfl) rfl pd_12 rfl
theorem ok_M_finds : okM i_M_finds := ok_of 12 (by decide) rfl ini_12 (in_W0 (in_t7 95 rfl) rfl) (Nat.le_of_ble_eq_true rfl) rfl pd_43 rfl
theorem ok_M_most : okM i_M_most := ok_of 12 (by decide) rfl ini_12 (in_W0 (in_t7 99 rfl) rfl) (Nat.le_of_ble_eq_true rfl) rfl pd_13 rfl
theorem ok_M_parted : okM i_M_parted := ok_of 12 (by decide) rfl ini_12 (in_W0 (in_t7 91 rfl) rfl) (Nat.le_of_ble_eq_true rfl) rfl pd_38 rfl
theorem ok_M_pointsOf : okM i_M_pointsOf := ok_of 12 (by decide) rfl ini_12 (in_W0 (in_t7 111 rfl) rfl) (Nat.le_of_ble_eq_true rfl) rfl pd_13 rfl
theorem ok_M_order : okM i_M_order := ok_of 12 (by decide) rfl ini_12 (in_W0 (in_t7 103 rfl) rfl) (Nat.le_of_ble_eq_true rfl) rfl pd_13 rfl
theorem ok_M_even : okM i_M_even := ok_of 12 (by decide) rfl ini_12 (in_W0 (in_t7 107 rfl) rfl) (Nat.le_of_ble_eq_true rfl) rfl pd_18 rfl
theorem ok_M_evenIs : okM i_M_evenIs := ok_of 12 (by decide) rfl ini_12 (in_W0 (in_t7 116 rfl) rfl) (Nat.le_of_ble_eq_true rfl) rfl pd_12 rfl
theorem ok_M_swap : okM i_M_swap := ok_of 12 (by decide) rfl ini_12 (in_W0 (in_t7 120 rfl) rfl) (Nat.le_of_ble_eq_true rfl) rfl pd_13 rfl
theorem ok_M_years : okM i_M_years := ok_of 12 (by decide) rfl ini_12 (in_W0 (in_t7 128 rfl) rfl) (Nat.le_of_ble_eq_true rfl) rfl pd_1 rfl
theorem ok_M_begins : okM i_M_begins := ok_of 12 (by decide) rfl ini_12 (in_W0 (in_t7 140 rfl) rfl) (Nat.le_of_ble_eq_true rfl) rfl pd_2 rfl
theorem ok_M_aboveOf : okM i_M_aboveOf := ok_of 12 (by decide) rfl ini_12 (in_W0 (in_t7 143 rfl) rfl) (Nat.le_of_ble_eq_true rfl) rfl pd_12 rfl
theorem ok_M_takesFrom : okM i_M_takesFrom := ok_of 12 (by decide) rfl ini_12 (in_W0 (in_t7 136 rfl) rfl) (Nat.le_of_ble_eq_true rfl) rfl pd_38 rfl
theorem ok_M_leavesFrom : okM i_M_leavesFrom := ok_of 12 (by decide) rfl ini_12 (in_W0 (in_t7 147 rfl) rfl) (Nat.le_of_ble_eq_true rfl) rfl pd_38 rfl
theorem ok_M_likesFrom : okM i_M_likesFrom := ok_of 12 (by decide) rfl ini_12 (in_W0 (in_t7 151 rfl) rfl) (Nat.le_of_ble_eq_true rfl) rfl pd_38 rfl
theorem ok_M_tellsFrom : okM i_M_tellsFrom := ok_of 12 (by decide) rfl ini_12 (in_W0 (in_t7 155 rfl) rfl) (Nat.le_of_ble_eq_true rfl) rfl pd_38 rfl
theorem ok_M_act : okM i_M_act := ok_of 12 (by decide) rfl ini_12 (in_W0 (in_t7 132 rfl) rfl) (Nat.le_of_ble_eq_true rfl) rfl pd_38 rfl
theorem ok_M_trace : okM i_M_trace := ok_of 12 (by decide) rfl ini_12 (in_W0 (in_t7 159 rfl) rfl) (Nat.le_of_ble_eq_true rfl) rfl pd_12 rfl
theorem ok_M_isShelf : okM i_M_isShelf := ok_of 12 (by decide) rfl ini_12 (in_W0 (in_t7 166 rfl) rfl) (Nat.le_of_ble_eq_true rfl) rfl pd_9 rfl
theorem ok_M_keep : okM i_M_keep := ok_of 12 (by decide) rfl ini_12 (in_W0 (in_t7 163 rfl) rfl) (Nat.le_of_ble_eq_true rfl) rfl pd_13 rfl
theorem ok_M_row : okM i_M_row := ok_of 12 (by decide) rfl ini_12 (in_W0 (in_t7 170 rfl) rfl) (Nat.le_of_ble_eq_true rfl) rfl pd_38 rfl
theorem ok_M_barred : okM i_M_barred := ok_of 12 (by decide) rfl ini_12 (in_W0 (in_t7 178 rfl) rfl) (Nat.le_of_ble_eq_true rfl) rfl pd_13 rfl
theorem ok_M_put : okM i_M_put := ok_of 12 (by decide) rfl ini_12 (in_W0 (in_t7 174 rfl) rfl) (Nat.le_of_ble_eq_true rfl) rfl pd_40 rfl
theorem ok_M_element : okM i_M_element := ok_of 12 (by decide) rfl ini_12 (in_W0 (in_t7 182 rfl) rfl) (Nat.le_of_ble_eq_true rfl) rfl pd_41 rfl
theorem ok_M_shift : okM i_M_shift := ok_of 12 (by decide) rfl ini_12 (in_W0 (in_t7 187 rfl) rfl) (Nat.le_of_ble_eq_true rfl) rfl pd_42 rfl
theorem ok_M_taken : okM i_M_taken := ok_of 12 (by decide) rfl ini_12 (in_W0 (in_t7 191 rfl) rfl) (Nat.le_of_ble_eq_true rfl) rfl pd_13 rfl
theorem ok_M_count : okM i_M_count := ok_of 12 (by decide) rfl ini_12 (in_W0 (in_t7 195 rfl) rfl) (Nat.le_of_ble_eq_true rfl) rfl pd_12 rfl
theorem ok_Integer_bitCount : okM i_Integer_bitCount := ok_of 13 (by decide) rfl ini_13 (in_W0 (in_t4 200 rfl) rfl) (Nat.le_of_ble_eq_true rfl) rfl pd_12 rfl
theorem ok_Arrays_fill_J : okM i_Arrays_fill_J := ok_of 14 (by decide) rfl ini_14 (in_W0 (in_t3 172 rfl) rfl) (Nat.le_of_ble_eq_true rfl) rfl pd_57 rfl
theorem ok_Arrays_fill_I : okM i_Arrays_fill_I := ok_of 14 (by decide) rfl ini_14 (in_W0 (in_t2 224 rfl) rfl) (Nat.le_of_ble_eq_true rfl) rfl pd_48 rfl
noncomputable def mtab0 : List MI := [i_Acts_init, i_Acts_clear, i_Acts_perform, i_Acts_note, i_Acts_begin, i_Eating_init, i_Eating_eat, i_Eating_choose, i_Eating_nextEaten, i_Eating_widen, i_Eating_pass, i_Evens_init, i_Evens_isTold, i_Evens_add, i_Evens_keepPoints, i_Evens_choose, i_Evens_leastOf, i_Giving_init, i_Giving_isPart, i_Giving_clear, i_Giving_become, i_Giving_forgetAll, i_Giving_unlist, i_Giving_append, i_Giving_relist, i_Giving_heldOf, i_Giving_firstOf, i_Giving_partsOfPerson, i_Giving_partsOfThing, i_Giving_barring, i_Giving_hasUnlisted, i_Giving_canBeParted, i_Hand_init, i_Hand_deal, i_Hand_take, i_Hand_countOf, i_Hand_pointsOf, i_Hand_gapOf, i_Parting_init, i_Parting_forget, i_Parting_split, i_Parting_measure, i_Parting_pickFirst, i_Parting_pickFor, i_Parting_canGoOn, i_Parting_mostOff, i_Rings_init, i_Rings_forget, i_Rings_find, i_Rings_findAlone, i_Rings_findLeft, i_Rings_isBetter, i_Rings_addPerson, i_Rings_isAmong, i_Rings_addThing, i_Shares_init, i_Shares_clear, i_Shares_addOrders, i_Shares_addHand, i_Shares_copyTable, i_Shares_mend, i_Shares_dropUnlisted, i_Shares_cut, i_Shelf_init, i_Shelf_keepKind, i_Shelf_keepRow, i_Shelf_hasRoom, i_Shelf_write, i_Tape_init, i_Tape_add, i_Tape_readGiving, i_Tape_readInstead, i_Tape_next, i_Tape_readThings, i_Tape_readLists, i_Tape_readList, i_Tape_readHeld, i_Trade_init, i_Trade_exchange, i_Trade_pointAll, i_Trade_holderOf, i_Trade_closeRing, i_Trade_isInRing, i_Trade_takeRest, i_Trade_leftOf, i_X_init, i_X_feed, i_X_giving, i_X_of, i_X_rounds, i_X_level, i_X_listed, i_X_takes, i_X_instead, i_X_run, i_X_has, i_X_left, i_X_led, i_X_ring, i_X_way, i_X_kindOf, i_X_share, i_X_stops, i_X_rather, i_X_envy, i_X_wrongly, i_X_gains, i_X_told, i_X_table, i_X_bars, i_X_parted, i_X_order, i_X_even, i_X_evenIs, i_X_swap, i_X_years, i_X_act, i_X_trace, i_X_keep, i_X_row, i_X_put, i_X_element, i_X_shift, i_X_taken, i_X_count, i_X_isGiving, i_X_isPerson, i_X_isThing, i_X_isCell, i_X_isShelf, i_X_isNoSide, i_X_kindAt, i_X_isToldWrongly, i_X_isUnder, i_X_refusalAt, i_X_forgetTable, i_X_sharesOf, i_X_compareOtherwise, i_X_compareRows, i_X_findSwap, i_X_fewestFirst, i_X_readLine, i_X_numberOf, i_X_firstLine, i_X_nextLine, i_X_exchange, i_X_commonOf, i_M_init, i_M_in, i_M_isGiving, i_M_isPerson, i_M_isThing, i_M_feed, i_M_here, i_M_readsThings, i_M_heldOf, i_M_readsList, i_M_readsGiving, i_M_giving, i_M_copies, i_M_instead, i_M_of, i_M_rounds, i_M_level, i_M_listed, i_M_takes, i_M_isOrder, i_M_asDigits, i_M_firstLeft, i_M_runs, i_M_isWay, i_M_run, i_M_has, i_M_left, i_M_led, i_M_levelIn, i_M_wishes, i_M_findsOne, i_M_findsThings, i_M_findsPeople, i_M_findsRing, i_M_ring, i_M_way, i_M_kindOf, i_M_common, i_M_clears, i_M_puts, i_M_nextOrder, i_M_firstOrder, i_M_means, i_M_adds, i_M_firstUneaten, i_M_eatNow, i_M_eating, i_M_pointOf, i_M_endsSome, i_M_endsRing, i_M_trades, i_M_takesParts, i_M_sumOf, i_M_sumOver, i_M_less, i_M_mends, i_M_shares, i_M_share, i_M_stops, i_M_keepsRow, i_M_against, i_M_rather, i_M_envy, i_M_areDigits, i_M_tries, i_M_keepsOwn, i_M_isLie, i_M_wrongly, i_M_triesAll, i_M_gains, i_M_told, i_M_table, i_M_barsOf, i_M_bars, i_M_finds, i_M_most, i_M_parted, i_M_pointsOf, i_M_order, i_M_even, i_M_evenIs, i_M_swap, i_M_years, i_M_begins, i_M_aboveOf, i_M_takesFrom, i_M_leavesFrom, i_M_likesFrom, i_M_tellsFrom, i_M_act, i_M_trace, i_M_isShelf, i_M_keep, i_M_row, i_M_barred, i_M_put, i_M_element, i_M_shift, i_M_taken, i_M_count, i_Integer_bitCount, i_Arrays_fill_J, i_Arrays_fill_I]
theorem mt_nil : ∀ q ∈ ([] : List MI), okM q := fun _ h => absurd h List.not_mem_nil
set_option maxRecDepth 100000 in
theorem mt_ok : ∀ q ∈ mtab0, okM q := List.forall_mem_cons.mpr ⟨ok_Acts_init, List.forall_mem_cons.mpr ⟨ok_Acts_clear, List.forall_mem_cons.mpr ⟨ok_Acts_perform, List.forall_mem_cons.mpr ⟨ok_Acts_note, List.forall_mem_cons.mpr ⟨ok_Acts_begin, List.forall_mem_cons.mpr ⟨ok_Eating_init, List.forall_mem_cons.mpr ⟨ok_Eating_eat, List.forall_mem_cons.mpr ⟨ok_Eating_choose, List.forall_mem_cons.mpr ⟨ok_Eating_nextEaten, List.forall_mem_cons.mpr ⟨ok_Eating_widen, List.forall_mem_cons.mpr ⟨ok_Eating_pass, List.forall_mem_cons.mpr ⟨ok_Evens_init, List.forall_mem_cons.mpr ⟨ok_Evens_isTold, List.forall_mem_cons.mpr ⟨ok_Evens_add, List.forall_mem_cons.mpr ⟨ok_Evens_keepPoints, List.forall_mem_cons.mpr ⟨ok_Evens_choose, List.forall_mem_cons.mpr ⟨ok_Evens_leastOf, List.forall_mem_cons.mpr ⟨ok_Giving_init, List.forall_mem_cons.mpr ⟨ok_Giving_isPart, List.forall_mem_cons.mpr ⟨ok_Giving_clear, List.forall_mem_cons.mpr ⟨ok_Giving_become, List.forall_mem_cons.mpr ⟨ok_Giving_forgetAll, List.forall_mem_cons.mpr ⟨ok_Giving_unlist, List.forall_mem_cons.mpr ⟨ok_Giving_append, List.forall_mem_cons.mpr ⟨ok_Giving_relist, List.forall_mem_cons.mpr ⟨ok_Giving_heldOf, List.forall_mem_cons.mpr ⟨ok_Giving_firstOf, List.forall_mem_cons.mpr ⟨ok_Giving_partsOfPerson, List.forall_mem_cons.mpr ⟨ok_Giving_partsOfThing, List.forall_mem_cons.mpr ⟨ok_Giving_barring, List.forall_mem_cons.mpr ⟨ok_Giving_hasUnlisted, List.forall_mem_cons.mpr ⟨ok_Giving_canBeParted, List.forall_mem_cons.mpr ⟨ok_Hand_init, List.forall_mem_cons.mpr ⟨ok_Hand_deal, List.forall_mem_cons.mpr ⟨ok_Hand_take, List.forall_mem_cons.mpr ⟨ok_Hand_countOf, List.forall_mem_cons.mpr ⟨ok_Hand_pointsOf, List.forall_mem_cons.mpr ⟨ok_Hand_gapOf, List.forall_mem_cons.mpr ⟨ok_Parting_init, List.forall_mem_cons.mpr ⟨ok_Parting_forget, List.forall_mem_cons.mpr ⟨ok_Parting_split, List.forall_mem_cons.mpr ⟨ok_Parting_measure, List.forall_mem_cons.mpr ⟨ok_Parting_pickFirst, List.forall_mem_cons.mpr ⟨ok_Parting_pickFor, List.forall_mem_cons.mpr ⟨ok_Parting_canGoOn, List.forall_mem_cons.mpr ⟨ok_Parting_mostOff, List.forall_mem_cons.mpr ⟨ok_Rings_init, List.forall_mem_cons.mpr ⟨ok_Rings_forget, List.forall_mem_cons.mpr ⟨ok_Rings_find, List.forall_mem_cons.mpr ⟨ok_Rings_findAlone, List.forall_mem_cons.mpr ⟨ok_Rings_findLeft, List.forall_mem_cons.mpr ⟨ok_Rings_isBetter, List.forall_mem_cons.mpr ⟨ok_Rings_addPerson, List.forall_mem_cons.mpr ⟨ok_Rings_isAmong, List.forall_mem_cons.mpr ⟨ok_Rings_addThing, List.forall_mem_cons.mpr ⟨ok_Shares_init, List.forall_mem_cons.mpr ⟨ok_Shares_clear, List.forall_mem_cons.mpr ⟨ok_Shares_addOrders, List.forall_mem_cons.mpr ⟨ok_Shares_addHand, List.forall_mem_cons.mpr ⟨ok_Shares_copyTable, List.forall_mem_cons.mpr ⟨ok_Shares_mend, List.forall_mem_cons.mpr ⟨ok_Shares_dropUnlisted, List.forall_mem_cons.mpr ⟨ok_Shares_cut, List.forall_mem_cons.mpr ⟨ok_Shelf_init, List.forall_mem_cons.mpr ⟨ok_Shelf_keepKind, List.forall_mem_cons.mpr ⟨ok_Shelf_keepRow, List.forall_mem_cons.mpr ⟨ok_Shelf_hasRoom, List.forall_mem_cons.mpr ⟨ok_Shelf_write, List.forall_mem_cons.mpr ⟨ok_Tape_init, List.forall_mem_cons.mpr ⟨ok_Tape_add, List.forall_mem_cons.mpr ⟨ok_Tape_readGiving, List.forall_mem_cons.mpr ⟨ok_Tape_readInstead, List.forall_mem_cons.mpr ⟨ok_Tape_next, List.forall_mem_cons.mpr ⟨ok_Tape_readThings, List.forall_mem_cons.mpr ⟨ok_Tape_readLists, List.forall_mem_cons.mpr ⟨ok_Tape_readList, List.forall_mem_cons.mpr ⟨ok_Tape_readHeld, List.forall_mem_cons.mpr ⟨ok_Trade_init, List.forall_mem_cons.mpr ⟨ok_Trade_exchange, List.forall_mem_cons.mpr ⟨ok_Trade_pointAll, List.forall_mem_cons.mpr ⟨ok_Trade_holderOf, List.forall_mem_cons.mpr ⟨ok_Trade_closeRing, List.forall_mem_cons.mpr ⟨ok_Trade_isInRing, List.forall_mem_cons.mpr ⟨ok_Trade_takeRest, List.forall_mem_cons.mpr ⟨ok_Trade_leftOf, List.forall_mem_cons.mpr ⟨ok_X_init, List.forall_mem_cons.mpr ⟨ok_X_feed, List.forall_mem_cons.mpr ⟨ok_X_giving, List.forall_mem_cons.mpr ⟨ok_X_of, List.forall_mem_cons.mpr ⟨ok_X_rounds, List.forall_mem_cons.mpr ⟨ok_X_level, List.forall_mem_cons.mpr ⟨ok_X_listed, List.forall_mem_cons.mpr ⟨ok_X_takes, List.forall_mem_cons.mpr ⟨ok_X_instead, List.forall_mem_cons.mpr ⟨ok_X_run, List.forall_mem_cons.mpr ⟨ok_X_has, List.forall_mem_cons.mpr ⟨ok_X_left, List.forall_mem_cons.mpr ⟨ok_X_led, List.forall_mem_cons.mpr ⟨ok_X_ring, List.forall_mem_cons.mpr ⟨ok_X_way, List.forall_mem_cons.mpr ⟨ok_X_kindOf, List.forall_mem_cons.mpr ⟨ok_X_share, List.forall_mem_cons.mpr ⟨ok_X_stops, List.forall_mem_cons.mpr ⟨ok_X_rather, List.forall_mem_cons.mpr ⟨ok_X_envy, List.forall_mem_cons.mpr ⟨ok_X_wrongly, List.forall_mem_cons.mpr ⟨ok_X_gains, List.forall_mem_cons.mpr ⟨ok_X_told, List.forall_mem_cons.mpr ⟨ok_X_table, List.forall_mem_cons.mpr ⟨ok_X_bars, List.forall_mem_cons.mpr ⟨ok_X_parted, List.forall_mem_cons.mpr ⟨ok_X_order, List.forall_mem_cons.mpr ⟨ok_X_even, List.forall_mem_cons.mpr ⟨ok_X_evenIs, List.forall_mem_cons.mpr ⟨ok_X_swap, List.forall_mem_cons.mpr ⟨ok_X_years, List.forall_mem_cons.mpr ⟨ok_X_act, List.forall_mem_cons.mpr ⟨ok_X_trace, List.forall_mem_cons.mpr ⟨ok_X_keep, List.forall_mem_cons.mpr ⟨ok_X_row, List.forall_mem_cons.mpr ⟨ok_X_put, List.forall_mem_cons.mpr ⟨ok_X_element, List.forall_mem_cons.mpr ⟨ok_X_shift, List.forall_mem_cons.mpr ⟨ok_X_taken, List.forall_mem_cons.mpr ⟨ok_X_count, List.forall_mem_cons.mpr ⟨ok_X_isGiving, List.forall_mem_cons.mpr ⟨ok_X_isPerson, List.forall_mem_cons.mpr ⟨ok_X_isThing, List.forall_mem_cons.mpr ⟨ok_X_isCell, List.forall_mem_cons.mpr ⟨ok_X_isShelf, List.forall_mem_cons.mpr ⟨ok_X_isNoSide, List.forall_mem_cons.mpr ⟨ok_X_kindAt, List.forall_mem_cons.mpr ⟨ok_X_isToldWrongly, List.forall_mem_cons.mpr ⟨ok_X_isUnder, List.forall_mem_cons.mpr ⟨ok_X_refusalAt, List.forall_mem_cons.mpr ⟨ok_X_forgetTable, List.forall_mem_cons.mpr ⟨ok_X_sharesOf, List.forall_mem_cons.mpr ⟨ok_X_compareOtherwise, List.forall_mem_cons.mpr ⟨ok_X_compareRows, List.forall_mem_cons.mpr ⟨ok_X_findSwap, List.forall_mem_cons.mpr ⟨ok_X_fewestFirst, List.forall_mem_cons.mpr ⟨ok_X_readLine, List.forall_mem_cons.mpr ⟨ok_X_numberOf, List.forall_mem_cons.mpr ⟨ok_X_firstLine, List.forall_mem_cons.mpr ⟨ok_X_nextLine, List.forall_mem_cons.mpr ⟨ok_X_exchange, List.forall_mem_cons.mpr ⟨ok_X_commonOf, List.forall_mem_cons.mpr ⟨ok_M_init, List.forall_mem_cons.mpr ⟨ok_M_in, List.forall_mem_cons.mpr ⟨ok_M_isGiving, List.forall_mem_cons.mpr ⟨ok_M_isPerson, List.forall_mem_cons.mpr ⟨ok_M_isThing, List.forall_mem_cons.mpr ⟨ok_M_feed, List.forall_mem_cons.mpr ⟨ok_M_here, List.forall_mem_cons.mpr ⟨ok_M_readsThings, List.forall_mem_cons.mpr ⟨ok_M_heldOf, List.forall_mem_cons.mpr ⟨ok_M_readsList, List.forall_mem_cons.mpr ⟨ok_M_readsGiving, List.forall_mem_cons.mpr ⟨ok_M_giving, List.forall_mem_cons.mpr ⟨ok_M_copies, List.forall_mem_cons.mpr ⟨ok_M_instead, List.forall_mem_cons.mpr ⟨ok_M_of, List.forall_mem_cons.mpr ⟨ok_M_rounds, List.forall_mem_cons.mpr ⟨ok_M_level, List.forall_mem_cons.mpr ⟨ok_M_listed, List.forall_mem_cons.mpr ⟨ok_M_takes, List.forall_mem_cons.mpr ⟨ok_M_isOrder, List.forall_mem_cons.mpr ⟨ok_M_asDigits, List.forall_mem_cons.mpr ⟨ok_M_firstLeft, List.forall_mem_cons.mpr ⟨ok_M_runs, List.forall_mem_cons.mpr ⟨ok_M_isWay, List.forall_mem_cons.mpr ⟨ok_M_run, List.forall_mem_cons.mpr ⟨ok_M_has, List.forall_mem_cons.mpr ⟨ok_M_left, List.forall_mem_cons.mpr ⟨ok_M_led, List.forall_mem_cons.mpr ⟨ok_M_levelIn, List.forall_mem_cons.mpr ⟨ok_M_wishes, List.forall_mem_cons.mpr ⟨ok_M_findsOne, List.forall_mem_cons.mpr ⟨ok_M_findsThings, List.forall_mem_cons.mpr ⟨ok_M_findsPeople, List.forall_mem_cons.mpr ⟨ok_M_findsRing, List.forall_mem_cons.mpr ⟨ok_M_ring, List.forall_mem_cons.mpr ⟨ok_M_way, List.forall_mem_cons.mpr ⟨ok_M_kindOf, List.forall_mem_cons.mpr ⟨ok_M_common, List.forall_mem_cons.mpr ⟨ok_M_clears, List.forall_mem_cons.mpr ⟨ok_M_puts, List.forall_mem_cons.mpr ⟨ok_M_nextOrder, List.forall_mem_cons.mpr ⟨ok_M_firstOrder, List.forall_mem_cons.mpr ⟨ok_M_means, List.forall_mem_cons.mpr ⟨ok_M_adds, List.forall_mem_cons.mpr ⟨ok_M_firstUneaten, List.forall_mem_cons.mpr ⟨ok_M_eatNow, List.forall_mem_cons.mpr ⟨ok_M_eating, List.forall_mem_cons.mpr ⟨ok_M_pointOf, List.forall_mem_cons.mpr ⟨ok_M_endsSome, List.forall_mem_cons.mpr ⟨ok_M_endsRing, List.forall_mem_cons.mpr ⟨ok_M_trades, List.forall_mem_cons.mpr ⟨ok_M_takesParts, List.forall_mem_cons.mpr ⟨ok_M_sumOf, List.forall_mem_cons.mpr ⟨ok_M_sumOver, List.forall_mem_cons.mpr ⟨ok_M_less, List.forall_mem_cons.mpr ⟨ok_M_mends, List.forall_mem_cons.mpr ⟨ok_M_shares, List.forall_mem_cons.mpr ⟨ok_M_share, List.forall_mem_cons.mpr ⟨ok_M_stops, List.forall_mem_cons.mpr ⟨ok_M_keepsRow, List.forall_mem_cons.mpr ⟨ok_M_against, List.forall_mem_cons.mpr ⟨ok_M_rather, List.forall_mem_cons.mpr ⟨ok_M_envy, List.forall_mem_cons.mpr ⟨ok_M_areDigits, List.forall_mem_cons.mpr ⟨ok_M_tries, List.forall_mem_cons.mpr ⟨ok_M_keepsOwn, List.forall_mem_cons.mpr ⟨ok_M_isLie, List.forall_mem_cons.mpr ⟨ok_M_wrongly, List.forall_mem_cons.mpr ⟨ok_M_triesAll, List.forall_mem_cons.mpr ⟨ok_M_gains, List.forall_mem_cons.mpr ⟨ok_M_told, List.forall_mem_cons.mpr ⟨ok_M_table, List.forall_mem_cons.mpr ⟨ok_M_barsOf, List.forall_mem_cons.mpr ⟨ok_M_bars, List.forall_mem_cons.mpr ⟨ok_M_finds, List.forall_mem_cons.mpr ⟨ok_M_most, List.forall_mem_cons.mpr ⟨ok_M_parted, List.forall_mem_cons.mpr ⟨ok_M_pointsOf, List.forall_mem_cons.mpr ⟨ok_M_order, List.forall_mem_cons.mpr ⟨ok_M_even, List.forall_mem_cons.mpr ⟨ok_M_evenIs, List.forall_mem_cons.mpr ⟨ok_M_swap, List.forall_mem_cons.mpr ⟨ok_M_years, List.forall_mem_cons.mpr ⟨ok_M_begins, List.forall_mem_cons.mpr ⟨ok_M_aboveOf, List.forall_mem_cons.mpr ⟨ok_M_takesFrom, List.forall_mem_cons.mpr ⟨ok_M_leavesFrom, List.forall_mem_cons.mpr ⟨ok_M_likesFrom, List.forall_mem_cons.mpr ⟨ok_M_tellsFrom, List.forall_mem_cons.mpr ⟨ok_M_act, List.forall_mem_cons.mpr ⟨ok_M_trace, List.forall_mem_cons.mpr ⟨ok_M_isShelf, List.forall_mem_cons.mpr ⟨ok_M_keep, List.forall_mem_cons.mpr ⟨ok_M_row, List.forall_mem_cons.mpr ⟨ok_M_barred, List.forall_mem_cons.mpr ⟨ok_M_put, List.forall_mem_cons.mpr ⟨ok_M_element, List.forall_mem_cons.mpr ⟨ok_M_shift, List.forall_mem_cons.mpr ⟨ok_M_taken, List.forall_mem_cons.mpr ⟨ok_M_count, List.forall_mem_cons.mpr ⟨ok_Integer_bitCount, List.forall_mem_cons.mpr ⟨ok_Arrays_fill_J, List.forall_mem_cons.mpr ⟨ok_Arrays_fill_I, mt_nil⟩⟩⟩⟩⟩⟩⟩⟩⟩⟩⟩⟩⟩⟩⟩⟩⟩⟩⟩⟩⟩⟩⟩⟩⟩⟩⟩⟩⟩⟩⟩⟩⟩⟩⟩⟩⟩⟩⟩⟩⟩⟩⟩⟩⟩⟩⟩⟩⟩⟩⟩⟩⟩⟩⟩⟩⟩⟩⟩⟩⟩⟩⟩⟩⟩⟩⟩⟩⟩⟩⟩⟩⟩⟩⟩⟩⟩⟩⟩⟩⟩⟩⟩⟩⟩⟩⟩⟩⟩⟩⟩⟩⟩⟩⟩⟩⟩⟩⟩⟩⟩⟩⟩⟩⟩⟩⟩⟩⟩⟩⟩⟩⟩⟩⟩⟩⟩⟩⟩⟩⟩⟩⟩⟩⟩⟩⟩⟩⟩⟩⟩⟩⟩⟩⟩⟩⟩⟩⟩⟩⟩⟩⟩⟩⟩⟩⟩⟩⟩⟩⟩⟩⟩⟩⟩⟩⟩⟩⟩⟩⟩⟩⟩⟩⟩⟩⟩⟩⟩⟩⟩⟩⟩⟩⟩⟩⟩⟩⟩⟩⟩⟩⟩⟩⟩⟩⟩⟩⟩⟩⟩⟩⟩⟩⟩⟩⟩⟩⟩⟩⟩⟩⟩⟩⟩⟩⟩⟩⟩⟩⟩⟩⟩⟩⟩⟩⟩⟩⟩⟩⟩⟩⟩⟩⟩⟩⟩⟩⟩⟩⟩⟩⟩⟩⟩⟩⟩⟩⟩⟩⟩⟩⟩⟩⟩⟩⟩⟩⟩⟩
set_option maxRecDepth 100000 in
theorem mt_split : mtab = mtab0 ++ [i_Math_abs, i_Math_max_I, i_Math_max_J, i_Math_min_I, i_Math_min_J, i_L_law] := rfl
set_option maxRecDepth 100000 in
theorem okA : ∀ a, a < 250 → okM (callee a) := by
  intro a ha
  have hl : mtab0.length = 250 := rfl
  unfold callee
  rw [mt_split, List.getD_eq_getElem?_getD, List.getElem?_append_left (by rw [hl]; exact ha), List.getElem?_eq_getElem (by rw [hl]; exact ha)]
  exact mt_ok _ (List.getElem_mem _)
theorem f_LY_0_0 : u_lay (clsOf 0).1 (clsOf 0).2.1 0 ∈ W0 := in_W0 (in_t2 108 rfl) rfl
theorem f_LY_0_1 : u_lay (clsOf 0).1 (clsOf 0).2.1 1 ∈ W0 := in_W0 (in_t2 110 rfl) rfl
theorem f_LY_0_2 : u_lay (clsOf 0).1 (clsOf 0).2.1 2 ∈ W0 := in_W0 (in_t2 112 rfl) rfl
theorem f_LY_0_3 : u_lay (clsOf 0).1 (clsOf 0).2.1 3 ∈ W0 := in_W0 (in_t2 114 rfl) rfl
theorem ly_0 : ∀ j, j < 4 → u_lay (clsOf 0).1 (clsOf 0).2.1 j ∈ W0 := by
  intro j hj
  match j, hj with
  | 0, _ => exact f_LY_0_0
  | 1, _ => exact f_LY_0_1
  | 2, _ => exact f_LY_0_2
  | 3, _ => exact f_LY_0_3
  | k + 4, h => omega
theorem f_LY_1_0 : u_lay (clsOf 1).1 (clsOf 1).2.1 0 ∈ W0 := in_W0 (in_t1 235 rfl) rfl
theorem f_LY_1_1 : u_lay (clsOf 1).1 (clsOf 1).2.1 1 ∈ W0 := in_W0 (in_t1 237 rfl) rfl
theorem f_LY_1_2 : u_lay (clsOf 1).1 (clsOf 1).2.1 2 ∈ W0 := in_W0 (in_t1 239 rfl) rfl
theorem f_LY_1_3 : u_lay (clsOf 1).1 (clsOf 1).2.1 3 ∈ W0 := in_W0 (in_t2 1 rfl) rfl
theorem ly_1 : ∀ j, j < 4 → u_lay (clsOf 1).1 (clsOf 1).2.1 j ∈ W0 := by
  intro j hj
  match j, hj with
  | 0, _ => exact f_LY_1_0
  | 1, _ => exact f_LY_1_1
  | 2, _ => exact f_LY_1_2
  | 3, _ => exact f_LY_1_3
  | k + 4, h => omega
theorem f_LY_2_0 : u_lay (clsOf 2).1 (clsOf 2).2.1 0 ∈ W0 := in_W0 (in_t2 83 rfl) rfl
theorem f_LY_2_1 : u_lay (clsOf 2).1 (clsOf 2).2.1 1 ∈ W0 := in_W0 (in_t2 85 rfl) rfl
theorem f_LY_2_2 : u_lay (clsOf 2).1 (clsOf 2).2.1 2 ∈ W0 := in_W0 (in_t2 87 rfl) rfl
theorem f_LY_2_3 : u_lay (clsOf 2).1 (clsOf 2).2.1 3 ∈ W0 := in_W0 (in_t2 89 rfl) rfl
theorem f_LY_2_4 : u_lay (clsOf 2).1 (clsOf 2).2.1 4 ∈ W0 := in_W0 (in_t2 91 rfl) rfl
theorem f_LY_2_5 : u_lay (clsOf 2).1 (clsOf 2).2.1 5 ∈ W0 := in_W0 (in_t2 93 rfl) rfl
theorem ly_2 : ∀ j, j < 6 → u_lay (clsOf 2).1 (clsOf 2).2.1 j ∈ W0 := by
  intro j hj
  match j, hj with
  | 0, _ => exact f_LY_2_0
  | 1, _ => exact f_LY_2_1
  | 2, _ => exact f_LY_2_2
  | 3, _ => exact f_LY_2_3
  | 4, _ => exact f_LY_2_4
  | 5, _ => exact f_LY_2_5
  | k + 6, h => omega
theorem f_LY_3_0 : u_lay (clsOf 3).1 (clsOf 3).2.1 0 ∈ W0 := in_W0 (in_t1 146 rfl) rfl
theorem f_LY_3_1 : u_lay (clsOf 3).1 (clsOf 3).2.1 1 ∈ W0 := in_W0 (in_t1 148 rfl) rfl
theorem f_LY_3_2 : u_lay (clsOf 3).1 (clsOf 3).2.1 2 ∈ W0 := in_W0 (in_t1 150 rfl) rfl
theorem f_LY_3_3 : u_lay (clsOf 3).1 (clsOf 3).2.1 3 ∈ W0 := in_W0 (in_t1 152 rfl) rfl
theorem f_LY_3_4 : u_lay (clsOf 3).1 (clsOf 3).2.1 4 ∈ W0 := in_W0 (in_t1 154 rfl) rfl
theorem f_LY_3_5 : u_lay (clsOf 3).1 (clsOf 3).2.1 5 ∈ W0 := in_W0 (in_t1 156 rfl) rfl
theorem f_LY_3_6 : u_lay (clsOf 3).1 (clsOf 3).2.1 6 ∈ W0 := in_W0 (in_t1 158 rfl) rfl
theorem f_LY_3_7 : u_lay (clsOf 3).1 (clsOf 3).2.1 7 ∈ W0 := in_W0 (in_t1 160 rfl) rfl
theorem f_LY_3_8 : u_lay (clsOf 3).1 (clsOf 3).2.1 8 ∈ W0 := in_W0 (in_t1 162 rfl) rfl
theorem f_LY_3_9 : u_lay (clsOf 3).1 (clsOf 3).2.1 9 ∈ W0 := in_W0 (in_t1 164 rfl) rfl
theorem f_LY_3_10 : u_lay (clsOf 3).1 (clsOf 3).2.1 10 ∈ W0 := in_W0 (in_t1 166 rfl) rfl
theorem f_LY_3_11 : u_lay (clsOf 3).1 (clsOf 3).2.1 11 ∈ W0 := in_W0 (in_t1 168 rfl) rfl
theorem f_LY_3_12 : u_lay (clsOf 3).1 (clsOf 3).2.1 12 ∈ W0 := in_W0 (in_t1 170 rfl) rfl
theorem ly_3 : ∀ j, j < 13 → u_lay (clsOf 3).1 (clsOf 3).2.1 j ∈ W0 := by
  intro j hj
  match j, hj with
  | 0, _ => exact f_LY_3_0
  | 1, _ => exact f_LY_3_1
  | 2, _ => exact f_LY_3_2
  | 3, _ => exact f_LY_3_3
  | 4, _ => exact f_LY_3_4
  | 5, _ => exact f_LY_3_5
  | 6, _ => exact f_LY_3_6
  | 7, _ => exact f_LY_3_7
  | 8, _ => exact f_LY_3_8
  | 9, _ => exact f_LY_3_9
  | 10, _ => exact f_LY_3_10
  | 11, _ => exact f_LY_3_11
  | 12, _ => exact f_LY_3_12
  | k + 13, h => omega
theorem f_LY_4_0 : u_lay (clsOf 4).1 (clsOf 4).2.1 0 ∈ W0 := in_W0 (in_t1 192 rfl) rfl
theorem f_LY_4_1 : u_lay (clsOf 4).1 (clsOf 4).2.1 1 ∈ W0 := in_W0 (in_t1 194 rfl) rfl
theorem f_LY_4_2 : u_lay (clsOf 4).1 (clsOf 4).2.1 2 ∈ W0 := in_W0 (in_t1 196 rfl) rfl
theorem f_LY_4_3 : u_lay (clsOf 4).1 (clsOf 4).2.1 3 ∈ W0 := in_W0 (in_t1 198 rfl) rfl
theorem f_LY_4_4 : u_lay (clsOf 4).1 (clsOf 4).2.1 4 ∈ W0 := in_W0 (in_t1 200 rfl) rfl
theorem ly_4 : ∀ j, j < 5 → u_lay (clsOf 4).1 (clsOf 4).2.1 j ∈ W0 := by
  intro j hj
  match j, hj with
  | 0, _ => exact f_LY_4_0
  | 1, _ => exact f_LY_4_1
  | 2, _ => exact f_LY_4_2
  | 3, _ => exact f_LY_4_3
  | 4, _ => exact f_LY_4_4
  | k + 5, h => omega
theorem f_LY_5_0 : u_lay (clsOf 5).1 (clsOf 5).2.1 0 ∈ W0 := in_W0 (in_t2 44 rfl) rfl
theorem f_LY_5_1 : u_lay (clsOf 5).1 (clsOf 5).2.1 1 ∈ W0 := in_W0 (in_t2 46 rfl) rfl
theorem f_LY_5_2 : u_lay (clsOf 5).1 (clsOf 5).2.1 2 ∈ W0 := in_W0 (in_t2 48 rfl) rfl
theorem f_LY_5_3 : u_lay (clsOf 5).1 (clsOf 5).2.1 3 ∈ W0 := in_W0 (in_t2 50 rfl) rfl
theorem f_LY_5_4 : u_lay (clsOf 5).1 (clsOf 5).2.1 4 ∈ W0 := in_W0 (in_t2 52 rfl) rfl
theorem f_LY_5_5 : u_lay (clsOf 5).1 (clsOf 5).2.1 5 ∈ W0 := in_W0 (in_t2 54 rfl) rfl
theorem f_LY_5_6 : u_lay (clsOf 5).1 (clsOf 5).2.1 6 ∈ W0 := in_W0 (in_t2 56 rfl) rfl
theorem f_LY_5_7 : u_lay (clsOf 5).1 (clsOf 5).2.1 7 ∈ W0 := in_W0 (in_t2 58 rfl) rfl
theorem f_LY_5_8 : u_lay (clsOf 5).1 (clsOf 5).2.1 8 ∈ W0 := in_W0 (in_t2 60 rfl) rfl
theorem f_LY_5_9 : u_lay (clsOf 5).1 (clsOf 5).2.1 9 ∈ W0 := in_W0 (in_t2 62 rfl) rfl
theorem ly_5 : ∀ j, j < 10 → u_lay (clsOf 5).1 (clsOf 5).2.1 j ∈ W0 := by
  intro j hj
  match j, hj with
  | 0, _ => exact f_LY_5_0
  | 1, _ => exact f_LY_5_1
  | 2, _ => exact f_LY_5_2
  | 3, _ => exact f_LY_5_3
  | 4, _ => exact f_LY_5_4
  | 5, _ => exact f_LY_5_5
  | 6, _ => exact f_LY_5_6
  | 7, _ => exact f_LY_5_7
  | 8, _ => exact f_LY_5_8
  | 9, _ => exact f_LY_5_9
  | k + 10, h => omega
theorem f_LY_6_0 : u_lay (clsOf 6).1 (clsOf 6).2.1 0 ∈ W0 := in_W0 (in_t1 216 rfl) rfl
theorem f_LY_6_1 : u_lay (clsOf 6).1 (clsOf 6).2.1 1 ∈ W0 := in_W0 (in_t1 218 rfl) rfl
theorem f_LY_6_2 : u_lay (clsOf 6).1 (clsOf 6).2.1 2 ∈ W0 := in_W0 (in_t1 220 rfl) rfl
theorem f_LY_6_3 : u_lay (clsOf 6).1 (clsOf 6).2.1 3 ∈ W0 := in_W0 (in_t1 222 rfl) rfl
theorem ly_6 : ∀ j, j < 4 → u_lay (clsOf 6).1 (clsOf 6).2.1 j ∈ W0 := by
  intro j hj
  match j, hj with
  | 0, _ => exact f_LY_6_0
  | 1, _ => exact f_LY_6_1
  | 2, _ => exact f_LY_6_2
  | 3, _ => exact f_LY_6_3
  | k + 4, h => omega
theorem f_LY_7_0 : u_lay (clsOf 7).1 (clsOf 7).2.1 0 ∈ W0 := in_W0 (in_t1 76 rfl) rfl
theorem f_LY_7_1 : u_lay (clsOf 7).1 (clsOf 7).2.1 1 ∈ W0 := in_W0 (in_t1 78 rfl) rfl
theorem f_LY_7_2 : u_lay (clsOf 7).1 (clsOf 7).2.1 2 ∈ W0 := in_W0 (in_t1 80 rfl) rfl
theorem f_LY_7_3 : u_lay (clsOf 7).1 (clsOf 7).2.1 3 ∈ W0 := in_W0 (in_t1 82 rfl) rfl
theorem f_LY_7_4 : u_lay (clsOf 7).1 (clsOf 7).2.1 4 ∈ W0 := in_W0 (in_t1 84 rfl) rfl
theorem ly_7 : ∀ j, j < 5 → u_lay (clsOf 7).1 (clsOf 7).2.1 j ∈ W0 := by
  intro j hj
  match j, hj with
  | 0, _ => exact f_LY_7_0
  | 1, _ => exact f_LY_7_1
  | 2, _ => exact f_LY_7_2
  | 3, _ => exact f_LY_7_3
  | 4, _ => exact f_LY_7_4
  | k + 5, h => omega
theorem f_LY_8_0 : u_lay (clsOf 8).1 (clsOf 8).2.1 0 ∈ W0 := in_W0 (in_t2 133 rfl) rfl
theorem f_LY_8_1 : u_lay (clsOf 8).1 (clsOf 8).2.1 1 ∈ W0 := in_W0 (in_t2 135 rfl) rfl
theorem f_LY_8_2 : u_lay (clsOf 8).1 (clsOf 8).2.1 2 ∈ W0 := in_W0 (in_t2 137 rfl) rfl
theorem f_LY_8_3 : u_lay (clsOf 8).1 (clsOf 8).2.1 3 ∈ W0 := in_W0 (in_t2 139 rfl) rfl
theorem f_LY_8_4 : u_lay (clsOf 8).1 (clsOf 8).2.1 4 ∈ W0 := in_W0 (in_t2 141 rfl) rfl
theorem ly_8 : ∀ j, j < 5 → u_lay (clsOf 8).1 (clsOf 8).2.1 j ∈ W0 := by
  intro j hj
  match j, hj with
  | 0, _ => exact f_LY_8_0
  | 1, _ => exact f_LY_8_1
  | 2, _ => exact f_LY_8_2
  | 3, _ => exact f_LY_8_3
  | 4, _ => exact f_LY_8_4
  | k + 5, h => omega
theorem f_LY_9_0 : u_lay (clsOf 9).1 (clsOf 9).2.1 0 ∈ W0 := in_W0 (in_t1 37 rfl) rfl
theorem f_LY_9_1 : u_lay (clsOf 9).1 (clsOf 9).2.1 1 ∈ W0 := in_W0 (in_t1 39 rfl) rfl
theorem f_LY_9_2 : u_lay (clsOf 9).1 (clsOf 9).2.1 2 ∈ W0 := in_W0 (in_t1 41 rfl) rfl
theorem ly_9 : ∀ j, j < 3 → u_lay (clsOf 9).1 (clsOf 9).2.1 j ∈ W0 := by
  intro j hj
  match j, hj with
  | 0, _ => exact f_LY_9_0
  | 1, _ => exact f_LY_9_1
  | 2, _ => exact f_LY_9_2
  | k + 3, h => omega
theorem f_LY_10_0 : u_lay (clsOf 10).1 (clsOf 10).2.1 0 ∈ W0 := in_W0 (in_t2 14 rfl) rfl
theorem f_LY_10_1 : u_lay (clsOf 10).1 (clsOf 10).2.1 1 ∈ W0 := in_W0 (in_t2 16 rfl) rfl
theorem f_LY_10_2 : u_lay (clsOf 10).1 (clsOf 10).2.1 2 ∈ W0 := in_W0 (in_t2 18 rfl) rfl
theorem f_LY_10_3 : u_lay (clsOf 10).1 (clsOf 10).2.1 3 ∈ W0 := in_W0 (in_t2 20 rfl) rfl
theorem ly_10 : ∀ j, j < 4 → u_lay (clsOf 10).1 (clsOf 10).2.1 j ∈ W0 := by
  intro j hj
  match j, hj with
  | 0, _ => exact f_LY_10_0
  | 1, _ => exact f_LY_10_1
  | 2, _ => exact f_LY_10_2
  | 3, _ => exact f_LY_10_3
  | k + 4, h => omega
theorem f_LY_11_0 : u_lay (clsOf 11).1 (clsOf 11).2.1 0 ∈ W0 := in_W0 (in_t2 163 rfl) rfl
theorem f_LY_11_1 : u_lay (clsOf 11).1 (clsOf 11).2.1 1 ∈ W0 := in_W0 (in_t2 165 rfl) rfl
theorem f_LY_11_2 : u_lay (clsOf 11).1 (clsOf 11).2.1 2 ∈ W0 := in_W0 (in_t2 167 rfl) rfl
theorem f_LY_11_3 : u_lay (clsOf 11).1 (clsOf 11).2.1 3 ∈ W0 := in_W0 (in_t2 169 rfl) rfl
theorem f_LY_11_4 : u_lay (clsOf 11).1 (clsOf 11).2.1 4 ∈ W0 := in_W0 (in_t2 171 rfl) rfl
theorem f_LY_11_5 : u_lay (clsOf 11).1 (clsOf 11).2.1 5 ∈ W0 := in_W0 (in_t2 173 rfl) rfl
theorem f_LY_11_6 : u_lay (clsOf 11).1 (clsOf 11).2.1 6 ∈ W0 := in_W0 (in_t2 175 rfl) rfl
theorem f_LY_11_7 : u_lay (clsOf 11).1 (clsOf 11).2.1 7 ∈ W0 := in_W0 (in_t2 177 rfl) rfl
theorem f_LY_11_8 : u_lay (clsOf 11).1 (clsOf 11).2.1 8 ∈ W0 := in_W0 (in_t2 179 rfl) rfl
theorem f_LY_11_9 : u_lay (clsOf 11).1 (clsOf 11).2.1 9 ∈ W0 := in_W0 (in_t2 181 rfl) rfl
theorem f_LY_11_10 : u_lay (clsOf 11).1 (clsOf 11).2.1 10 ∈ W0 := in_W0 (in_t2 183 rfl) rfl
theorem f_LY_11_11 : u_lay (clsOf 11).1 (clsOf 11).2.1 11 ∈ W0 := in_W0 (in_t2 185 rfl) rfl
theorem f_LY_11_12 : u_lay (clsOf 11).1 (clsOf 11).2.1 12 ∈ W0 := in_W0 (in_t2 187 rfl) rfl
theorem f_LY_11_13 : u_lay (clsOf 11).1 (clsOf 11).2.1 13 ∈ W0 := in_W0 (in_t2 189 rfl) rfl
theorem f_LY_11_14 : u_lay (clsOf 11).1 (clsOf 11).2.1 14 ∈ W0 := in_W0 (in_t2 191 rfl) rfl
theorem f_LY_11_15 : u_lay (clsOf 11).1 (clsOf 11).2.1 15 ∈ W0 := in_W0 (in_t2 193 rfl) rfl
theorem f_LY_11_16 : u_lay (clsOf 11).1 (clsOf 11).2.1 16 ∈ W0 := in_W0 (in_t2 195 rfl) rfl
theorem f_LY_11_17 : u_lay (clsOf 11).1 (clsOf 11).2.1 17 ∈ W0 := in_W0 (in_t2 197 rfl) rfl
theorem f_LY_11_18 : u_lay (clsOf 11).1 (clsOf 11).2.1 18 ∈ W0 := in_W0 (in_t2 199 rfl) rfl
theorem ly_11 : ∀ j, j < 19 → u_lay (clsOf 11).1 (clsOf 11).2.1 j ∈ W0 := by
  intro j hj
  match j, hj with
  | 0, _ => exact f_LY_11_0
  | 1, _ => exact f_LY_11_1
  | 2, _ => exact f_LY_11_2
  | 3, _ => exact f_LY_11_3
  | 4, _ => exact f_LY_11_4
  | 5, _ => exact f_LY_11_5
  | 6, _ => exact f_LY_11_6
  | 7, _ => exact f_LY_11_7
  | 8, _ => exact f_LY_11_8
  | 9, _ => exact f_LY_11_9
  | 10, _ => exact f_LY_11_10
  | 11, _ => exact f_LY_11_11
  | 12, _ => exact f_LY_11_12
  | 13, _ => exact f_LY_11_13
  | 14, _ => exact f_LY_11_14
  | 15, _ => exact f_LY_11_15
  | 16, _ => exact f_LY_11_16
  | 17, _ => exact f_LY_11_17
  | 18, _ => exact f_LY_11_18
  | k + 19, h => omega
theorem f_LY_12_0 : u_lay (clsOf 12).1 (clsOf 12).2.1 0 ∈ W0 := in_W0 (in_t5 146 rfl) rfl
theorem f_LY_12_1 : u_lay (clsOf 12).1 (clsOf 12).2.1 1 ∈ W0 := in_W0 (in_t5 148 rfl) rfl
theorem f_LY_12_2 : u_lay (clsOf 12).1 (clsOf 12).2.1 2 ∈ W0 := in_W0 (in_t5 150 rfl) rfl
theorem f_LY_12_3 : u_lay (clsOf 12).1 (clsOf 12).2.1 3 ∈ W0 := in_W0 (in_t5 152 rfl) rfl
theorem f_LY_12_4 : u_lay (clsOf 12).1 (clsOf 12).2.1 4 ∈ W0 := in_W0 (in_t5 154 rfl) rfl
theorem f_LY_12_5 : u_lay (clsOf 12).1 (clsOf 12).2.1 5 ∈ W0 := in_W0 (in_t5 156 rfl) rfl
theorem f_LY_12_6 : u_lay (clsOf 12).1 (clsOf 12).2.1 6 ∈ W0 := in_W0 (in_t5 158 rfl) rfl
theorem f_LY_12_7 : u_lay (clsOf 12).1 (clsOf 12).2.1 7 ∈ W0 := in_W0 (in_t5 160 rfl) rfl
theorem f_LY_12_8 : u_lay (clsOf 12).1 (clsOf 12).2.1 8 ∈ W0 := in_W0 (in_t5 162 rfl) rfl
theorem f_LY_12_9 : u_lay (clsOf 12).1 (clsOf 12).2.1 9 ∈ W0 := in_W0 (in_t5 164 rfl) rfl
theorem f_LY_12_10 : u_lay (clsOf 12).1 (clsOf 12).2.1 10 ∈ W0 := in_W0 (in_t5 166 rfl) rfl
theorem f_LY_12_11 : u_lay (clsOf 12).1 (clsOf 12).2.1 11 ∈ W0 := in_W0 (in_t5 168 rfl) rfl
theorem f_LY_12_12 : u_lay (clsOf 12).1 (clsOf 12).2.1 12 ∈ W0 := in_W0 (in_t5 170 rfl) rfl
theorem f_LY_12_13 : u_lay (clsOf 12).1 (clsOf 12).2.1 13 ∈ W0 := in_W0 (in_t5 172 rfl) rfl
theorem f_LY_12_14 : u_lay (clsOf 12).1 (clsOf 12).2.1 14 ∈ W0 := in_W0 (in_t5 174 rfl) rfl
theorem f_LY_12_15 : u_lay (clsOf 12).1 (clsOf 12).2.1 15 ∈ W0 := in_W0 (in_t5 176 rfl) rfl
theorem f_LY_12_16 : u_lay (clsOf 12).1 (clsOf 12).2.1 16 ∈ W0 := in_W0 (in_t5 178 rfl) rfl
theorem f_LY_12_17 : u_lay (clsOf 12).1 (clsOf 12).2.1 17 ∈ W0 := in_W0 (in_t5 180 rfl) rfl
theorem f_LY_12_18 : u_lay (clsOf 12).1 (clsOf 12).2.1 18 ∈ W0 := in_W0 (in_t5 182 rfl) rfl
theorem f_LY_12_19 : u_lay (clsOf 12).1 (clsOf 12).2.1 19 ∈ W0 := in_W0 (in_t5 184 rfl) rfl
theorem f_LY_12_20 : u_lay (clsOf 12).1 (clsOf 12).2.1 20 ∈ W0 := in_W0 (in_t5 186 rfl) rfl
theorem f_LY_12_21 : u_lay (clsOf 12).1 (clsOf 12).2.1 21 ∈ W0 := in_W0 (in_t5 188 rfl) rfl
theorem f_LY_12_22 : u_lay (clsOf 12).1 (clsOf 12).2.1 22 ∈ W0 := in_W0 (in_t5 190 rfl) rfl
theorem f_LY_12_23 : u_lay (clsOf 12).1 (clsOf 12).2.1 23 ∈ W0 := in_W0 (in_t5 192 rfl) rfl
theorem f_LY_12_24 : u_lay (clsOf 12).1 (clsOf 12).2.1 24 ∈ W0 := in_W0 (in_t5 194 rfl) rfl
theorem f_LY_12_25 : u_lay (clsOf 12).1 (clsOf 12).2.1 25 ∈ W0 := in_W0 (in_t5 196 rfl) rfl
theorem f_LY_12_26 : u_lay (clsOf 12).1 (clsOf 12).2.1 26 ∈ W0 := in_W0 (in_t5 198 rfl) rfl
theorem f_LY_12_27 : u_lay (clsOf 12).1 (clsOf 12).2.1 27 ∈ W0 := in_W0 (in_t5 200 rfl) rfl
theorem f_LY_12_28 : u_lay (clsOf 12).1 (clsOf 12).2.1 28 ∈ W0 := in_W0 (in_t5 202 rfl) rfl
theorem f_LY_12_29 : u_lay (clsOf 12).1 (clsOf 12).2.1 29 ∈ W0 := in_W0 (in_t5 204 rfl) rfl
theorem f_LY_12_30 : u_lay (clsOf 12).1 (clsOf 12).2.1 30 ∈ W0 := in_W0 (in_t5 206 rfl) rfl
theorem f_LY_12_31 : u_lay (clsOf 12).1 (clsOf 12).2.1 31 ∈ W0 := in_W0 (in_t5 208 rfl) rfl
theorem f_LY_12_32 : u_lay (clsOf 12).1 (clsOf 12).2.1 32 ∈ W0 := in_W0 (in_t5 210 rfl) rfl
theorem f_LY_12_33 : u_lay (clsOf 12).1 (clsOf 12).2.1 33 ∈ W0 := in_W0 (in_t5 212 rfl) rfl
theorem f_LY_12_34 : u_lay (clsOf 12).1 (clsOf 12).2.1 34 ∈ W0 := in_W0 (in_t5 214 rfl) rfl
theorem f_LY_12_35 : u_lay (clsOf 12).1 (clsOf 12).2.1 35 ∈ W0 := in_W0 (in_t5 216 rfl) rfl
theorem f_LY_12_36 : u_lay (clsOf 12).1 (clsOf 12).2.1 36 ∈ W0 := in_W0 (in_t5 218 rfl) rfl
theorem f_LY_12_37 : u_lay (clsOf 12).1 (clsOf 12).2.1 37 ∈ W0 := in_W0 (in_t5 220 rfl) rfl
theorem f_LY_12_38 : u_lay (clsOf 12).1 (clsOf 12).2.1 38 ∈ W0 := in_W0 (in_t5 222 rfl) rfl
theorem f_LY_12_39 : u_lay (clsOf 12).1 (clsOf 12).2.1 39 ∈ W0 := in_W0 (in_t5 224 rfl) rfl
theorem f_LY_12_40 : u_lay (clsOf 12).1 (clsOf 12).2.1 40 ∈ W0 := in_W0 (in_t5 226 rfl) rfl
theorem f_LY_12_41 : u_lay (clsOf 12).1 (clsOf 12).2.1 41 ∈ W0 := in_W0 (in_t5 228 rfl) rfl
theorem f_LY_12_42 : u_lay (clsOf 12).1 (clsOf 12).2.1 42 ∈ W0 := in_W0 (in_t5 230 rfl) rfl
theorem f_LY_12_43 : u_lay (clsOf 12).1 (clsOf 12).2.1 43 ∈ W0 := in_W0 (in_t5 232 rfl) rfl
theorem f_LY_12_44 : u_lay (clsOf 12).1 (clsOf 12).2.1 44 ∈ W0 := in_W0 (in_t5 234 rfl) rfl
theorem f_LY_12_45 : u_lay (clsOf 12).1 (clsOf 12).2.1 45 ∈ W0 := in_W0 (in_t5 236 rfl) rfl
theorem f_LY_12_46 : u_lay (clsOf 12).1 (clsOf 12).2.1 46 ∈ W0 := in_W0 (in_t5 238 rfl) rfl
theorem f_LY_12_47 : u_lay (clsOf 12).1 (clsOf 12).2.1 47 ∈ W0 := in_W0 (in_t6 0 rfl) rfl
theorem f_LY_12_48 : u_lay (clsOf 12).1 (clsOf 12).2.1 48 ∈ W0 := in_W0 (in_t6 2 rfl) rfl
theorem f_LY_12_49 : u_lay (clsOf 12).1 (clsOf 12).2.1 49 ∈ W0 := in_W0 (in_t6 4 rfl) rfl
theorem f_LY_12_50 : u_lay (clsOf 12).1 (clsOf 12).2.1 50 ∈ W0 := in_W0 (in_t6 6 rfl) rfl
theorem f_LY_12_51 : u_lay (clsOf 12).1 (clsOf 12).2.1 51 ∈ W0 := in_W0 (in_t6 8 rfl) rfl
theorem f_LY_12_52 : u_lay (clsOf 12).1 (clsOf 12).2.1 52 ∈ W0 := in_W0 (in_t6 10 rfl) rfl
theorem f_LY_12_53 : u_lay (clsOf 12).1 (clsOf 12).2.1 53 ∈ W0 := in_W0 (in_t6 12 rfl) rfl
theorem f_LY_12_54 : u_lay (clsOf 12).1 (clsOf 12).2.1 54 ∈ W0 := in_W0 (in_t6 14 rfl) rfl
theorem f_LY_12_55 : u_lay (clsOf 12).1 (clsOf 12).2.1 55 ∈ W0 := in_W0 (in_t6 16 rfl) rfl
theorem f_LY_12_56 : u_lay (clsOf 12).1 (clsOf 12).2.1 56 ∈ W0 := in_W0 (in_t6 18 rfl) rfl
theorem f_LY_12_57 : u_lay (clsOf 12).1 (clsOf 12).2.1 57 ∈ W0 := in_W0 (in_t6 20 rfl) rfl
theorem f_LY_12_58 : u_lay (clsOf 12).1 (clsOf 12).2.1 58 ∈ W0 := in_W0 (in_t6 22 rfl) rfl
theorem f_LY_12_59 : u_lay (clsOf 12).1 (clsOf 12).2.1 59 ∈ W0 := in_W0 (in_t6 24 rfl) rfl
theorem f_LY_12_60 : u_lay (clsOf 12).1 (clsOf 12).2.1 60 ∈ W0 := in_W0 (in_t6 26 rfl) rfl
theorem f_LY_12_61 : u_lay (clsOf 12).1 (clsOf 12).2.1 61 ∈ W0 := in_W0 (in_t6 28 rfl) rfl
theorem f_LY_12_62 : u_lay (clsOf 12).1 (clsOf 12).2.1 62 ∈ W0 := in_W0 (in_t6 30 rfl) rfl
theorem f_LY_12_63 : u_lay (clsOf 12).1 (clsOf 12).2.1 63 ∈ W0 := in_W0 (in_t6 32 rfl) rfl
theorem f_LY_12_64 : u_lay (clsOf 12).1 (clsOf 12).2.1 64 ∈ W0 := in_W0 (in_t6 34 rfl) rfl
theorem ly_12 : ∀ j, j < 65 → u_lay (clsOf 12).1 (clsOf 12).2.1 j ∈ W0 := by
  intro j hj
  match j, hj with
  | 0, _ => exact f_LY_12_0
  | 1, _ => exact f_LY_12_1
  | 2, _ => exact f_LY_12_2
  | 3, _ => exact f_LY_12_3
  | 4, _ => exact f_LY_12_4
  | 5, _ => exact f_LY_12_5
  | 6, _ => exact f_LY_12_6
  | 7, _ => exact f_LY_12_7
  | 8, _ => exact f_LY_12_8
  | 9, _ => exact f_LY_12_9
  | 10, _ => exact f_LY_12_10
  | 11, _ => exact f_LY_12_11
  | 12, _ => exact f_LY_12_12
  | 13, _ => exact f_LY_12_13
  | 14, _ => exact f_LY_12_14
  | 15, _ => exact f_LY_12_15
  | 16, _ => exact f_LY_12_16
  | 17, _ => exact f_LY_12_17
  | 18, _ => exact f_LY_12_18
  | 19, _ => exact f_LY_12_19
  | 20, _ => exact f_LY_12_20
  | 21, _ => exact f_LY_12_21
  | 22, _ => exact f_LY_12_22
  | 23, _ => exact f_LY_12_23
  | 24, _ => exact f_LY_12_24
  | 25, _ => exact f_LY_12_25
  | 26, _ => exact f_LY_12_26
  | 27, _ => exact f_LY_12_27
  | 28, _ => exact f_LY_12_28
  | 29, _ => exact f_LY_12_29
  | 30, _ => exact f_LY_12_30
  | 31, _ => exact f_LY_12_31
  | 32, _ => exact f_LY_12_32
  | 33, _ => exact f_LY_12_33
  | 34, _ => exact f_LY_12_34
  | 35, _ => exact f_LY_12_35
  | 36, _ => exact f_LY_12_36
  | 37, _ => exact f_LY_12_37
  | 38, _ => exact f_LY_12_38
  | 39, _ => exact f_LY_12_39
  | 40, _ => exact f_LY_12_40
  | 41, _ => exact f_LY_12_41
  | 42, _ => exact f_LY_12_42
  | 43, _ => exact f_LY_12_43
  | 44, _ => exact f_LY_12_44
  | 45, _ => exact f_LY_12_45
  | 46, _ => exact f_LY_12_46
  | 47, _ => exact f_LY_12_47
  | 48, _ => exact f_LY_12_48
  | 49, _ => exact f_LY_12_49
  | 50, _ => exact f_LY_12_50
  | 51, _ => exact f_LY_12_51
  | 52, _ => exact f_LY_12_52
  | 53, _ => exact f_LY_12_53
  | 54, _ => exact f_LY_12_54
  | 55, _ => exact f_LY_12_55
  | 56, _ => exact f_LY_12_56
  | 57, _ => exact f_LY_12_57
  | 58, _ => exact f_LY_12_58
  | 59, _ => exact f_LY_12_59
  | 60, _ => exact f_LY_12_60
  | 61, _ => exact f_LY_12_61
  | 62, _ => exact f_LY_12_62
  | 63, _ => exact f_LY_12_63
  | 64, _ => exact f_LY_12_64
  | k + 65, h => omega
theorem cls_in : ∀ a, a < 13 → ∀ w ∈ u_ws (clsOf a).1 (clsOf a).2.1 (clsOf a).2.2, w ∈ W0 := by
  intro a ha w hw
  obtain ⟨j, hj, rfl⟩ := List.mem_map.mp hw
  have hj := List.mem_range.mp hj
  match a, ha with
  | 0, _ => exact ly_0 j hj
  | 1, _ => exact ly_1 j hj
  | 2, _ => exact ly_2 j hj
  | 3, _ => exact ly_3 j hj
  | 4, _ => exact ly_4 j hj
  | 5, _ => exact ly_5 j hj
  | 6, _ => exact ly_6 j hj
  | 7, _ => exact ly_7 j hj
  | 8, _ => exact ly_8 j hj
  | 9, _ => exact ly_9 j hj
  | 10, _ => exact ly_10 j hj
  | 11, _ => exact ly_11 j hj
  | 12, _ => exact ly_12 j hj
  | k + 13, h => omega
theorem ini_math : Jvm.Cond.initialized "java/lang/Math" ∈ W0 := in_W0 (in_t1 16 rfl) rfl
theorem mnm_4 : mN (callee 250) = Lib.MathLoose.abs_long.x := rfl
theorem mst_4 : Jvm.Cond.static Lib.MathLoose.abs_long.x ∈ W0 := in_W0 (in_t4 31 rfl) rfl
theorem mco_4 : Jvm.Cond.code Lib.MathLoose.abs_long.x Lib.MathLoose.abs_long.code 2 (some .long) ∈ W0 := in_W0 (in_t4 32 rfl) rfl
theorem mnm_0 : mN (callee 251) = Lib.Math.max.name := rfl
theorem mst_0 : Jvm.Cond.static Lib.Math.max.name ∈ W0 := in_W0 (in_t4 142 rfl) rfl
theorem mco_0 : Jvm.Cond.code Lib.Math.max.name Lib.Math.max.code 2 (some .int) ∈ W0 := in_W0 (in_t4 143 rfl) rfl
theorem mnm_2 : mN (callee 252) = Lib.MathLoose.max_long.x := rfl
theorem mst_2 : Jvm.Cond.static Lib.MathLoose.max_long.x ∈ W0 := in_W0 (in_t3 207 rfl) rfl
theorem mco_2 : Jvm.Cond.code Lib.MathLoose.max_long.x Lib.MathLoose.max_long.code 4 (some .long) ∈ W0 := in_W0 (in_t3 208 rfl) rfl
theorem mnm_1 : mN (callee 253) = Lib.Math.min.name := rfl
theorem mst_1 : Jvm.Cond.static Lib.Math.min.name ∈ W0 := in_W0 (in_t4 161 rfl) rfl
theorem mco_1 : Jvm.Cond.code Lib.Math.min.name Lib.Math.min.code 2 (some .int) ∈ W0 := in_W0 (in_t4 162 rfl) rfl
theorem mnm_3 : mN (callee 254) = Lib.MathLoose.min_long.x := rfl
theorem mst_3 : Jvm.Cond.static Lib.MathLoose.min_long.x ∈ W0 := in_W0 (in_t4 24 rfl) rfl
theorem mco_3 : Jvm.Cond.code Lib.MathLoose.min_long.x Lib.MathLoose.min_long.code 4 (some .long) ∈ W0 := in_W0 (in_t4 25 rfl) rfl
theorem mid_at : ∀ a b : Nat, mathI a b = true → (a = 250 ∧ b = 4) ∨ (a = 251 ∧ b = 0) ∨ (a = 252 ∧ b = 2) ∨ (a = 253 ∧ b = 1) ∨ (a = 254 ∧ b = 3) := by
  intro a b h
  simp [mathI] at h
  omega
end
section
theorem okA2 : ∀ a, a < 250 → okM (callee a) := okA
set_option maxRecDepth 100000 in
theorem ck_Acts_init : chkM i_Acts_init = true := by decide +kernel
set_option maxRecDepth 100000 in
theorem ck_Acts_clear : chkM i_Acts_clear = true := by decide +kernel
set_option maxRecDepth 100000 in
theorem ck_Acts_perform : chkM i_Acts_perform = true := by decide +kernel
set_option maxRecDepth 100000 in
theorem ck_Acts_note : chkM i_Acts_note = true := by decide +kernel
set_option maxRecDepth 100000 in
theorem ck_Acts_begin : chkM i_Acts_begin = true := by decide +kernel
set_option maxRecDepth 100000 in
theorem ck_Eating_init : chkM i_Eating_init = true := by decide +kernel
set_option maxRecDepth 100000 in
theorem ck_Eating_eat : chkM i_Eating_eat = true := by decide +kernel
set_option maxRecDepth 100000 in
theorem ck_Eating_choose : chkM i_Eating_choose = true := by decide +kernel
set_option maxRecDepth 100000 in
theorem ck_Eating_nextEaten : chkM i_Eating_nextEaten = true := by decide +kernel
set_option maxRecDepth 100000 in
theorem ck_Eating_widen : chkM i_Eating_widen = true := by decide +kernel
set_option maxRecDepth 100000 in
theorem ck_Eating_pass : chkM i_Eating_pass = true := by decide +kernel
set_option maxRecDepth 100000 in
theorem ck_Evens_init : chkM i_Evens_init = true := by decide +kernel
set_option maxRecDepth 100000 in
theorem ck_Evens_isTold : chkM i_Evens_isTold = true := by decide +kernel
set_option maxRecDepth 100000 in
theorem ck_Evens_add : chkM i_Evens_add = true := by decide +kernel
set_option maxRecDepth 100000 in
theorem ck_Evens_keepPoints : chkM i_Evens_keepPoints = true := by decide +kernel
set_option maxRecDepth 100000 in
theorem ck_Evens_choose : chkM i_Evens_choose = true := by decide +kernel
set_option maxRecDepth 100000 in
theorem ck_Evens_leastOf : chkM i_Evens_leastOf = true := by decide +kernel
set_option maxRecDepth 100000 in
theorem ck_Giving_init : chkM i_Giving_init = true := by decide +kernel
set_option maxRecDepth 100000 in
theorem ck_Giving_isPart : chkM i_Giving_isPart = true := by decide +kernel
set_option maxRecDepth 100000 in
theorem ck_Giving_clear : chkM i_Giving_clear = true := by decide +kernel
set_option maxRecDepth 100000 in
theorem ck_Giving_become : chkM i_Giving_become = true := by decide +kernel
set_option maxRecDepth 100000 in
theorem ck_Giving_forgetAll : chkM i_Giving_forgetAll = true := by decide +kernel
set_option maxRecDepth 100000 in
theorem ck_Giving_unlist : chkM i_Giving_unlist = true := by decide +kernel
set_option maxRecDepth 100000 in
theorem ck_Giving_append : chkM i_Giving_append = true := by decide +kernel
set_option maxRecDepth 100000 in
theorem ck_Giving_relist : chkM i_Giving_relist = true := by decide +kernel
set_option maxRecDepth 100000 in
theorem ck_Giving_heldOf : chkM i_Giving_heldOf = true := by decide +kernel
set_option maxRecDepth 100000 in
theorem ck_Giving_firstOf : chkM i_Giving_firstOf = true := by decide +kernel
set_option maxRecDepth 100000 in
theorem ck_Giving_partsOfPerson : chkM i_Giving_partsOfPerson = true := by decide +kernel
set_option maxRecDepth 100000 in
theorem ck_Giving_partsOfThing : chkM i_Giving_partsOfThing = true := by decide +kernel
set_option maxRecDepth 100000 in
theorem ck_Giving_barring : chkM i_Giving_barring = true := by decide +kernel
set_option maxRecDepth 100000 in
theorem ck_Giving_hasUnlisted : chkM i_Giving_hasUnlisted = true := by decide +kernel
set_option maxRecDepth 100000 in
theorem ck_Giving_canBeParted : chkM i_Giving_canBeParted = true := by decide +kernel
set_option maxRecDepth 100000 in
theorem ck_Hand_init : chkM i_Hand_init = true := by decide +kernel
set_option maxRecDepth 100000 in
theorem ck_Hand_deal : chkM i_Hand_deal = true := by decide +kernel
set_option maxRecDepth 100000 in
theorem ck_Hand_take : chkM i_Hand_take = true := by decide +kernel
set_option maxRecDepth 100000 in
theorem ck_Hand_countOf : chkM i_Hand_countOf = true := by decide +kernel
set_option maxRecDepth 100000 in
theorem ck_Hand_pointsOf : chkM i_Hand_pointsOf = true := by decide +kernel
set_option maxRecDepth 100000 in
theorem ck_Hand_gapOf : chkM i_Hand_gapOf = true := by decide +kernel
set_option maxRecDepth 100000 in
theorem ck_Parting_init : chkM i_Parting_init = true := by decide +kernel
set_option maxRecDepth 100000 in
theorem ck_Parting_forget : chkM i_Parting_forget = true := by decide +kernel
set_option maxRecDepth 100000 in
theorem ck_Parting_split : chkM i_Parting_split = true := by decide +kernel
set_option maxRecDepth 100000 in
theorem ck_Parting_measure : chkM i_Parting_measure = true := by decide +kernel
set_option maxRecDepth 100000 in
theorem ck_Parting_pickFirst : chkM i_Parting_pickFirst = true := by decide +kernel
set_option maxRecDepth 100000 in
theorem ck_Parting_pickFor : chkM i_Parting_pickFor = true := by decide +kernel
set_option maxRecDepth 100000 in
theorem ck_Parting_canGoOn : chkM i_Parting_canGoOn = true := by decide +kernel
set_option maxRecDepth 100000 in
theorem ck_Parting_mostOff : chkM i_Parting_mostOff = true := by decide +kernel
set_option maxRecDepth 100000 in
theorem ck_Rings_init : chkM i_Rings_init = true := by decide +kernel
set_option maxRecDepth 100000 in
theorem ck_Rings_forget : chkM i_Rings_forget = true := by decide +kernel
set_option maxRecDepth 100000 in
theorem ck_Rings_find : chkM i_Rings_find = true := by decide +kernel
set_option maxRecDepth 100000 in
theorem ck_Rings_findAlone : chkM i_Rings_findAlone = true := by decide +kernel
set_option maxRecDepth 100000 in
theorem ck_Rings_findLeft : chkM i_Rings_findLeft = true := by decide +kernel
set_option maxRecDepth 100000 in
theorem ck_Rings_isBetter : chkM i_Rings_isBetter = true := by decide +kernel
set_option maxRecDepth 100000 in
theorem ck_Rings_addPerson : chkM i_Rings_addPerson = true := by decide +kernel
set_option maxRecDepth 100000 in
theorem ck_Rings_isAmong : chkM i_Rings_isAmong = true := by decide +kernel
set_option maxRecDepth 100000 in
theorem ck_Rings_addThing : chkM i_Rings_addThing = true := by decide +kernel
set_option maxRecDepth 100000 in
theorem ck_Shares_init : chkM i_Shares_init = true := by decide +kernel
set_option maxRecDepth 100000 in
theorem ck_Shares_clear : chkM i_Shares_clear = true := by decide +kernel
set_option maxRecDepth 100000 in
theorem ck_Shares_addOrders : chkM i_Shares_addOrders = true := by decide +kernel
set_option maxRecDepth 100000 in
theorem ck_Shares_addHand : chkM i_Shares_addHand = true := by decide +kernel
set_option maxRecDepth 100000 in
theorem ck_Shares_copyTable : chkM i_Shares_copyTable = true := by decide +kernel
set_option maxRecDepth 100000 in
theorem ck_Shares_mend : chkM i_Shares_mend = true := by decide +kernel
set_option maxRecDepth 100000 in
theorem ck_Shares_dropUnlisted : chkM i_Shares_dropUnlisted = true := by decide +kernel
set_option maxRecDepth 100000 in
theorem ck_Shares_cut : chkM i_Shares_cut = true := by decide +kernel
set_option maxRecDepth 100000 in
theorem ck_Shelf_init : chkM i_Shelf_init = true := by decide +kernel
set_option maxRecDepth 100000 in
theorem ck_Shelf_keepKind : chkM i_Shelf_keepKind = true := by decide +kernel
set_option maxRecDepth 100000 in
theorem ck_Shelf_keepRow : chkM i_Shelf_keepRow = true := by decide +kernel
set_option maxRecDepth 100000 in
theorem ck_Shelf_hasRoom : chkM i_Shelf_hasRoom = true := by decide +kernel
set_option maxRecDepth 100000 in
theorem ck_Shelf_write : chkM i_Shelf_write = true := by decide +kernel
set_option maxRecDepth 100000 in
theorem ck_Tape_init : chkM i_Tape_init = true := by decide +kernel
set_option maxRecDepth 100000 in
theorem ck_Tape_add : chkM i_Tape_add = true := by decide +kernel
set_option maxRecDepth 100000 in
theorem ck_Tape_readGiving : chkM i_Tape_readGiving = true := by decide +kernel
set_option maxRecDepth 100000 in
theorem ck_Tape_readInstead : chkM i_Tape_readInstead = true := by decide +kernel
set_option maxRecDepth 100000 in
theorem ck_Tape_next : chkM i_Tape_next = true := by decide +kernel
set_option maxRecDepth 100000 in
theorem ck_Tape_readThings : chkM i_Tape_readThings = true := by decide +kernel
set_option maxRecDepth 100000 in
theorem ck_Tape_readLists : chkM i_Tape_readLists = true := by decide +kernel
set_option maxRecDepth 100000 in
theorem ck_Tape_readList : chkM i_Tape_readList = true := by decide +kernel
set_option maxRecDepth 100000 in
theorem ck_Tape_readHeld : chkM i_Tape_readHeld = true := by decide +kernel
set_option maxRecDepth 100000 in
theorem ck_Trade_init : chkM i_Trade_init = true := by decide +kernel
set_option maxRecDepth 100000 in
theorem ck_Trade_exchange : chkM i_Trade_exchange = true := by decide +kernel
set_option maxRecDepth 100000 in
theorem ck_Trade_pointAll : chkM i_Trade_pointAll = true := by decide +kernel
set_option maxRecDepth 100000 in
theorem ck_Trade_holderOf : chkM i_Trade_holderOf = true := by decide +kernel
set_option maxRecDepth 100000 in
theorem ck_Trade_closeRing : chkM i_Trade_closeRing = true := by decide +kernel
set_option maxRecDepth 100000 in
theorem ck_Trade_isInRing : chkM i_Trade_isInRing = true := by decide +kernel
set_option maxRecDepth 100000 in
theorem ck_Trade_takeRest : chkM i_Trade_takeRest = true := by decide +kernel
set_option maxRecDepth 100000 in
theorem ck_Trade_leftOf : chkM i_Trade_leftOf = true := by decide +kernel
set_option maxRecDepth 100000 in
theorem ck_X_init : chkM i_X_init = true := by decide +kernel
set_option maxRecDepth 100000 in
theorem ck_X_feed : chkM i_X_feed = true := by decide +kernel
set_option maxRecDepth 100000 in
theorem ck_X_giving : chkM i_X_giving = true := by decide +kernel
set_option maxRecDepth 100000 in
theorem ck_X_of : chkM i_X_of = true := by decide +kernel
set_option maxRecDepth 100000 in
theorem ck_X_rounds : chkM i_X_rounds = true := by decide +kernel
set_option maxRecDepth 100000 in
theorem ck_X_level : chkM i_X_level = true := by decide +kernel
set_option maxRecDepth 100000 in
theorem ck_X_listed : chkM i_X_listed = true := by decide +kernel
set_option maxRecDepth 100000 in
theorem ck_X_takes : chkM i_X_takes = true := by decide +kernel
set_option maxRecDepth 100000 in
theorem ck_X_instead : chkM i_X_instead = true := by decide +kernel
set_option maxRecDepth 100000 in
theorem ck_X_run : chkM i_X_run = true := by decide +kernel
set_option maxRecDepth 100000 in
theorem ck_X_has : chkM i_X_has = true := by decide +kernel
set_option maxRecDepth 100000 in
theorem ck_X_left : chkM i_X_left = true := by decide +kernel
set_option maxRecDepth 100000 in
theorem ck_X_led : chkM i_X_led = true := by decide +kernel
set_option maxRecDepth 100000 in
theorem ck_X_ring : chkM i_X_ring = true := by decide +kernel
set_option maxRecDepth 100000 in
theorem ck_X_way : chkM i_X_way = true := by decide +kernel
set_option maxRecDepth 100000 in
theorem ck_X_kindOf : chkM i_X_kindOf = true := by decide +kernel
set_option maxRecDepth 100000 in
theorem ck_X_share : chkM i_X_share = true := by decide +kernel
set_option maxRecDepth 100000 in
theorem ck_X_stops : chkM i_X_stops = true := by decide +kernel
set_option maxRecDepth 100000 in
theorem ck_X_rather : chkM i_X_rather = true := by decide +kernel
set_option maxRecDepth 100000 in
theorem ck_X_envy : chkM i_X_envy = true := by decide +kernel
set_option maxRecDepth 100000 in
theorem ck_X_wrongly : chkM i_X_wrongly = true := by decide +kernel
set_option maxRecDepth 100000 in
theorem ck_X_gains : chkM i_X_gains = true := by decide +kernel
set_option maxRecDepth 100000 in
theorem ck_X_told : chkM i_X_told = true := by decide +kernel
set_option maxRecDepth 100000 in
theorem ck_X_table : chkM i_X_table = true := by decide +kernel
set_option maxRecDepth 100000 in
theorem ck_X_bars : chkM i_X_bars = true := by decide +kernel
set_option maxRecDepth 100000 in
theorem ck_X_parted : chkM i_X_parted = true := by decide +kernel
set_option maxRecDepth 100000 in
theorem ck_X_order : chkM i_X_order = true := by decide +kernel
set_option maxRecDepth 100000 in
theorem ck_X_even : chkM i_X_even = true := by decide +kernel
set_option maxRecDepth 100000 in
theorem ck_X_evenIs : chkM i_X_evenIs = true := by decide +kernel
set_option maxRecDepth 100000 in
theorem ck_X_swap : chkM i_X_swap = true := by decide +kernel
set_option maxRecDepth 100000 in
theorem ck_X_years : chkM i_X_years = true := by decide +kernel
set_option maxRecDepth 100000 in
theorem ck_X_act : chkM i_X_act = true := by decide +kernel
set_option maxRecDepth 100000 in
theorem ck_X_trace : chkM i_X_trace = true := by decide +kernel
set_option maxRecDepth 100000 in
theorem ck_X_keep : chkM i_X_keep = true := by decide +kernel
set_option maxRecDepth 100000 in
theorem ck_X_row : chkM i_X_row = true := by decide +kernel
set_option maxRecDepth 100000 in
theorem ck_X_put : chkM i_X_put = true := by decide +kernel
set_option maxRecDepth 100000 in
theorem ck_X_element : chkM i_X_element = true := by decide +kernel
set_option maxRecDepth 100000 in
theorem ck_X_shift : chkM i_X_shift = true := by decide +kernel
set_option maxRecDepth 100000 in
theorem ck_X_taken : chkM i_X_taken = true := by decide +kernel
set_option maxRecDepth 100000 in
theorem ck_X_count : chkM i_X_count = true := by decide +kernel
set_option maxRecDepth 100000 in
theorem ck_X_isGiving : chkM i_X_isGiving = true := by decide +kernel
set_option maxRecDepth 100000 in
theorem ck_X_isPerson : chkM i_X_isPerson = true := by decide +kernel
set_option maxRecDepth 100000 in
theorem ck_X_isThing : chkM i_X_isThing = true := by decide +kernel
set_option maxRecDepth 100000 in
theorem ck_X_isCell : chkM i_X_isCell = true := by decide +kernel
set_option maxRecDepth 100000 in
theorem ck_X_isShelf : chkM i_X_isShelf = true := by decide +kernel
set_option maxRecDepth 100000 in
theorem ck_X_isNoSide : chkM i_X_isNoSide = true := by decide +kernel
set_option maxRecDepth 100000 in
theorem ck_X_kindAt : chkM i_X_kindAt = true := by decide +kernel
set_option maxRecDepth 100000 in
theorem ck_X_isToldWrongly : chkM i_X_isToldWrongly = true := by decide +kernel
set_option maxRecDepth 100000 in
theorem ck_X_isUnder : chkM i_X_isUnder = true := by decide +kernel
set_option maxRecDepth 100000 in
theorem ck_X_refusalAt : chkM i_X_refusalAt = true := by decide +kernel
set_option maxRecDepth 100000 in
theorem ck_X_forgetTable : chkM i_X_forgetTable = true := by decide +kernel
set_option maxRecDepth 100000 in
theorem ck_X_sharesOf : chkM i_X_sharesOf = true := by decide +kernel
set_option maxRecDepth 100000 in
theorem ck_X_compareOtherwise : chkM i_X_compareOtherwise = true := by decide +kernel
set_option maxRecDepth 100000 in
theorem ck_X_compareRows : chkM i_X_compareRows = true := by decide +kernel
set_option maxRecDepth 100000 in
theorem ck_X_findSwap : chkM i_X_findSwap = true := by decide +kernel
set_option maxRecDepth 100000 in
theorem ck_X_fewestFirst : chkM i_X_fewestFirst = true := by decide +kernel
set_option maxRecDepth 100000 in
theorem ck_X_readLine : chkM i_X_readLine = true := by decide +kernel
set_option maxRecDepth 100000 in
theorem ck_X_numberOf : chkM i_X_numberOf = true := by decide +kernel
set_option maxRecDepth 100000 in
theorem ck_X_firstLine : chkM i_X_firstLine = true := by decide +kernel
set_option maxRecDepth 100000 in
theorem ck_X_nextLine : chkM i_X_nextLine = true := by decide +kernel
set_option maxRecDepth 100000 in
theorem ck_X_exchange : chkM i_X_exchange = true := by decide +kernel
set_option maxRecDepth 100000 in
theorem ck_X_commonOf : chkM i_X_commonOf = true := by decide +kernel
set_option maxRecDepth 100000 in
theorem ck_M_init : chkM i_M_init = true := by decide +kernel
set_option maxRecDepth 100000 in
theorem ck_M_in : chkM i_M_in = true := by decide +kernel
set_option maxRecDepth 100000 in
theorem ck_M_isGiving : chkM i_M_isGiving = true := by decide +kernel
set_option maxRecDepth 100000 in
theorem ck_M_isPerson : chkM i_M_isPerson = true := by decide +kernel
set_option maxRecDepth 100000 in
theorem ck_M_isThing : chkM i_M_isThing = true := by decide +kernel
set_option maxRecDepth 100000 in
theorem ck_M_feed : chkM i_M_feed = true := by decide +kernel
set_option maxRecDepth 100000 in
theorem ck_M_here : chkM i_M_here = true := by decide +kernel
set_option maxRecDepth 100000 in
theorem ck_M_readsThings : chkM i_M_readsThings = true := by decide +kernel
set_option maxRecDepth 100000 in
theorem ck_M_heldOf : chkM i_M_heldOf = true := by decide +kernel
set_option maxRecDepth 100000 in
theorem ck_M_readsList : chkM i_M_readsList = true := by decide +kernel
set_option maxRecDepth 100000 in
theorem ck_M_readsGiving : chkM i_M_readsGiving = true := by decide +kernel
set_option maxRecDepth 100000 in
theorem ck_M_giving : chkM i_M_giving = true := by decide +kernel
set_option maxRecDepth 100000 in
theorem ck_M_copies : chkM i_M_copies = true := by decide +kernel
set_option maxRecDepth 100000 in
theorem ck_M_instead : chkM i_M_instead = true := by decide +kernel
set_option maxRecDepth 100000 in
theorem ck_M_of : chkM i_M_of = true := by decide +kernel
set_option maxRecDepth 100000 in
theorem ck_M_rounds : chkM i_M_rounds = true := by decide +kernel
set_option maxRecDepth 100000 in
theorem ck_M_level : chkM i_M_level = true := by decide +kernel
set_option maxRecDepth 100000 in
theorem ck_M_listed : chkM i_M_listed = true := by decide +kernel
set_option maxRecDepth 100000 in
theorem ck_M_takes : chkM i_M_takes = true := by decide +kernel
set_option maxRecDepth 100000 in
theorem ck_M_isOrder : chkM i_M_isOrder = true := by decide +kernel
set_option maxRecDepth 100000 in
theorem ck_M_asDigits : chkM i_M_asDigits = true := by decide +kernel
set_option maxRecDepth 100000 in
theorem ck_M_firstLeft : chkM i_M_firstLeft = true := by decide +kernel
set_option maxRecDepth 100000 in
theorem ck_M_runs : chkM i_M_runs = true := by decide +kernel
set_option maxRecDepth 100000 in
theorem ck_M_isWay : chkM i_M_isWay = true := by decide +kernel
set_option maxRecDepth 100000 in
theorem ck_M_run : chkM i_M_run = true := by decide +kernel
set_option maxRecDepth 100000 in
theorem ck_M_has : chkM i_M_has = true := by decide +kernel
set_option maxRecDepth 100000 in
theorem ck_M_left : chkM i_M_left = true := by decide +kernel
set_option maxRecDepth 100000 in
theorem ck_M_led : chkM i_M_led = true := by decide +kernel
set_option maxRecDepth 100000 in
theorem ck_M_levelIn : chkM i_M_levelIn = true := by decide +kernel
set_option maxRecDepth 100000 in
theorem ck_M_wishes : chkM i_M_wishes = true := by decide +kernel
set_option maxRecDepth 100000 in
theorem ck_M_findsOne : chkM i_M_findsOne = true := by decide +kernel
set_option maxRecDepth 100000 in
theorem ck_M_findsThings : chkM i_M_findsThings = true := by decide +kernel
set_option maxRecDepth 100000 in
theorem ck_M_findsPeople : chkM i_M_findsPeople = true := by decide +kernel
set_option maxRecDepth 100000 in
theorem ck_M_findsRing : chkM i_M_findsRing = true := by decide +kernel
set_option maxRecDepth 100000 in
theorem ck_M_ring : chkM i_M_ring = true := by decide +kernel
set_option maxRecDepth 100000 in
theorem ck_M_way : chkM i_M_way = true := by decide +kernel
set_option maxRecDepth 100000 in
theorem ck_M_kindOf : chkM i_M_kindOf = true := by decide +kernel
set_option maxRecDepth 100000 in
theorem ck_M_common : chkM i_M_common = true := by decide +kernel
set_option maxRecDepth 100000 in
theorem ck_M_clears : chkM i_M_clears = true := by decide +kernel
set_option maxRecDepth 100000 in
theorem ck_M_puts : chkM i_M_puts = true := by decide +kernel
set_option maxRecDepth 100000 in
theorem ck_M_nextOrder : chkM i_M_nextOrder = true := by decide +kernel
set_option maxRecDepth 100000 in
theorem ck_M_firstOrder : chkM i_M_firstOrder = true := by decide +kernel
set_option maxRecDepth 100000 in
theorem ck_M_means : chkM i_M_means = true := by decide +kernel
set_option maxRecDepth 100000 in
theorem ck_M_adds : chkM i_M_adds = true := by decide +kernel
set_option maxRecDepth 100000 in
theorem ck_M_firstUneaten : chkM i_M_firstUneaten = true := by decide +kernel
set_option maxRecDepth 100000 in
theorem ck_M_eatNow : chkM i_M_eatNow = true := by decide +kernel
set_option maxRecDepth 100000 in
theorem ck_M_eating : chkM i_M_eating = true := by decide +kernel
set_option maxRecDepth 100000 in
theorem ck_M_pointOf : chkM i_M_pointOf = true := by decide +kernel
set_option maxRecDepth 100000 in
theorem ck_M_endsSome : chkM i_M_endsSome = true := by decide +kernel
set_option maxRecDepth 100000 in
theorem ck_M_endsRing : chkM i_M_endsRing = true := by decide +kernel
set_option maxRecDepth 100000 in
theorem ck_M_trades : chkM i_M_trades = true := by decide +kernel
set_option maxRecDepth 100000 in
theorem ck_M_takesParts : chkM i_M_takesParts = true := by decide +kernel
set_option maxRecDepth 100000 in
theorem ck_M_sumOf : chkM i_M_sumOf = true := by decide +kernel
set_option maxRecDepth 100000 in
theorem ck_M_sumOver : chkM i_M_sumOver = true := by decide +kernel
set_option maxRecDepth 100000 in
theorem ck_M_less : chkM i_M_less = true := by decide +kernel
set_option maxRecDepth 100000 in
theorem ck_M_mends : chkM i_M_mends = true := by decide +kernel
set_option maxRecDepth 100000 in
theorem ck_M_shares : chkM i_M_shares = true := by decide +kernel
set_option maxRecDepth 100000 in
theorem ck_M_share : chkM i_M_share = true := by decide +kernel
set_option maxRecDepth 100000 in
theorem ck_M_stops : chkM i_M_stops = true := by decide +kernel
set_option maxRecDepth 100000 in
theorem ck_M_keepsRow : chkM i_M_keepsRow = true := by decide +kernel
set_option maxRecDepth 100000 in
theorem ck_M_against : chkM i_M_against = true := by decide +kernel
set_option maxRecDepth 100000 in
theorem ck_M_rather : chkM i_M_rather = true := by decide +kernel
set_option maxRecDepth 100000 in
theorem ck_M_envy : chkM i_M_envy = true := by decide +kernel
set_option maxRecDepth 100000 in
theorem ck_M_areDigits : chkM i_M_areDigits = true := by decide +kernel
set_option maxRecDepth 100000 in
theorem ck_M_tries : chkM i_M_tries = true := by decide +kernel
set_option maxRecDepth 100000 in
theorem ck_M_keepsOwn : chkM i_M_keepsOwn = true := by decide +kernel
set_option maxRecDepth 100000 in
theorem ck_M_isLie : chkM i_M_isLie = true := by decide +kernel
set_option maxRecDepth 100000 in
theorem ck_M_wrongly : chkM i_M_wrongly = true := by decide +kernel
set_option maxRecDepth 100000 in
theorem ck_M_triesAll : chkM i_M_triesAll = true := by decide +kernel
set_option maxRecDepth 100000 in
theorem ck_M_gains : chkM i_M_gains = true := by decide +kernel
set_option maxRecDepth 100000 in
theorem ck_M_told : chkM i_M_told = true := by decide +kernel
set_option maxRecDepth 100000 in
theorem ck_M_table : chkM i_M_table = true := by decide +kernel
set_option maxRecDepth 100000 in
theorem ck_M_barsOf : chkM i_M_barsOf = true := by decide +kernel
set_option maxRecDepth 100000 in
theorem ck_M_bars : chkM i_M_bars = true := by decide +kernel
set_option maxRecDepth 100000 in
theorem ck_M_finds : chkM i_M_finds = true := by decide +kernel
set_option maxRecDepth 100000 in
theorem ck_M_most : chkM i_M_most = true := by decide +kernel
set_option maxRecDepth 100000 in
theorem ck_M_parted : chkM i_M_parted = true := by decide +kernel
set_option maxRecDepth 100000 in
theorem ck_M_pointsOf : chkM i_M_pointsOf = true := by decide +kernel
set_option maxRecDepth 100000 in
theorem ck_M_order : chkM i_M_order = true := by decide +kernel
set_option maxRecDepth 100000 in
theorem ck_M_even : chkM i_M_even = true := by decide +kernel
set_option maxRecDepth 100000 in
theorem ck_M_evenIs : chkM i_M_evenIs = true := by decide +kernel
set_option maxRecDepth 100000 in
theorem ck_M_swap : chkM i_M_swap = true := by decide +kernel
set_option maxRecDepth 100000 in
theorem ck_M_years : chkM i_M_years = true := by decide +kernel
set_option maxRecDepth 100000 in
theorem ck_M_begins : chkM i_M_begins = true := by decide +kernel
set_option maxRecDepth 100000 in
theorem ck_M_aboveOf : chkM i_M_aboveOf = true := by decide +kernel
set_option maxRecDepth 100000 in
theorem ck_M_takesFrom : chkM i_M_takesFrom = true := by decide +kernel
set_option maxRecDepth 100000 in
theorem ck_M_leavesFrom : chkM i_M_leavesFrom = true := by decide +kernel
set_option maxRecDepth 100000 in
theorem ck_M_likesFrom : chkM i_M_likesFrom = true := by decide +kernel
set_option maxRecDepth 100000 in
theorem ck_M_tellsFrom : chkM i_M_tellsFrom = true := by decide +kernel
set_option maxRecDepth 100000 in
theorem ck_M_act : chkM i_M_act = true := by decide +kernel
set_option maxRecDepth 100000 in
theorem ck_M_trace : chkM i_M_trace = true := by decide +kernel
set_option maxRecDepth 100000 in
theorem ck_M_isShelf : chkM i_M_isShelf = true := by decide +kernel
set_option maxRecDepth 100000 in
theorem ck_M_keep : chkM i_M_keep = true := by decide +kernel
set_option maxRecDepth 100000 in
theorem ck_M_row : chkM i_M_row = true := by decide +kernel
set_option maxRecDepth 100000 in
theorem ck_M_barred : chkM i_M_barred = true := by decide +kernel
set_option maxRecDepth 100000 in
theorem ck_M_put : chkM i_M_put = true := by decide +kernel
set_option maxRecDepth 100000 in
theorem ck_M_element : chkM i_M_element = true := by decide +kernel
set_option maxRecDepth 100000 in
theorem ck_M_shift : chkM i_M_shift = true := by decide +kernel
set_option maxRecDepth 100000 in
theorem ck_M_taken : chkM i_M_taken = true := by decide +kernel
set_option maxRecDepth 100000 in
theorem ck_M_count : chkM i_M_count = true := by decide +kernel
set_option maxRecDepth 100000 in
theorem ck_Integer_bitCount : chkM i_Integer_bitCount = true := by decide +kernel
set_option maxRecDepth 100000 in
theorem ck_Arrays_fill_J : chkM i_Arrays_fill_J = true := by decide +kernel
set_option maxRecDepth 100000 in
theorem ck_Arrays_fill_I : chkM i_Arrays_fill_I = true := by decide +kernel
end
section
variable {M : MI} {d mc ms pos pc a b c cells slots : Nat} {v : Int} {tl : List Nat} {stk : List AV} {loc : Lo} {X : HS} {K : Int → HS → Prop}
theorem fall1 {M : MI} {pos : Nat} {ai : AI} (h : fallO M pos ai = true) (h1 : ¬ (ai.1 = 19 ∨ ai.1 = 20 ∨ ai.1 = 21 ∨ ai.1 = 34 ∨ ai.1 = 14)) : pcOf M (pos + 1) = ai.2.1 + (insO M ai).2 := by
  obtain ⟨op, pc, a, b, c, v, tl⟩ := ai
  simp only [not_or] at h1
  simp [fallO, h1] at h
  exact h
theorem rgv_0 (x : Int) : rgv (0, x) = r32 x := rfl
theorem rgv_1 (x : Int) : rgv (1, x) = r64 x := rfl
theorem rgv_2 (x : Int) : rgv (2, x) := trivial
theorem emb_0 (g : Gx) (x : Int) : emb g (0, x) = .int (Int32.ofInt x) := rfl
theorem emb_1 (g : Gx) (x : Int) : emb g (1, x) = .long (Int64.ofInt x) := rfl
theorem emb_2 (g : Gx) (x : Int) : emb g (2, x) = va_rf (refO g x) := rfl
theorem aw_const (hM : chkM M = true) (hi : (mT M)[pos]? = some (0, pc, a, b, c, v, tl)) (k : AW M d mc ms (pos + 1) ((0, v) :: stk) loc X cells slots K) : AW M d mc ms pos stk loc X cells slots K := by
  intro g p l e s m args below meth c0 Fz H locs ls hF hK hS hB hR hD hs hl hst hlo hc1 hc2
  have hdec := chk_dec hM hi
  have hfal := chk_fall hM hi
  have hpo := chk_pool hM hi
  rw [pcOf_at hi]
  simp [poolO] at hpo
  obtain ⟨hr, hpo⟩ := hpo
  have k := k g p l e s m args below meth c0 Fz H locs ls hF hK hS hB hR hD hs hl (List.forall_mem_cons.mpr ⟨hr, hst⟩) hlo hc1 hc2
  rw [fall1 hfal (by simp)] at k
  by_cases h0 : c = 0
  · subst h0
    exact lv_iconst hF.1 hF.2.1 hdec rfl k
  · by_cases h1 : c = 1
    · subst h1
      simp at hpo
      exact lv_bipush hF.1 hF.2.1 hdec hpo k
    · by_cases h2 : c = 2
      · subst h2
        simp at hpo
        exact lv_sipush hF.1 hF.2.1 hdec hpo k
      · by_cases h3 : c = 3
        · subst h3
          simp at hpo
          exact lv_ldc hF.1 hF.2.1 hF.2.2.2.1 (hF.2.2.2.2.1 _ (KI_ok _ (List.mem_of_getElem? hpo))) hdec k
        · simp only [insO, if_neg h0, if_neg h1, if_neg h2, if_neg h3, if_pos] at hdec k
          simp [h0, h1, h2, h3] at hpo
          exact lv_ldcw hF.1 hF.2.1 hF.2.2.2.1 (hF.2.2.2.2.1 _ (KI_ok _ (List.mem_of_getElem? hpo))) hdec k
theorem aw_lconst (hM : chkM M = true) (hi : (mT M)[pos]? = some (1, pc, a, b, c, v, tl)) (k : AW M d mc ms (pos + 1) ((1, v) :: stk) loc X cells slots K) : AW M d mc ms pos stk loc X cells slots K := by
  intro g p l e s m args below meth c0 Fz H locs ls hF hK hS hB hR hD hs hl hst hlo hc1 hc2
  have hdec := chk_dec hM hi
  have hfal := chk_fall hM hi
  have hpo := chk_pool hM hi
  rw [pcOf_at hi]
  simp [poolO] at hpo
  obtain ⟨hr, hpo⟩ := hpo
  have k := k g p l e s m args below meth c0 Fz H locs ls hF hK hS hB hR hD hs hl (List.forall_mem_cons.mpr ⟨hr, hst⟩) hlo hc1 hc2
  rw [fall1 hfal (by simp)] at k
  by_cases h0 : c = 0
  · subst h0
    simp at hpo
    rcases hpo with rfl | rfl
    · exact lv_lconst hF.1 hF.2.1 hdec rfl k
    · exact lv_lconst hF.1 hF.2.1 hdec rfl k
  · simp only [if_neg h0] at hpo
    simp [insO, h0] at hdec k
    obtain ⟨ix, hk⟩ : ∃ ix : Nat, LKL[ix]? = some (mOi M, a, v) := ⟨_, by simpa [h0] using hpo⟩
    exact lv_ldc2 hF.1 hF.2.1 hF.2.2.2.1 (hF.2.2.2.2.1 _ (KL_ok _ (List.mem_of_getElem? hk))) hdec k
/-- what stands at a place of the locals -/
def lkp (l : Lo) (i : Nat) : AV := (l.lookup i).getD (9, 0)
theorem lkp_mem {l : Lo} {i : Nat} {t : Nat} {x : Int} (h : lkp l i = (t, x)) (ht : t < 9) : (i, t, x) ∈ l := by
  unfold lkp at h
  cases q : l.lookup i with
  | none =>
    rw [q] at h
    have := congrArg Prod.fst h
    simp at this
    omega
  | some y =>
    rw [q] at h
    simp at h
    subst h
    clear ht
    induction l with
    | nil => simp at q
    | cons z l ih =>
      obtain ⟨j, w⟩ := z
      rw [List.lookup_cons] at q
      by_cases e : i = j
      · subst e
        simp at q
        subst q
        exact List.mem_cons_self
      · have e2 : (i == j) = false := by simp [e]
        rw [e2] at q
        exact List.mem_cons_of_mem _ (ih q)
theorem embL_mem {g : Gx} {l : Lo} {i : Nat} {w : AV} (h : (i, w) ∈ l) : (i, emb g w) ∈ embL g l := List.mem_map.mpr ⟨(i, w), h, rfl⟩
theorem aw_load {x : Int} (hM : chkM M = true) (hi : (mT M)[pos]? = some (2, pc, a, b, c, v, tl)) (hx : lkp loc a = (b, x)) (k : AW M d mc ms (pos + 1) ((b, x) :: stk) loc X cells slots K) : AW M d mc ms pos stk loc X cells slots K := by
  intro g p l e s m args below meth c0 Fz H locs ls hF hK hS hB hR hD hs hl hst hlo hc1 hc2
  have hdec := chk_dec hM hi
  have hfal := chk_fall hM hi
  have hpo := chk_pool hM hi
  rw [pcOf_at hi]
  simp [poolO] at hpo
  obtain ⟨hb3, hpo⟩ := hpo
  have hmem := lkp_mem hx (by omega)
  have hat : ls[a]? = some (.val (emb g (b, x))) := hl.2.2 _ (embL_mem hmem)
  have k := k g p l e s m args below meth c0 Fz H locs ls hF hK hS hB hR hD hs hl (List.forall_mem_cons.mpr ⟨hlo _ hmem, hst⟩) hlo hc1 hc2
  rw [fall1 hfal (by simp)] at k
  by_cases h0 : c = 0
  · subst h0
    simp at hpo
    have hv4 : ((Fin.ofNat 4 a : Fin 4) : Nat) = a := Nat.mod_eq_of_lt hpo
    rcases (by omega : b = 0 ∨ b = 1 ∨ b = 2) with rfl | rfl | rfl
    · exact lv_iload_n hF.1 hF.2.1 hdec hv4 hat k
    · exact lv_lload_n hF.1 hF.2.1 hdec hv4 hat k
    · rw [emb_2] at hat
      simp only [List.map_cons, emb_2] at k
      cases q : refO g x with
      | none =>
        rw [q] at hat k
        exact lv_aload_nN hF.1 hF.2.1 hdec hv4 hat k
      | some y =>
        rw [q] at hat k
        exact lv_aload_n hF.1 hF.2.1 hdec hv4 hat k
  · rcases (by omega : b = 0 ∨ b = 1 ∨ b = 2) with rfl | rfl | rfl
    · simp [insO, h0] at hdec k
      exact lv_iload hF.1 hF.2.1 hdec hat k
    · simp [insO, h0] at hdec k
      exact lv_lload hF.1 hF.2.1 hdec hat k
    · rw [emb_2] at hat
      simp [insO, h0] at hdec k
      simp only [emb_2] at k
      cases q : refO g x with
      | none =>
        rw [q] at hat k
        exact lv_aloadN hF.1 hF.2.1 hdec hat k
      | some y =>
        rw [q] at hat k
        exact lv_aload hF.1 hF.2.1 hdec hat k
def isC (i : Nat) (q : Nat × AV) : Bool := !(q.1 == i) && !(q.1 + 1 == i && q.2.1 == 1)
def isC2 (i : Nat) (q : Nat × AV) : Bool := !(q.1 == i) && (!(q.1 == i + 1) && !(q.1 + 1 == i && q.2.1 == 1))
/-- a value put at a place of the locals -/
def put (l : Lo) (i : Nat) (w : AV) : Lo := (i, w) :: (if w.1 = 1 then l.filter (isC2 i) else l.filter (isC i))
theorem cat_emb (g : Gx) (w : AV) : ((emb g w).category == 2) = (w.1 == 1) := by
  obtain ⟨t, x⟩ := w
  unfold emb
  by_cases h0 : t = 0
  · subst h0; rfl
  · by_cases h1 : t = 1
    · subst h1; rfl
    · simp only [if_neg h0, if_neg h1]
      have : ((t == 1) = false) := by simp [h1]
      rw [this]
      cases refO g x <;> rfl
theorem embL_filter {g : Gx} {l : Lo} {i : Nat} : (embL g l).filter (fun q => !(q.1 == i) && !(q.1 + 1 == i && q.2.category == 2)) = embL g (l.filter (isC i)) := by
  unfold embL
  rw [List.filter_map]
  congr 1
  apply List.filter_congr
  intro q hq
  simp only [Function.comp, cat_emb, isC]
theorem embL_filter2 {g : Gx} {l : Lo} {i : Nat} : (embL g l).filter (fun q => !(q.1 == i) && (!(q.1 == i + 1) && !(q.1 + 1 == i && q.2.category == 2))) = embL g (l.filter (isC2 i)) := by
  unfold embL
  rw [List.filter_map]
  congr 1
  apply List.filter_congr
  intro q hq
  simp only [Function.comp, cat_emb, isC2]
theorem put_rg {l : Lo} {i : Nat} {w : AV} (hl : ∀ q ∈ l, rgv q.2) (hw : rgv w) : ∀ q ∈ put l i w, rgv q.2 := by
  unfold put
  refine List.forall_mem_cons.mpr ⟨hw, ?_⟩
  split
  · exact fun q hq => hl q (List.mem_filter.mp hq).1
  · exact fun q hq => hl q (List.mem_filter.mp hq).1
theorem aw_store {x : Int} (hM : chkM M = true) (hi : (mT M)[pos]? = some (3, pc, a, b, c, v, tl)) (k : AW M d mc ms (pos + 1) stk (put loc a (b, x)) X cells slots K) : AW M d mc ms pos ((b, x) :: stk) loc X cells slots K := by
  intro g p l e s m args below meth c0 Fz H locs ls hF hK hS hB hR hD hs hl hst hlo hc1 hc2
  have hdec := chk_dec hM hi
  have hfal := chk_fall hM hi
  have hpo := chk_pool hM hi
  rw [pcOf_at hi]
  simp [poolO] at hpo
  obtain ⟨⟨hb3, ha⟩, hpo⟩ := hpo
  have hst2 := List.forall_mem_cons.mp hst
  have k := fun ls hl => k g p l e s m args below meth c0 Fz H locs ls hF hK hS hB hR hD hs hl hst2.2 (put_rg hlo hst2.1) hc1 hc2
  rw [fall1 hfal (by simp)] at k
  have hv4 : c = 0 → ((Fin.ofNat 4 a : _root_.Fin 4) : Nat) = a := fun h0 => by
    exact Nat.mod_eq_of_lt (hpo.resolve_left (fun q => q h0))
  rcases (by omega : b = 0 ∨ b = 1 ∨ b = 2) with rfl | rfl | rfl
  · have e := embL_filter (g := g) (l := loc) (i := a)
    simp at ha
    by_cases h0 : c = 0
    · have h4 := hv4 h0
      subst h0
      exact lv_istore_n hF.1 hF.2.1 hdec h4 hl ha (congrArg (List.cons (a, emb g (0, x))) e) (fun ls2 h2 => k ls2 h2)
    · simp [insO, h0] at hdec k
      exact lv_istore hF.1 hF.2.1 hdec hl ha (congrArg (List.cons (a, emb g (0, x))) e) (fun ls2 h2 => k ls2 h2)
  · have e := embL_filter2 (g := g) (l := loc) (i := a)
    simp at ha
    by_cases h0 : c = 0
    · have h4 := hv4 h0
      subst h0
      exact lv_lstore_n hF.1 hF.2.1 hdec h4 hl ha (congrArg (List.cons (a, emb g (1, x))) e) (fun ls2 h2 => k ls2 h2)
    · simp [insO, h0] at hdec k
      exact lv_lstore hF.1 hF.2.1 hdec hl ha (congrArg (List.cons (a, emb g (1, x))) e) (fun ls2 h2 => k ls2 h2)
  · have e := embL_filter (g := g) (l := loc) (i := a)
    simp at ha
    simp only [List.map_cons, emb_2]
    simp only [put, embL, List.map_cons, emb_2] at k
    cases q : refO g x with
    | none =>
      rw [q] at k
      by_cases h0 : c = 0
      · have h4 := hv4 h0
        subst h0
        exact lv_astore_nN hF.1 hF.2.1 hdec h4 hl ha (congrArg (List.cons (a, Value.null)) e) (fun ls2 h2 => k ls2 h2)
      · simp [insO, h0] at hdec k
        exact lv_astoreN hF.1 hF.2.1 hdec hl ha (congrArg (List.cons (a, Value.null)) e) (fun ls2 h2 => k ls2 h2)
    | some y =>
      rw [q] at k
      by_cases h0 : c = 0
      · have h4 := hv4 h0
        subst h0
        exact lv_astore_n hF.1 hF.2.1 hdec h4 hl ha (congrArg (List.cons (a, Value.ref y)) e) (fun ls2 h2 => k ls2 h2)
      · simp [insO, h0] at hdec k
        exact lv_astore hF.1 hF.2.1 hdec hl ha (congrArg (List.cons (a, Value.ref y)) e) (fun ls2 h2 => k ls2 h2)
theorem aw_iinc {x : Int} (hM : chkM M = true) (hi : (mT M)[pos]? = some (4, pc, a, b, c, v, tl)) (hx : lkp loc a = (0, x)) (k : AW M d mc ms (pos + 1) stk (put loc a (0, w32 (x + v))) X cells slots K) : AW M d mc ms pos stk loc X cells slots K := by
  intro g p l e s m args below meth c0 Fz H locs ls hF hK hS hB hR hD hs hl hst hlo hc1 hc2
  have hdec := chk_dec hM hi
  have hfal := chk_fall hM hi
  have hpo := chk_pool hM hi
  rw [pcOf_at hi]
  simp [poolO] at hpo
  have hmem := lkp_mem hx (by omega)
  obtain ⟨j, hj⟩ := List.getElem?_of_mem (embL_mem (g := g) hmem)
  have k := fun ls hl => k g p l e s m args below meth c0 Fz H locs ls hF hK hS hB hR hD hs hl hst (put_rg hlo (w32_r _)) hc1 hc2
  rw [fall1 hfal (by simp)] at k
  have e := embL_filter (g := g) (l := loc) (i := a)
  refine lv_iinc (k := j) (v := Int32.ofInt (w32 (x + v))) hF.1 hF.2.1 hdec hl hj ?_ hpo (congrArg (List.cons (a, emb g (0, w32 (x + v)))) e) (fun ls2 h2 => k ls2 h2)
  rw [ofInt_w32, Int32.ofInt_add]

-- ===== numbers on the stack
def andI (x y : Int) : Int := (Int32.ofInt x &&& Int32.ofInt y).toInt
def orI (x y : Int) : Int := (Int32.ofInt x ||| Int32.ofInt y).toInt
def xorI (x y : Int) : Int := (Int32.ofInt x ^^^ Int32.ofInt y).toInt
def shlI (x y : Int) : Int := (Int32.ofInt x <<< (Int32.ofInt y &&& 31)).toInt
def shrI (x y : Int) : Int := (Int32.ofInt x >>> (Int32.ofInt y &&& 31)).toInt
def ushI (x y : Int) : Int := ((Int32.ofInt x).toUInt32 >>> ((Int32.ofInt y).toUInt32 &&& 31)).toInt32.toInt
def divI (x y : Int) : Int := (Int32.ofInt x / Int32.ofInt y).toInt
def remI (x y : Int) : Int := (Int32.ofInt x - Int32.ofInt x / Int32.ofInt y * Int32.ofInt y).toInt
def binI (c : Nat) (x y : Int) : Int := if c = 0 then w32 (x + y) else if c = 1 then w32 (x - y) else if c = 2 then w32 (x * y) else if c = 3 then andI x y else if c = 4 then orI x y else if c = 5 then xorI x y else if c = 6 then shlI x y else if c = 7 then shrI x y else ushI x y
def andL (x y : Int) : Int := (Int64.ofInt x &&& Int64.ofInt y).toInt
def orL (x y : Int) : Int := (Int64.ofInt x ||| Int64.ofInt y).toInt
def divL (x y : Int) : Int := (Int64.ofInt x / Int64.ofInt y).toInt
def remL (x y : Int) : Int := (Int64.ofInt x - Int64.ofInt x / Int64.ofInt y * Int64.ofInt y).toInt
def binL (c : Nat) (x y : Int) : Int := if c = 0 then w64 (x + y) else if c = 1 then w64 (x - y) else if c = 2 then w64 (x * y) else if c = 3 then andL x y else orL x y
def i2bI (x : Int) : Int := (Int32.ofInt x).toInt8.toInt
def i2sI (x : Int) : Int := (Int32.ofInt x).toInt16.toInt
def unI (c : Nat) (x : Int) : Int := if c = 0 then w32 (-x) else if c = 1 then i2bI x else i2sI x
def l2iI (x : Int) : Int := (Int64.ofInt x).toInt32.toInt
theorem emI (z : Int32) : Int32.ofInt z.toInt = z := Int32.ofInt_toInt z
theorem emJ (z : Int64) : Int64.ofInt z.toInt = z := Int64.ofInt_toInt z
theorem binI_r (c : Nat) (x y : Int) : r32 (binI c x y) := by
  unfold binI
  repeat' split
  all_goals first | exact w32_r _ | exact toInt_r _
theorem binL_r (c : Nat) (x y : Int) : r64 (binL c x y) := by
  unfold binL
  repeat' split
  all_goals first | exact w64_r _ | exact toInt_rl _
theorem aw_bin {x y : Int} (hM : chkM M = true) (hi : (mT M)[pos]? = some (5, pc, a, b, c, v, tl)) (k : AW M d mc ms (pos + 1) ((0, binI c x y) :: stk) loc X cells slots K) : AW M d mc ms pos ((0, y) :: (0, x) :: stk) loc X cells slots K := by
  intro g p l e s m args below meth c0 Fz H locs ls hF hK hS hB hR hD hs hl hst hlo hc1 hc2
  have hdec := chk_dec hM hi
  have hfal := chk_fall hM hi
  have hpo := chk_pool hM hi
  rw [pcOf_at hi]
  have hst2 := List.forall_mem_cons.mp (List.forall_mem_cons.mp hst).2
  have k := k g p l e s m args below meth c0 Fz H locs ls hF hK hS hB hR hD hs hl (List.forall_mem_cons.mpr ⟨binI_r _ _ _, hst2.2⟩) hlo hc1 hc2
  rw [fall1 hfal (by simp)] at k
  simp only [List.map_cons, emb_0] at k ⊢
  by_cases h0 : c = 0
  · subst h0; simp only [binI, if_pos, ofInt_w32, Int32.ofInt_add] at k; exact lv_iadd hF.1 hF.2.1 hdec k
  by_cases h1 : c = 1
  · subst h1; simp [binI, ofInt_w32, Int32.ofInt_sub] at k; exact lv_isub hF.1 hF.2.1 hdec k
  by_cases h2 : c = 2
  · subst h2; simp [binI, ofInt_w32, Int32.ofInt_mul] at k; exact lv_imul hF.1 hF.2.1 hdec k
  by_cases h3 : c = 3
  · subst h3; rw [show Int32.ofInt (binI 3 x y) = Int32.ofInt x &&& Int32.ofInt y from emI (Int32.ofInt x &&& Int32.ofInt y)] at k; exact lv_iand hF.1 hF.2.1 hdec k
  by_cases h4 : c = 4
  · subst h4; rw [show Int32.ofInt (binI 4 x y) = Int32.ofInt x ||| Int32.ofInt y from emI (Int32.ofInt x ||| Int32.ofInt y)] at k; exact lv_ior hF.1 hF.2.1 hdec k
  by_cases h5 : c = 5
  · subst h5; rw [show Int32.ofInt (binI 5 x y) = Int32.ofInt x ^^^ Int32.ofInt y from emI (Int32.ofInt x ^^^ Int32.ofInt y)] at k; exact lv_ixor hF.1 hF.2.1 hdec k
  by_cases h6 : c = 6
  · subst h6; rw [show Int32.ofInt (binI 6 x y) = Int32.ofInt x <<< (Int32.ofInt y &&& 31) from emI (Int32.ofInt x <<< (Int32.ofInt y &&& 31))] at k; exact lv_ishl hF.1 hF.2.1 hdec k
  by_cases h7 : c = 7
  · subst h7; rw [show Int32.ofInt (binI 7 x y) = Int32.ofInt x >>> (Int32.ofInt y &&& 31) from emI (Int32.ofInt x >>> (Int32.ofInt y &&& 31))] at k; exact lv_ishr hF.1 hF.2.1 hdec k
  · simp only [binI, h0, h1, h2, h3, h4, h5, h6, h7, if_false, ushI, emI] at k
    simp [insO, h0, h1, h2, h3, h4, h5, h6, h7] at hdec k
    exact lv_iushr hF.1 hF.2.1 hdec rfl k
theorem aw_div {x y : Int} (hM : chkM M = true) (hi : (mT M)[pos]? = some (6, pc, a, b, c, v, tl)) (hy : ¬ y = 0) (k : AW M d mc ms (pos + 1) ((0, if c = 0 then divI x y else remI x y) :: stk) loc X cells slots K) : AW M d mc ms pos ((0, y) :: (0, x) :: stk) loc X cells slots K := by
  intro g p l e s m args below meth c0 Fz H locs ls hF hK hS hB hR hD hs hl hst hlo hc1 hc2
  have hdec := chk_dec hM hi
  have hfal := chk_fall hM hi
  have hpo := chk_pool hM hi
  rw [pcOf_at hi]
  have hst1 := List.forall_mem_cons.mp hst
  have hst2 := List.forall_mem_cons.mp hst1.2
  have hy2 : ¬ Int32.ofInt y = 0 := fun q => hy ((i32_eq hst1.1 r32_0).mp q)
  have k := k g p l e s m args below meth c0 Fz H locs ls hF hK hS hB hR hD hs hl (List.forall_mem_cons.mpr ⟨by rw [rgv_0]; split <;> exact toInt_r _, hst2.2⟩) hlo hc1 hc2
  rw [fall1 hfal (by simp)] at k
  simp only [List.map_cons, emb_0] at k ⊢
  by_cases h0 : c = 0
  · subst h0; simp only [if_pos, divI, emI] at k; exact lv_idiv hF.1 hF.2.1 hdec hy2 k
  · simp only [if_neg h0, remI, emI] at k
    simp [insO, h0] at hdec k
    exact lv_irem hF.1 hF.2.1 hdec hy2 k
theorem aw_lbin {x y : Int} (hM : chkM M = true) (hi : (mT M)[pos]? = some (7, pc, a, b, c, v, tl)) (k : AW M d mc ms (pos + 1) ((1, binL c x y) :: stk) loc X cells slots K) : AW M d mc ms pos ((1, y) :: (1, x) :: stk) loc X cells slots K := by
  intro g p l e s m args below meth c0 Fz H locs ls hF hK hS hB hR hD hs hl hst hlo hc1 hc2
  have hdec := chk_dec hM hi
  have hfal := chk_fall hM hi
  have hpo := chk_pool hM hi
  rw [pcOf_at hi]
  have hst2 := List.forall_mem_cons.mp (List.forall_mem_cons.mp hst).2
  have k := k g p l e s m args below meth c0 Fz H locs ls hF hK hS hB hR hD hs hl (List.forall_mem_cons.mpr ⟨binL_r _ _ _, hst2.2⟩) hlo hc1 hc2
  rw [fall1 hfal (by simp)] at k
  simp only [List.map_cons, emb_1] at k ⊢
  by_cases h0 : c = 0
  · subst h0; simp only [binL, if_pos, ofInt_w64, Int64.ofInt_add] at k; exact lv_ladd hF.1 hF.2.1 hdec k
  by_cases h1 : c = 1
  · subst h1; simp [binL, ofInt_w64, Int64.ofInt_sub] at k; exact lv_lsub hF.1 hF.2.1 hdec k
  by_cases h2 : c = 2
  · subst h2; simp [binL, ofInt_w64, Int64.ofInt_mul] at k; exact lv_lmul hF.1 hF.2.1 hdec k
  by_cases h3 : c = 3
  · subst h3; rw [show Int64.ofInt (binL 3 x y) = Int64.ofInt x &&& Int64.ofInt y from emJ (Int64.ofInt x &&& Int64.ofInt y)] at k; exact lv_land hF.1 hF.2.1 hdec k
  · simp only [binL, h0, h1, h2, h3, if_false, orL, emJ] at k
    simp [insO, h0, h1, h2, h3] at hdec k
    exact lv_lor hF.1 hF.2.1 hdec k
theorem aw_ldiv {x y : Int} (hM : chkM M = true) (hi : (mT M)[pos]? = some (8, pc, a, b, c, v, tl)) (hy : ¬ y = 0) (k : AW M d mc ms (pos + 1) ((1, if c = 0 then divL x y else remL x y) :: stk) loc X cells slots K) : AW M d mc ms pos ((1, y) :: (1, x) :: stk) loc X cells slots K := by
  intro g p l e s m args below meth c0 Fz H locs ls hF hK hS hB hR hD hs hl hst hlo hc1 hc2
  have hdec := chk_dec hM hi
  have hfal := chk_fall hM hi
  have hpo := chk_pool hM hi
  rw [pcOf_at hi]
  have hst1 := List.forall_mem_cons.mp hst
  have hst2 := List.forall_mem_cons.mp hst1.2
  have hy2 : ¬ Int64.ofInt y = 0 := fun q => hy ((i64_eq hst1.1 (by unfold r64; omega)).mp q)
  have k := k g p l e s m args below meth c0 Fz H locs ls hF hK hS hB hR hD hs hl (List.forall_mem_cons.mpr ⟨by rw [rgv_1]; split <;> exact toInt_rl _, hst2.2⟩) hlo hc1 hc2
  rw [fall1 hfal (by simp)] at k
  simp only [List.map_cons, emb_1] at k ⊢
  by_cases h0 : c = 0
  · subst h0; simp only [if_pos, divL, emJ] at k; exact lv_ldiv hF.1 hF.2.1 hdec hy2 k
  · simp only [if_neg h0, remL, emJ] at k
    simp [insO, h0] at hdec k
    exact lv_lrem hF.1 hF.2.1 hdec hy2 k
theorem aw_un {x : Int} (hM : chkM M = true) (hi : (mT M)[pos]? = some (10, pc, a, b, c, v, tl)) (k : AW M d mc ms (pos + 1) ((0, unI c x) :: stk) loc X cells slots K) : AW M d mc ms pos ((0, x) :: stk) loc X cells slots K := by
  intro g p l e s m args below meth c0 Fz H locs ls hF hK hS hB hR hD hs hl hst hlo hc1 hc2
  have hdec := chk_dec hM hi
  have hfal := chk_fall hM hi
  have hpo := chk_pool hM hi
  rw [pcOf_at hi]
  have hst2 := List.forall_mem_cons.mp hst
  have hr : r32 (unI c x) := by
    unfold unI
    have h8 := toInt_r ((Int32.ofInt x).toInt8.toInt32)
    have h16 := toInt_r ((Int32.ofInt x).toInt16.toInt32)
    rw [Int8.toInt_toInt32] at h8
    rw [Int16.toInt_toInt32] at h16
    repeat' split
    · exact w32_r _
    · exact h8
    · exact h16
  have k := k g p l e s m args below meth c0 Fz H locs ls hF hK hS hB hR hD hs hl (List.forall_mem_cons.mpr ⟨hr, hst2.2⟩) hlo hc1 hc2
  rw [fall1 hfal (by simp)] at k
  simp only [List.map_cons, emb_0] at k ⊢
  have e8 : Int32.ofInt (i2bI x) = (Int32.ofInt x).toInt8.toInt32 := by unfold i2bI; rw [← Int8.toInt_toInt32, emI]
  have e16 : Int32.ofInt (i2sI x) = (Int32.ofInt x).toInt16.toInt32 := by unfold i2sI; rw [← Int16.toInt_toInt32, emI]
  by_cases h0 : c = 0
  · subst h0; simp [unI, ofInt_w32] at k; exact lv_ineg hF.1 hF.2.1 hdec k
  by_cases h1 : c = 1
  · subst h1; simp [unI] at k; exact lv_i2b hF.1 hF.2.1 hdec e8.symm k
  · simp [unI, h0, h1] at k
    simp [insO, h0, h1] at hdec k
    exact lv_i2s hF.1 hF.2.1 hdec e16.symm k
theorem aw_i2l {x : Int} (hM : chkM M = true) (hi : (mT M)[pos]? = some (11, pc, a, b, c, v, tl)) (k : AW M d mc ms (pos + 1) ((1, x) :: stk) loc X cells slots K) : AW M d mc ms pos ((0, x) :: stk) loc X cells slots K := by
  intro g p l e s m args below meth c0 Fz H locs ls hF hK hS hB hR hD hs hl hst hlo hc1 hc2
  have hdec := chk_dec hM hi
  have hfal := chk_fall hM hi
  have hpo := chk_pool hM hi
  rw [pcOf_at hi]
  have hst2 := List.forall_mem_cons.mp hst
  have hr : r64 x := by have h := hst2.1; rw [rgv_0] at h; unfold r32 at h; unfold r64; omega
  have k := k g p l e s m args below meth c0 Fz H locs ls hF hK hS hB hR hD hs hl (List.forall_mem_cons.mpr ⟨hr, hst2.2⟩) hlo hc1 hc2
  rw [fall1 hfal (by simp)] at k
  refine lv_i2l hF.1 hF.2.1 hdec ?_ k
  apply Int64.toInt_inj.mp
  rw [Int32.toInt_toInt64, i32_to hst2.1, i64_to hr]
theorem aw_l2i {x : Int} (hM : chkM M = true) (hi : (mT M)[pos]? = some (12, pc, a, b, c, v, tl)) (k : AW M d mc ms (pos + 1) ((0, l2iI x) :: stk) loc X cells slots K) : AW M d mc ms pos ((1, x) :: stk) loc X cells slots K := by
  intro g p l e s m args below meth c0 Fz H locs ls hF hK hS hB hR hD hs hl hst hlo hc1 hc2
  have hdec := chk_dec hM hi
  have hfal := chk_fall hM hi
  have hpo := chk_pool hM hi
  rw [pcOf_at hi]
  have hst2 := List.forall_mem_cons.mp hst
  have k := k g p l e s m args below meth c0 Fz H locs ls hF hK hS hB hR hD hs hl (List.forall_mem_cons.mpr ⟨toInt_r _, hst2.2⟩) hlo hc1 hc2
  rw [fall1 hfal (by simp)] at k
  exact lv_l2i hF.1 hF.2.1 hdec (emI _).symm k
theorem aw_lneg {x : Int} (hM : chkM M = true) (hi : (mT M)[pos]? = some (13, pc, a, b, c, v, tl)) (k : AW M d mc ms (pos + 1) ((1, w64 (-x)) :: stk) loc X cells slots K) : AW M d mc ms pos ((1, x) :: stk) loc X cells slots K := by
  intro g p l e s m args below meth c0 Fz H locs ls hF hK hS hB hR hD hs hl hst hlo hc1 hc2
  have hdec := chk_dec hM hi
  have hfal := chk_fall hM hi
  have hpo := chk_pool hM hi
  rw [pcOf_at hi]
  have hst2 := List.forall_mem_cons.mp hst
  have k := k g p l e s m args below meth c0 Fz H locs ls hF hK hS hB hR hD hs hl (List.forall_mem_cons.mpr ⟨w64_r _, hst2.2⟩) hlo hc1 hc2
  rw [fall1 hfal (by simp)] at k
  simp [ofInt_w64, emb_1] at k
  exact lv_lneg hF.1 hF.2.1 hdec k
end
section
variable {M : MI} {d mc ms pos pc a b c cells slots : Nat} {v : Int} {tl : List Nat} {stk : List AV} {loc : Lo} {X : HS} {K : Int → HS → Prop}
def cnd (c : Nat) (x y : Int) : Prop := if c = 0 then x = y else if c = 1 then ¬ x = y else if c = 2 then x < y else if c = 3 then ¬ x < y else if c = 4 then y < x else ¬ y < x
/-- two ways on, by a comparison -/
def brc (c : Nat) (x y : Int) (T F : Prop) : Prop := if c = 0 then (x = y → T) ∧ (¬ x = y → F) else if c = 1 then (x = y → F) ∧ (¬ x = y → T) else if c = 2 then (x < y → T) ∧ (¬ x < y → F) else if c = 3 then (x < y → F) ∧ (¬ x < y → T) else if c = 4 then (y < x → T) ∧ (¬ y < x → F) else (y < x → F) ∧ (¬ y < x → T)
theorem brc_e {c : Nat} {x y : Int} {T F : Prop} (h : brc c x y T F) : (cnd c x y → T) ∧ (¬ cnd c x y → F) := by
  unfold brc at h
  unfold cnd
  repeat' split at h
  all_goals simp_all
theorem brc_mono {c : Nat} {x y : Int} {T F T' F' : Prop} (h : brc c x y T F) (hT : T → T') (hF : F → F') : brc c x y T' F' := by
  unfold brc at h ⊢
  repeat' split at h
  all_goals simp_all
theorem off_at (M : MI) (a pc : Nat) : (pc : Int) + offs M a pc = (pcOf M a : Int) := by unfold offs; omega
section
variable {p : Program} {l : Launch} {e : Env} {R : Room} {s : State} {m : MethodId} {args : Array Value} {below : List Frame} {meth : Method} {c0 : Code} {H : Heap} {locs : List Loc} {cells slots : Nat} {Q : State → Prop} {cc : ByteArray} {pc : Nat} {ls : Array Slot} {rest : List Value}
theorem ic_all {c : Nat} {x y : Int} {off : Int} {tgt : Nat} (hx : p.tables.exec = Jvm.exec) (hb : c0.code = cc) (rx : r32 x) (ry : r32 y) (hdg : decode cc pc = .ok (.if_icmp (cndO c) off, 3)) (ht : (pc : Int) + off = (tgt : Int))
    (kt : cnd c x y → W p l e R s m args below meth c0 H locs cells slots Q (F0 m tgt ls rest)) (kf : ¬ cnd c x y → W p l e R s m args below meth c0 H locs cells slots Q (F0 m (pc + 3) ls rest)) : W p l e R s m args below meth c0 H locs cells slots Q (F0 m pc ls (.int (Int32.ofInt y) :: .int (Int32.ofInt x) :: rest)) := by
  by_cases h0 : c = 0
  · subst h0; exact lv_icmp_eq hx hb hdg ht (fun q => kt ((i32_eq rx ry).mp q)) (fun q => kf (fun z => q ((i32_eq rx ry).mpr z)))
  by_cases h1 : c = 1
  · subst h1; exact lv_icmp_ne hx hb hdg ht (fun q => kt (fun z => q ((i32_eq rx ry).mpr z))) (fun q => kf (fun z => z ((i32_eq rx ry).mp q)))
  by_cases h2 : c = 2
  · subst h2; exact lv_icmp_lt hx hb hdg ht (fun q => kt ((i32_lt rx ry).mp q)) (fun q => kf (fun z => q ((i32_lt rx ry).mpr z)))
  by_cases h3 : c = 3
  · subst h3; exact lv_icmp_ge hx hb hdg ht (fun q => kt (fun z => absurd ((i32_le ry rx).mp q) (by omega))) (fun q => kf (fun z => q ((i32_le ry rx).mpr (by have z : ¬ x < _ := z; omega))))
  by_cases h4 : c = 4
  · subst h4; exact lv_icmp_gt hx hb hdg ht (fun q => kt ((i32_lt ry rx).mp q)) (fun q => kf (fun z => q ((i32_lt ry rx).mpr z)))
  have e1 : cndO c = .le := by simp [cndO, h0, h1, h2, h3, h4]
  have e2 : ∀ y : Int, cnd c x y = ¬ y < x := fun y => by simp [cnd, h0, h1, h2, h3, h4]
  rw [e1] at hdg
  rw [e2] at kt kf
  exact lv_icmp_le hx hb hdg ht (fun q => kt (by have := (i32_le rx ry).mp q; omega)) (fun q => kf (fun z => q ((i32_le rx ry).mpr (by omega))))
theorem if_all {c : Nat} {x : Int} {off : Int} {tgt : Nat} (hx : p.tables.exec = Jvm.exec) (hb : c0.code = cc) (rx : r32 x) (hdg : decode cc pc = .ok (.ifCond (cndO c) off, 3)) (ht : (pc : Int) + off = (tgt : Int))
    (kt : cnd c x 0 → W p l e R s m args below meth c0 H locs cells slots Q (F0 m tgt ls rest)) (kf : ¬ cnd c x 0 → W p l e R s m args below meth c0 H locs cells slots Q (F0 m (pc + 3) ls rest)) : W p l e R s m args below meth c0 H locs cells slots Q (F0 m pc ls (.int (Int32.ofInt x) :: rest)) := by
  have ry := r32_0
  by_cases h0 : c = 0
  · subst h0; exact lv_if_eq hx hb hdg ht (fun q => kt ((i32_eq rx ry).mp q)) (fun q => kf (fun z => q ((i32_eq rx ry).mpr z)))
  by_cases h1 : c = 1
  · subst h1; exact lv_if_ne hx hb hdg ht (fun q => kt (fun z => q ((i32_eq rx ry).mpr z))) (fun q => kf (fun z => z ((i32_eq rx ry).mp q)))
  by_cases h2 : c = 2
  · subst h2; exact lv_if_lt hx hb hdg ht (fun q => kt ((i32_lt rx ry).mp q)) (fun q => kf (fun z => q ((i32_lt rx ry).mpr z)))
  by_cases h3 : c = 3
  · subst h3; exact lv_if_ge hx hb hdg ht (fun q => kt (fun z => absurd ((i32_le ry rx).mp q) (by omega))) (fun q => kf (fun z => q ((i32_le ry rx).mpr (by have z : ¬ x < _ := z; omega))))
  by_cases h4 : c = 4
  · subst h4; exact lv_if_gt hx hb hdg ht (fun q => kt ((i32_lt ry rx).mp q)) (fun q => kf (fun z => q ((i32_lt ry rx).mpr z)))
  have e1 : cndO c = .le := by simp [cndO, h0, h1, h2, h3, h4]
  have e2 : ∀ y : Int, cnd c x y = ¬ y < x := fun y => by simp [cnd, h0, h1, h2, h3, h4]
  rw [e1] at hdg
  rw [e2] at kt kf
  exact lv_if_le hx hb hdg ht (fun q => kt (by have := (i32_le rx ry).mp q; omega)) (fun q => kf (fun z => q ((i32_le rx ry).mpr (by omega))))
theorem lg_all (x y : Int) (rx : r64 x) (ry : r64 y) : ∃ z : Int, r32 z ∧ lg_cmp (Int64.ofInt x) (Int64.ofInt y) = Int32.ofInt z ∧ ∀ c, cnd c z 0 ↔ cnd c x y := by
  refine ⟨if y < x then 1 else if x = y then 0 else -1, ?_, ?_, fun c => ?_⟩
  · repeat' split
    all_goals (unfold r32; omega)
  · unfold lg_cmp
    have h1 : (Int64.ofInt x > Int64.ofInt y) ↔ y < x := i64_lt ry rx
    have h2 := i64_eq rx ry
    by_cases q1 : y < x
    · rw [if_pos (h1.mpr q1), if_pos q1]; rfl
    · rw [if_neg (fun z => q1 (h1.mp z)), if_neg q1]
      by_cases q2 : x = y
      · rw [if_pos (h2.mpr q2), if_pos q2]; rfl
      · rw [if_neg (fun z => q2 (h2.mp z)), if_neg q2]; rfl
  · unfold cnd
    repeat' split
    all_goals omega
end
theorem aw_icmp {x y : Int} (hM : chkM M = true) (hi : (mT M)[pos]? = some (16, pc, a, b, c, v, tl)) (k : brc c x y (AW M d mc ms a stk loc X cells slots K) (AW M d mc ms (pos + 1) stk loc X cells slots K)) : AW M d mc ms pos ((0, y) :: (0, x) :: stk) loc X cells slots K := by
  obtain ⟨k1, k2⟩ := brc_e k
  intro g p l e s m args below meth c0 Fz H locs ls hF hK hS hB hR hD hs hl hst hlo hc1 hc2
  have hdec := chk_dec hM hi
  have hfal := chk_fall hM hi
  have hpo := chk_pool hM hi
  rw [pcOf_at hi]
  have hst1 := List.forall_mem_cons.mp hst
  have hst2 := List.forall_mem_cons.mp hst1.2
  refine ic_all hF.1 hF.2.1 hst2.1 hst1.1 hdec (off_at M a pc) (fun q => ?_) (fun q => ?_)
  · have k := k1 q
    have k := k g p l e s m args below meth c0 Fz H locs ls hF hK hS hB hR hD hs hl (hst2.2) hlo hc1 hc2
    exact k
  · have k := k2 q
    have k := k g p l e s m args below meth c0 Fz H locs ls hF hK hS hB hR hD hs hl (hst2.2) hlo hc1 hc2
    rw [fall1 hfal (by simp)] at k
    exact k
theorem aw_ifc {x : Int} (hM : chkM M = true) (hi : (mT M)[pos]? = some (15, pc, a, b, c, v, tl)) (k : brc c x 0 (AW M d mc ms a stk loc X cells slots K) (AW M d mc ms (pos + 1) stk loc X cells slots K)) : AW M d mc ms pos ((0, x) :: stk) loc X cells slots K := by
  obtain ⟨k1, k2⟩ := brc_e k
  intro g p l e s m args below meth c0 Fz H locs ls hF hK hS hB hR hD hs hl hst hlo hc1 hc2
  have hdec := chk_dec hM hi
  have hfal := chk_fall hM hi
  have hpo := chk_pool hM hi
  rw [pcOf_at hi]
  have hst2 := List.forall_mem_cons.mp hst
  refine if_all hF.1 hF.2.1 hst2.1 hdec (off_at M a pc) (fun q => ?_) (fun q => ?_)
  · have k := k1 q
    have k := k g p l e s m args below meth c0 Fz H locs ls hF hK hS hB hR hD hs hl (hst2.2) hlo hc1 hc2
    exact k
  · have k := k2 q
    have k := k g p l e s m args below meth c0 Fz H locs ls hF hK hS hB hR hD hs hl (hst2.2) hlo hc1 hc2
    rw [fall1 hfal (by simp)] at k
    exact k
theorem aw_lci {x y : Int} (hM : chkM M = true) (hi : (mT M)[pos]? = some (14, pc, a, b, c, v, tl)) (k : brc c x y (AW M d mc ms a stk loc X cells slots K) (AW M d mc ms (pos + 2) stk loc X cells slots K)) : AW M d mc ms pos ((1, y) :: (1, x) :: stk) loc X cells slots K := by
  obtain ⟨k1, k2⟩ := brc_e k
  intro g p l e s m args below meth c0 Fz H locs ls hF hK hS hB hR hD hs hl hst hlo hc1 hc2
  have hdec := chk_dec hM hi
  have hfal := chk_fall hM hi
  have hpo := chk_pool hM hi
  rw [pcOf_at hi]
  have hst1 := List.forall_mem_cons.mp hst
  have hst2 := List.forall_mem_cons.mp hst1.2
  obtain ⟨z, rz, ez, hz⟩ := lg_all x y hst2.1 hst1.1
  simp [fallO] at hfal
  refine W.lcmp hF.1 hF.2.1 hdec ?_
  rw [ez]
  refine if_all hF.1 hF.2.1 rz hfal.2 (off_at M a (pc + 1)) (fun q => ?_) (fun q => ?_)
  · have k := k1 ((hz c).mp q)
    have k := k g p l e s m args below meth c0 Fz H locs ls hF hK hS hB hR hD hs hl (hst2.2) hlo hc1 hc2
    exact k
  · have k := k2 (fun w => q ((hz c).mpr w))
    have k := k g p l e s m args below meth c0 Fz H locs ls hF hK hS hB hR hD hs hl (hst2.2) hlo hc1 hc2
    rw [hfal.1] at k
    exact k
theorem aw_goto (hM : chkM M = true) (hi : (mT M)[pos]? = some (19, pc, a, b, c, v, tl)) (k : AW M d mc ms a stk loc X cells slots K) : AW M d mc ms pos stk loc X cells slots K := by
  intro g p l e s m args below meth c0 Fz H locs ls hF hK hS hB hR hD hs hl hst hlo hc1 hc2
  have hdec := chk_dec hM hi
  have hfal := chk_fall hM hi
  have hpo := chk_pool hM hi
  rw [pcOf_at hi]
  have k := k g p l e s m args below meth c0 Fz H locs ls hF hK hS hB hR hD hs hl (hst) hlo hc1 hc2
  exact lv_goto hF.1 hF.2.1 hdec (off_at M a pc) k
theorem refO_none {g : Gx} {x : Int} : refO g x = none ↔ x = -1 := by
  match x with
  | .ofNat k => exact ⟨(fun h => by cases h), (fun h => by cases h)⟩
  | .negSucc 0 => exact ⟨fun _ => rfl, fun _ => rfl⟩
  | .negSucc (n + 1) => exact ⟨(fun h => by cases h), (fun h => by cases h)⟩
theorem aw_ifnull {x : Int} (hM : chkM M = true) (hi : (mT M)[pos]? = some (17, pc, a, b, c, v, tl)) (k : brc 0 x (-1) (AW M d mc ms a stk loc X cells slots K) (AW M d mc ms (pos + 1) stk loc X cells slots K)) : AW M d mc ms pos ((2, x) :: stk) loc X cells slots K := by
  obtain ⟨k1, k2⟩ := brc_e k
  intro g p l e s m args below meth c0 Fz H locs ls hF hK hS hB hR hD hs hl hst hlo hc1 hc2
  have hdec := chk_dec hM hi
  have hfal := chk_fall hM hi
  have hpo := chk_pool hM hi
  rw [pcOf_at hi]
  have hst2 := List.forall_mem_cons.mp hst
  simp only [List.map_cons, emb_2]
  cases q : refO g x with
  | none =>
    have k := k1 (refO_none.mp q)
    have k := k g p l e s m args below meth c0 Fz H locs ls hF hK hS hB hR hD hs hl (hst2.2) hlo hc1 hc2
    exact lv_ifnullN hF.1 hF.2.1 hdec (off_at M a pc) k
  | some y =>
    have k := k2 (fun z => by rw [refO_none.mpr z] at q; cases q)
    have k := k g p l e s m args below meth c0 Fz H locs ls hF hK hS hB hR hD hs hl (hst2.2) hlo hc1 hc2
    rw [fall1 hfal (by simp)] at k
    exact lv_ifnull hF.1 hF.2.1 hdec k
theorem refO_inj {g : Gx} {x y : Int} (hx : -1 ≤ x) (hy : -1 ≤ y) : refO g x = refO g y ↔ x = y := by
  constructor
  · intro h
    match x, y with
    | .ofNat i, .ofNat j => simp [refO] at h; rw [h]
    | .ofNat i, .negSucc 0 => simp [refO] at h
    | .negSucc 0, .ofNat j => simp [refO] at h
    | .negSucc 0, .negSucc 0 => rfl
    | .negSucc (n + 1), _ => omega
    | _, .negSucc (n + 1) => omega
  · intro h; rw [h]
theorem aw_acmp {x y : Int} (hM : chkM M = true) (hi : (mT M)[pos]? = some (18, pc, a, b, c, v, tl)) (hx : -1 ≤ x) (hy : -1 ≤ y) (k : brc 1 x y (AW M d mc ms a stk loc X cells slots K) (AW M d mc ms (pos + 1) stk loc X cells slots K)) : AW M d mc ms pos ((2, y) :: (2, x) :: stk) loc X cells slots K := by
  obtain ⟨k1, k2⟩ := brc_e k
  intro g p l e s m args below meth c0 Fz H locs ls hF hK hS hB hR hD hs hl hst hlo hc1 hc2
  have hdec := chk_dec hM hi
  have hfal := chk_fall hM hi
  have hpo := chk_pool hM hi
  rw [pcOf_at hi]
  have hst2 := List.forall_mem_cons.mp (List.forall_mem_cons.mp hst).2
  simp only [List.map_cons, emb_2]
  refine lv_acmp_ne hF.1 hF.2.1 hdec (off_at M a pc) (fun q => ?_) (fun q => ?_)
  · have k := k1 (fun z => q ((refO_inj hx hy).mpr z))
    have k := k g p l e s m args below meth c0 Fz H locs ls hF hK hS hB hR hD hs hl (hst2.2) hlo hc1 hc2
    exact k
  · have k := k2 (fun z => z ((refO_inj hx hy).mp q))
    have k := k g p l e s m args below meth c0 Fz H locs ls hF hK hS hB hR hD hs hl (hst2.2) hlo hc1 hc2
    rw [fall1 hfal (by simp)] at k
    exact k
theorem aw_null (hM : chkM M = true) (hi : (mT M)[pos]? = some (36, pc, a, b, c, v, tl)) (k : AW M d mc ms (pos + 1) ((2, -1) :: stk) loc X cells slots K) : AW M d mc ms pos stk loc X cells slots K := by
  intro g p l e s m args below meth c0 Fz H locs ls hF hK hS hB hR hD hs hl hst hlo hc1 hc2
  have hdec := chk_dec hM hi
  have hfal := chk_fall hM hi
  have hpo := chk_pool hM hi
  rw [pcOf_at hi]
  have k := k g p l e s m args below meth c0 Fz H locs ls hF hK hS hB hR hD hs hl (List.forall_mem_cons.mpr ⟨trivial, hst⟩) hlo hc1 hc2
  rw [fall1 hfal (by simp)] at k
  exact lv_null hF.1 hF.2.1 hdec k
theorem cat1 {g : Gx} {w : AV} (h : ¬ w.1 = 1) : (emb g w).category = 1 := by
  have h1 := cat_emb g w
  have h2 : (w.1 == 1) = false := by simp [h]
  rw [h2] at h1
  rcases lv_cat (emb g w) with q | q
  · exact q
  · rw [q] at h1; cases h1
theorem aw_dup {w : AV} (hM : chkM M = true) (hi : (mT M)[pos]? = some (28, pc, a, b, c, v, tl)) (hw : ¬ w.1 = 1) (k : AW M d mc ms (pos + 1) (w :: w :: stk) loc X cells slots K) : AW M d mc ms pos (w :: stk) loc X cells slots K := by
  intro g p l e s m args below meth c0 Fz H locs ls hF hK hS hB hR hD hs hl hst hlo hc1 hc2
  have hdec := chk_dec hM hi
  have hfal := chk_fall hM hi
  have hpo := chk_pool hM hi
  rw [pcOf_at hi]
  have hst2 := List.forall_mem_cons.mp hst
  have k := k g p l e s m args below meth c0 Fz H locs ls hF hK hS hB hR hD hs hl (List.forall_mem_cons.mpr ⟨hst2.1, hst⟩) hlo hc1 hc2
  rw [fall1 hfal (by simp)] at k
  exact lv_dup hF.1 hF.2.1 hdec (cat1 hw) k
theorem aw_dup2 {w u : AV} (hM : chkM M = true) (hi : (mT M)[pos]? = some (29, pc, a, b, c, v, tl)) (hw : ¬ w.1 = 1) (hu : ¬ u.1 = 1) (k : AW M d mc ms (pos + 1) (w :: u :: w :: u :: stk) loc X cells slots K) : AW M d mc ms pos (w :: u :: stk) loc X cells slots K := by
  intro g p l e s m args below meth c0 Fz H locs ls hF hK hS hB hR hD hs hl hst hlo hc1 hc2
  have hdec := chk_dec hM hi
  have hfal := chk_fall hM hi
  have hpo := chk_pool hM hi
  rw [pcOf_at hi]
  have hst1 := List.forall_mem_cons.mp hst
  have hst2 := List.forall_mem_cons.mp hst1.2
  have k := k g p l e s m args below meth c0 Fz H locs ls hF hK hS hB hR hD hs hl (List.forall_mem_cons.mpr ⟨hst1.1, List.forall_mem_cons.mpr ⟨hst2.1, hst⟩⟩) hlo hc1 hc2
  rw [fall1 hfal (by simp)] at k
  exact lv_dup2_11 hF.1 hF.2.1 hdec (cat1 hw) (cat1 hu) k
theorem aw_pop {w : AV} (hM : chkM M = true) (hi : (mT M)[pos]? = some (30, pc, a, b, c, v, tl)) (hw : ¬ w.1 = 1) (k : AW M d mc ms (pos + 1) stk loc X cells slots K) : AW M d mc ms pos (w :: stk) loc X cells slots K := by
  intro g p l e s m args below meth c0 Fz H locs ls hF hK hS hB hR hD hs hl hst hlo hc1 hc2
  have hdec := chk_dec hM hi
  have hfal := chk_fall hM hi
  have hpo := chk_pool hM hi
  rw [pcOf_at hi]
  have hst2 := List.forall_mem_cons.mp hst
  have k := k g p l e s m args below meth c0 Fz H locs ls hF hK hS hB hR hD hs hl (hst2.2) hlo hc1 hc2
  rw [fall1 hfal (by simp)] at k
  exact lv_pop hF.1 hF.2.1 hdec (cat1 hw) k
-- ===== switches
theorem aw_tsw {x : Int} (hM : chkM M = true) (hi : (mT M)[pos]? = some (20, pc, a, b, c, v, tl)) (k : ∀ t : Nat, (if v ≤ x ∧ x < v + tl.length then tl.getD (x - v).toNat 0 else a) = t → AW M d mc ms t stk loc X cells slots K) : AW M d mc ms pos ((0, x) :: stk) loc X cells slots K := by
  have k := k _ rfl
  intro g p l e s m args below meth c0 Fz H locs ls hF hK hS hB hR hD hs hl hst hlo hc1 hc2
  have hdec := chk_dec hM hi
  have hfal := chk_fall hM hi
  have hpo := chk_pool hM hi
  rw [pcOf_at hi]
  have hst2 := List.forall_mem_cons.mp hst
  have k := k g p l e s m args below meth c0 Fz H locs ls hF hK hS hB hR hD hs hl (hst2.2) hlo hc1 hc2
  have ex : (Int32.ofInt x).toInt = x := i32_to hst2.1
  by_cases h : v ≤ x ∧ x < v + tl.length
  · rw [if_pos h] at k
    have hlt : (x - v).toNat < tl.length := by omega
    refine lv_tableIn hF.1 hF.2.1 hdec (by rw [ex]; omega) (by rw [ex]; omega) (off := offs M (tl.getD (x - v).toNat 0) pc) ?_ (off_at M _ pc) k
    rw [ex]
    simp [hlt]
  · rw [if_neg h] at k
    refine lv_tableOut hF.1 hF.2.1 hdec (by rw [ex]; omega) (off_at M a pc) k
def lsw (tl : List Nat) (a : Nat) (x : Int) : Nat := match tl with
  | k :: t :: r => if x = (k : Int) then t else lsw r a x
  | _ => a
theorem lsw_off (M : MI) (pc a : Nat) (x : Int) : ∀ (tl : List Nat) (h : tl.length % 2 = 0), Op.lookupswitch.offset ((List.range (tl.length / 2)).map fun i => ((tl.getD (2 * i) 0 : Int), offs M (tl.getD (2 * i + 1) 0) pc)) (offs M a pc) x = offs M (lsw tl a x) pc
  | [], h => rfl
  | [y], h => by simp at h
  | k :: t :: r, h => by
    have hr : r.length % 2 = 0 := by simp at h; omega
    have ih := lsw_off M pc a x r hr
    have e : (k :: t :: r).length / 2 = r.length / 2 + 1 := by simp; omega
    rw [e, List.range_succ_eq_map, List.map_cons, List.map_map]
    have e2 : ((fun i => (((k :: t :: r).getD (2 * i) 0 : Int), offs M ((k :: t :: r).getD (2 * i + 1) 0) pc)) ∘ Nat.succ) = fun i => ((r.getD (2 * i) 0 : Int), offs M (r.getD (2 * i + 1) 0) pc) := by
      funext i
      simp only [Function.comp]
      have h1 : 2 * (i + 1) = 2 * i + 1 + 1 := by omega
      rw [show Nat.succ i = i + 1 from rfl, h1]
      rfl
    rw [e2]
    show Op.lookupswitch.offset (((k : Int), offs M t pc) :: _) _ x = _
    unfold lsw
    by_cases q : x = (k : Int)
    · rw [if_pos q]
      simp [Op.lookupswitch.offset, q]
    · rw [if_neg q, ← ih]
      simp [Op.lookupswitch.offset, q]
      intro z
      exact absurd z.symm q
theorem aw_lsw {x : Int} (hM : chkM M = true) (hi : (mT M)[pos]? = some (21, pc, a, b, c, v, tl)) (hev : tl.length % 2 = 0) (k : ∀ t : Nat, lsw tl a x = t → AW M d mc ms t stk loc X cells slots K) : AW M d mc ms pos ((0, x) :: stk) loc X cells slots K := by
  have k := k _ rfl
  intro g p l e s m args below meth c0 Fz H locs ls hF hK hS hB hR hD hs hl hst hlo hc1 hc2
  have hdec := chk_dec hM hi
  have hfal := chk_fall hM hi
  have hpo := chk_pool hM hi
  rw [pcOf_at hi]
  have hst2 := List.forall_mem_cons.mp hst
  have k := k g p l e s m args below meth c0 Fz H locs ls hF hK hS hB hR hD hs hl (hst2.2) hlo hc1 hc2
  have ex : (Int32.ofInt x).toInt = x := i32_to hst2.1
  refine lv_lookup hF.1 hF.2.1 hdec ?_ (by rw [ex]; exact lsw_off M pc a x tl hev) (off_at M _ pc) k
  have e : (((List.range (tl.length / 2)).map fun i => ((tl.getD (2 * i) 0 : Int), offs M (tl.getD (2 * i + 1) 0) pc)).toArray).toList = (List.range (tl.length / 2)).map fun i => ((tl.getD (2 * i) 0 : Int), offs M (tl.getD (2 * i + 1) 0) pc) := rfl
  rw [e]
  have hpo2 : ((((List.range (tl.length / 2)).map fun i => (tl.getD (2 * i) 0 : Int)).zip (((List.range (tl.length / 2)).map fun i => (tl.getD (2 * i) 0 : Int)).drop 1)).all fun q => decide (q.1 < q.2)) = true := hpo
  rw [List.all_eq_true] at hpo2 ⊢
  intro q hq
  rw [← List.map_drop, List.zip_map] at hq
  rw [← List.map_drop, List.zip_map] at hpo2
  obtain ⟨z, hz, rfl⟩ := List.mem_map.mp hq
  exact hpo2 _ (List.mem_map.mpr ⟨z, hz, rfl⟩)
end
section
variable {M : MI} {d mc ms pos pc a b c cells slots : Nat} {v : Int} {tl : List Nat} {stk : List AV} {loc : Lo} {X : HS} {K : Int → HS → Prop}
def tyL : List (Nat → FieldType) := [ty0, ty1, ty2, ty3, ty4, ty5, ty6, ty7, ty8, ty9, ty10, ty11, ty12]
def tyOf (a : Nat) : Nat → FieldType := tyL.getD a ty0
theorem cls_ty : ∀ a, a < 13 → ∀ k, k < (clsOf a).2.2 → parseFieldDescriptor ((clsOf a).2.1 k).2.2.1 = some (tyOf a k) := by
  intro a ha
  match a, ha with
  | 0, _ => exact tyok0
  | 1, _ => exact tyok1
  | 2, _ => exact tyok2
  | 3, _ => exact tyok3
  | 4, _ => exact tyok4
  | 5, _ => exact tyok5
  | 6, _ => exact tyok6
  | 7, _ => exact tyok7
  | 8, _ => exact tyok8
  | 9, _ => exact tyok9
  | 10, _ => exact tyok10
  | 11, _ => exact tyok11
  | 12, _ => exact tyok12
  | k + 13, h => omega
theorem cls_nm : ∀ a, a < 13 → ∀ i, i < (clsOf a).2.2 → ∀ j, j < (clsOf a).2.2 → i ≠ j → ((clsOf a).2.1 i).2.1 ≠ ((clsOf a).2.1 j).2.1 := by
  intro a ha
  match a, ha with
  | 0, _ => exact nm0
  | 1, _ => exact nm1
  | 2, _ => exact nm2
  | 3, _ => exact nm3
  | 4, _ => exact nm4
  | 5, _ => exact nm5
  | 6, _ => exact nm6
  | 7, _ => exact nm7
  | 8, _ => exact nm8
  | 9, _ => exact nm9
  | 10, _ => exact nm10
  | 11, _ => exact nm11
  | 12, _ => exact nm12
  | k + 13, h => omega
theorem cls_at : ∀ a, a < 13 → cls[a]? = some ((clsOf a).1, (clsOf a).2.1, (clsOf a).2.2) := by
  intro a ha
  have h : a < cls.length := ha
  unfold clsOf
  rw [List.getD_eq_getElem?_getD, List.getElem?_eq_getElem h]
  rfl
/-- the shapes: of an object its fields' number -/
theorem shp_ok : ∀ k, k < NC → (shp k).1 < 100 → (shp k).1 < 13 ∧ (shp k).2 = (clsOf (shp k).1).2.2 := by
  have h : (List.range NC).all (fun k => decide ((shp k).1 < 100 → (shp k).1 < 13 ∧ (shp k).2 = (clsOf (shp k).1).2.2)) = true := by decide +kernel
  intro k hk
  exact of_decide_eq_true (List.all_eq_true.mp h k (List.mem_range.mpr hk))
def kdT (t : FieldType) (k : Nat) : Bool := match t with
  | .int => k == 0
  | .long => k == 1
  | .boolean => k == 4
  | .object _ => k == 2 || k == 3
  | .array _ => k == 2 || k == 3
  | _ => false
theorem fk_ok : ∀ a, a < 13 → ∀ j, j < (clsOf a).2.2 → kdT (tyOf a j) (fk a j) = true := by
  have h : (List.range 13).all (fun a => (List.range (clsOf a).2.2).all fun j => kdT (tyOf a j) (fk a j)) = true := by decide +kernel
  intro a ha j hj
  exact List.all_eq_true.mp (List.all_eq_true.mp h a (List.mem_range.mpr ha)) j (List.mem_range.mpr hj)
/-- a reference to a cell of a kind -/
theorem ref_of {r : Int} {a : Nat} (h : sK r = a) (ha : a < 900) : ∃ k : Nat, r = (k : Int) ∧ (shp k).1 = a := by
  match r, h with
  | .ofNat k, h => exact ⟨k, rfl, h⟩
  | .negSucc n, h => simp [sK] at h; omega
theorem shp_out {k : Nat} (h : NC ≤ k) : shp k = (999, 0) := by
  unfold shp
  have : Nat.blt k NC = false := by
    cases q : Nat.blt k NC with
    | false => rfl
    | true => exact absurd (Nat.le_of_ble_eq_true q) (by omega)
  rw [this]
  rfl
theorem shp_lt {k a : Nat} (h : (shp k).1 = a) (ha : a < 900) : k < NC := by
  by_cases q : k < NC
  · exact q
  · rw [shp_out (by omega)] at h
    dsimp only at h
    omega
def gfv (X : HS) (a b : Nat) (r : Int) : AV := if fk a b = 1 then (1, X.2.2 r b) else if fk a b = 2 then (2, X.1 r b) else if fk a b = 3 then (2, X.2.2 r b) else (0, X.2.2 r b)
theorem gfv_emb (g : Gx) (X : HS) (a b k : Nat) : emb g (gfv X a b k) = fldV g X.1 X.2.2 k a b := by
  unfold gfv fldV
  repeat' split
  all_goals rfl
theorem cellE_obj {g : Gx} {π : Int → Int → Int} {σ : Mem} {k a : Nat} (h : (shp k).1 = a) (ha : a < 100) : cellE g π σ k = .inr (a, (List.range (shp k).2).map (fldV g π σ k a)) := by
  subst h
  unfold cellE
  rw [if_pos ha]
theorem aw_getf {r : Int} (hM : chkM M = true) (hi : (mT M)[pos]? = some (22, pc, a, b, c, v, tl)) (hr : sK r = a) (ha : a < 100) (hn : r < X.2.1) (k : AW M d mc ms (pos + 1) (gfv X a b r :: stk) loc X cells slots K) : AW M d mc ms pos ((2, r) :: stk) loc X cells slots K := by
  intro g p l e s m args below meth c0 Fz H locs ls hF hK hS hB hR hD hs hl hst hlo hc1 hc2
  have hdec := chk_dec hM hi
  have hfal := chk_fall hM hi
  have hpo := chk_pool hM hi
  rw [pcOf_at hi]
  simp [poolO] at hpo
  obtain ⟨hb, hlk⟩ := hpo
  have hst2 := List.forall_mem_cons.mp hst
  obtain ⟨q, rfl, hq⟩ := ref_of hr (by omega)
  have hqn : q < X.2.1 := by omega
  have hNC := shp_lt hq (by omega)
  obtain ⟨h13, hsz⟩ := shp_ok q hNC (by omega)
  rw [hq] at h13 hsz
  have hrg : rgv (gfv X a b q) := by
    have h := hD.2.2.1.1 q b hNC
    unfold kdAt at h
    rw [hq, if_pos ha] at h
    unfold gfv
    unfold rgk at h
    have hkd := fk_ok a h13 b hb
    repeat' split
    all_goals simp_all [rgv]
    rcases (by revert hkd; unfold kdT; split <;> simp_all : fk a b = 0 ∨ fk a b = 4) with z | z
    · rw [z] at h; simpa using h
    · rw [z] at h; simp at h; unfold r32; omega
  have k := k g p l e s m args below meth c0 Fz H locs ls hF hK hS hB hR hD hs hl (List.forall_mem_cons.mpr ⟨hrg, hst2.2⟩) hlo hc1 hc2
  rw [fall1 hfal (by simp)] at k
  have hws := wsL_get (g := g) hqn
  rw [cellE_obj hq ha] at hws
  refine va_get (D := gD g) (cl := cls) (tys := tysL g) (ws := wsL g X) (N := (clsOf a).2.2) (T := (clsOf a).2.1) (C := (clsOf a).1) (ci := a) (Ts := W0) hF.1 hF.2.1 hF.2.2.2.2.1 (cls_in a h13) hF.2.2.2.1 hK.1 hD.2.1 q hws (cls_at a h13) b hb (hF.2.2.2.2.1 _ (FL_ok _ (List.mem_of_getElem? hlk))) (fun _ h9 => h9) (v := emb g (gfv X a b q)) ?_ hdec k
  rw [gfv_emb, List.getElem?_map, List.getElem?_range (by rw [hsz]; exact hb)]
  rfl
end
section
variable {M : MI} {d mc ms pos pc a b c cells slots : Nat} {v : Int} {tl : List Nat} {stk : List AV} {loc : Lo} {X : HS} {K : Int → HS → Prop}
section
variable {p : Program} {l : Launch} {e : Env} {R : Room} {s : State} {m : MethodId} {args : Array Value} {below : List Frame} {meth : Method} {c : Code} {H H0 : Heap} {locs : List Loc} {cells slots : Nat} {Q : State → Prop} {cc : ByteArray} {pc : Nat} {ls : Array Slot} {rest : List Value} {D : va_G} {cl : List vw_C} {A : Nat → Prop} {a : Nat} {tys : List (ClassId × FieldType)} {ws : va_W}
/-- a field written, final or not; the heap's size stays -/
theorem my_put (hexec : p.tables.exec = Jvm.exec) (hb : c.code = cc) {own C : String} {T : u_T} {N ci index : Nat} {Ts : List Jvm.Cond} (hts : ∀ w ∈ Ts, w.before args s = true) (hin : ∀ w ∈ u_ws C T N, w ∈ Ts) (tyq : Nat → FieldType) (hty : ∀ k, k < N → parseFieldDescriptor (T k).2.2.1 = some (tyq k)) (hnm : ∀ a, a < N → ∀ b, b < N → a ≠ b → (T a).2.1 ≠ (T b).2.1) (hown : s.vm.findClass own = some m.cls) (hK : va_K D cl tys s) (hP : va_P D cl ws H) (hD : va_D A ws) (hS0 : va_S A H0 H locs) (q0 : Nat) {fs : List Value} (he : ws[q0]? = some (a, .inr (ci, fs))) (hc : cl[ci]? = some (C, T, N)) (k : Nat) (hk : k < N) (hlink : (Jvm.Cond.fieldLink own index (T k).1 (T k).2.1 (T k).2.2.1).before args s = true) (hfin : (T k).2.2.2 = false ∨ ((T k).2.2.2 = true ∧ meth.name = "<init>" ∧ (T k).1 = own)) {v : Value} (hn : narrow (tyq k) v = v) (hfit : fits (tyq k) v = true) (hl : k < fs.length)
    (hdg : decode cc pc = .ok (.putfield index, 3)) (kk : ∀ (H1 : Heap) (locs1 : List Loc), H1.size = H.size → va_P D cl (ws.set q0 (a, .inr (ci, fs.set k v))) H1 → va_S A H0 H1 locs1 → W p l e R s m args below meth c H1 locs1 cells slots Q (F0 m (pc + 3) ls rest)) : W p l e R s m args below meth c H locs cells slots Q (F0 m pc ls (v :: .ref a :: rest)) := by
  have hap := va_apart (own := own) hts hin tyq hty hnm hK hc
  obtain ⟨r, h1, cell, q1, q2, q3, q4⟩ := hP q0 _ he
  have hr : r = (C, T, N) := Option.some.inj (h1.symm.trans hc)
  subst hr
  obtain ⟨hS, hfc, kC, hkC, hkind⟩ := hK.1 ci _ hc
  obtain ⟨cf, kf, fi, f, hi, hsl⟩ := hS k hk
  have hst := (u_facts hfc hkC (u_lays hts hin hk) hi).1
  have hlay := hts _ (hin _ (u_in_lay hk))
  unfold u_lay at hlay
  have hgo : ∀ H1 : Heap, H1[a]? = some (cell.setSlot f.slot v) → H1.size = H.size → (∀ q, q ≠ a → H1[q]? = H[q]?) → W p l e R s m args below meth c H1 (locs ++ [⟨a, f.slot⟩]) cells slots Q (F0 m (pc + 3) ls rest) := by
    intro H1 e1 e2 e3
    rw [hsl] at e1 ⊢
    exact kk H1 _ e2 (hP.set hD he ⟨_, hc, t_OB.to (V := updV (vp_V fs) k v) ⟨_, e1, q2, q3, t_set q4 hap hk v⟩ (fun j _ => vp_updV_set hl v j)⟩ e3) (hS0.put e2 e3 (hD.2 q0 _ he))
  rcases hfin with hfin | ⟨hfin, hini, hdecl⟩
  · rw [if_neg (by rw [hfin]; decide)] at hlay
    have h6 := u_store hfc hkC hkind hlay hi (hty k hk) hn hfit
    exact W.putK hexec hb (f := f) ⟨hown, hlink, ⟨_, _, _, hi⟩, hst⟩ (by rw [q2]; exact h6) q1 q3 (by rw [hsl]; exact k2_hasslot (q4 k hk)) rfl rfl hdg hgo
  · rw [if_pos hfin] at hlay
    have hcf : m.cls = cf := by
      obtain ⟨_, _, c', _, _, _, -, -, hf', -, -, -, hown2, -⟩ := Cond.laysFinal_spec hlay
      have e1 : c' = cf := by have := hi.symm.trans hf'; simp at this; exact this.1.symm
      rw [hdecl] at hown2
      rw [← e1]; exact Option.some.inj (hown.symm.trans hown2)
    have h6 := u_fits hfc hkC hkind (Or.inr hlay) hi (hty k hk) hn hfit
    exact W.putFinK hexec hb hown hlink hi hst hcf hini (by rw [q2]; exact h6) q1 q3 (by rw [hsl]; exact k2_hasslot (q4 k hk)) rfl rfl hdg hgo
/-- an int written into a row; the heap's size stays -/
theorem my_iast (hexec : p.tables.exec = Jvm.exec) (hb : c.code = cc) (hK : va_K D cl tys s) (hP : va_P D cl ws H) (hD : va_D A ws) (hS : va_S A H0 H locs) (q0 t0 : Nat) {cA : ClassId} {n : Nat} {f : Nat → Int32} (ha : ws[q0]? = some (a, .inl (cA, n, .inl f))) (ht : tys[t0]? = some (cA, .int)) {i : Int32} {x : Int32} (hin : vp_in i n) (hdg : decode cc pc = .ok (.iastore, 1))
    (kk : ∀ (H1 : Heap) (locs1 : List Loc), H1.size = H.size → va_P D cl (ws.set q0 (a, .inl (cA, n, .inl (fun j => if j = i.toNatClampNeg then x else f j)))) H1 → va_S A H0 H1 locs1 → W p l e R s m args below meth c H1 locs1 cells slots Q (F0 m (pc + 1) ls rest)) : W p l e R s m args below meth c H locs cells slots Q (F0 m pc ls (.int x :: .int i :: .ref a :: rest)) := by
  refine W.iast hexec hb (hP q0 _ ha) ((hK.2 t0 _ ht).1 n (fun j => .int (f j))) (fun q => by cases q) (by show ¬ (i < 0 ∨ (arrV _ _ _).slots.size ≤ _); rw [arrV_size]; exact hin) rfl rfl hdg fun H1 e z oq => ?_
  refine kk H1 _ z (hP.set hD ha ?_ oq) (hS.put z oq (hD.2 q0 _ ha))
  show H1[a]? = some (vp_cell _ _)
  rw [e, vp_cell_i, vp_cell_i, arrV_store]
  congr 2
  funext q
  by_cases hq : q = i.toNatClampNeg
  · subst hq
    simp [updV]
  · simp [updV, hq]
end
/-- the memory after a field is written -/
def pfv (X : HS) (a b : Nat) (r w : Int) : HS := if fk a b = 2 then (st X.1 r b w, X.2.1, X.2.2) else (X.1, X.2.1, st X.2.2 r b w)
/-- the mark that a value for a field must have -/
def pft (a b : Nat) : Nat := if fk a b = 1 then 1 else if fk a b = 2 then 2 else if fk a b = 3 then 2 else 0
theorem map_set {f f' : Nat → Value} {n b : Nat} {w : Value} (hb : f' b = w) (ho : ∀ j, j ≠ b → f' j = f j) : ((List.range n).map f).set b w = (List.range n).map f' := by
  apply List.ext_getElem?
  intro i
  rw [List.getElem?_set, List.getElem?_map, List.getElem?_map, List.length_map, List.length_range]
  by_cases hi : i < n
  · rw [List.getElem?_range hi]
    by_cases e : b = i
    · subst e
      rw [if_pos rfl, if_pos hi]
      simp [hb]
    · rw [if_neg e]
      simp [ho i (fun q => e q.symm)]
  · rw [List.getElem?_eq_none (by rw [List.length_range]; omega)]
    by_cases e : b = i
    · subst e; rw [if_pos rfl, if_neg hi]; rfl
    · rw [if_neg e]; rfl
theorem kd_fit (g : Gx) {t : FieldType} {kd : Nat} {w : Int} (hk : kdT t kd = true) (hbool : kd = 4 → w = 0 ∨ w = 1) :
    narrow t (emb g ((if kd = 1 then 1 else if kd = 2 then 2 else if kd = 3 then 2 else 0), w)) = emb g ((if kd = 1 then 1 else if kd = 2 then 2 else if kd = 3 then 2 else 0), w) ∧ fits t (emb g ((if kd = 1 then 1 else if kd = 2 then 2 else if kd = 3 then 2 else 0), w)) = true := by
  unfold kdT at hk
  split at hk
  · simp at hk; subst hk; exact ⟨rfl, rfl⟩
  · simp at hk; subst hk; exact ⟨rfl, rfl⟩
  · simp at hk; subst hk
    rcases hbool rfl with rfl | rfl
    · exact ⟨rfl, rfl⟩
    · exact ⟨rfl, rfl⟩
  · simp at hk
    have e : (if kd = 1 then 1 else if kd = 2 then 2 else if kd = 3 then 2 else 0) = 2 := by rcases hk with rfl | rfl <;> rfl
    rw [e, emb_2]
    cases refO g w <;> exact ⟨rfl, rfl⟩
  · simp at hk
    have e : (if kd = 1 then 1 else if kd = 2 then 2 else if kd = 3 then 2 else 0) = 2 := by rcases hk with rfl | rfl <;> rfl
    rw [e, emb_2]
    cases refO g w <;> exact ⟨rfl, rfl⟩
  · cases hk
theorem fldV_pi {g : Gx} {π : Int → Int → Int} {σ : Mem} {k c j : Nat} {r i w : Int} (h : ¬ ((k : Int) = r ∧ (j : Int) = i)) : fldV g (st π r i w) σ k c j = fldV g π σ k c j := by unfold fldV; rw [st_ne h]
theorem fldV_si {g : Gx} {π : Int → Int → Int} {σ : Mem} {k c j : Nat} {r i w : Int} (h : ¬ ((k : Int) = r ∧ (j : Int) = i)) : fldV g π (st σ r i w) k c j = fldV g π σ k c j := by unfold fldV; rw [st_ne h]
theorem cellE_pi {g : Gx} {π : Int → Int → Int} {σ : Mem} {r : Nat} {i w : Int} {k : Nat} (h : k ≠ r) : cellE g (st π r i w) σ k = cellE g π σ k := by
  have e : ∀ j : Int, st π r i w k j = π k j := fun j => st_ne (fun q => h (by omega))
  unfold cellE
  simp only [e]
  have e2 : fldV g (st π r i w) σ k (shp k).1 = fldV g π σ k (shp k).1 := by
    funext j
    unfold fldV
    simp only [e]
  rw [e2]
theorem aw_putf {r w : Int} (hM : chkM M = true) (hi : (mT M)[pos]? = some (23, pc, a, b, c, v, tl)) (hr : sK r = a) (ha : a < 100) (hn : r < X.2.1) (hbool : fk a b = 4 → w = 0 ∨ w = 1) (k : AW M d mc ms (pos + 1) stk loc (pfv X a b r w) cells slots K) : AW M d mc ms pos ((pft a b, w) :: (2, r) :: stk) loc X cells slots K := by
  intro g p l e s m args below meth c0 Fz H locs ls hF hK hS hB hR hD hs hl hst hlo hc1 hc2
  have hdec := chk_dec hM hi
  have hfal := chk_fall hM hi
  have hpo := chk_pool hM hi
  rw [pcOf_at hi]
  simp [poolO] at hpo
  obtain ⟨⟨hb, hlk⟩, hfn⟩ := hpo
  have hst1 := List.forall_mem_cons.mp hst
  have hst2 := List.forall_mem_cons.mp hst1.2
  obtain ⟨q, rfl, hq⟩ := ref_of hr (by omega)
  have hqn : q < X.2.1 := by omega
  have hNC := shp_lt hq (by omega)
  obtain ⟨h13, hsz⟩ := shp_ok q hNC (by omega)
  rw [hq] at h13 hsz
  have hkd := fk_ok a h13 b hb
  have hfit := kd_fit g hkd hbool
  have hws := wsL_get (g := g) hqn
  rw [cellE_obj hq ha] at hws
  have hnX : (pfv X a b q w).2.1 = X.2.1 := by unfold pfv; split <;> rfl
  have hset : cellE g (pfv X a b q w).1 (pfv X a b q w).2.2 q = .inr (a, ((List.range (shp q).2).map (fldV g X.1 X.2.2 q a)).set b (emb g (pft a b, w))) := by
    rw [cellE_obj hq ha]
    congr 2
    symm
    apply map_set
    · unfold pfv pft fldV emb
      by_cases h1 : fk a b = 1
      · simp [h1, st_self]
      · by_cases h2 : fk a b = 2
        · simp [h2, st_self]
        · by_cases h3 : fk a b = 3
          · simp [h3, st_self]
          · simp [h1, h2, h3, st_self]
    · intro j hj
      unfold pfv
      split
      · exact fldV_pi (fun z => hj (by omega))
      · exact fldV_si (fun z => hj (by omega))
  have hoth : ∀ j, j ≠ q → cellE g (pfv X a b q w).1 (pfv X a b q w).2.2 j = cellE g X.1 X.2.2 j := by
    intro j hj
    unfold pfv
    split
    · exact cellE_pi hj
    · exact cellE_st hj
  have hPW : PW g (pfv X a b q w).2.2 := by
    unfold pfv
    split
    · exact hD.2.2.1
    · rename_i h2
      refine PW_st hD.2.2.1 (fun j hj => ?_)
      have hjb : j = b := by omega
      subst hjb
      have e : kdAt q j = fk a j := by unfold kdAt; rw [hq, if_pos ha]
      rw [e]
      have hv := hst1.1
      unfold rgk
      unfold rgv pft at hv
      by_cases h1 : fk a j = 1
      · simp [h1] at hv ⊢; exact hv
      · by_cases h3 : fk a j = 3
        · simp [h3]
        · simp [h1, h2, h3] at hv
          by_cases h4 : fk a j = 4
          · simp [h4]; exact hbool h4
          · simp [h1, h4]; intro _; exact hv
  rw [show (List.map (emb g) ((pft a b, w) :: (2, (q : Int)) :: stk)) = emb g (pft a b, w) :: .ref (gB g + q) :: stk.map (emb g) from rfl]
  refine my_put (D := gD g) (cl := cls) (tys := tysL g) (ws := wsL g X) (N := (clsOf a).2.2) (T := (clsOf a).2.1) (C := (clsOf a).1) (ci := a) (Ts := W0) (A := AA g) hF.1 hF.2.1 hF.2.2.2.2.1 (cls_in a h13) (tyOf a) (cls_ty a h13) (cls_nm a h13) hF.2.2.2.1 hK.1 hD.2.1 (wsL_D g X) hs q hws (cls_at a h13) b hb (hF.2.2.2.2.1 _ (FL_ok _ (List.mem_of_getElem? hlk))) ?_ hfit.1 hfit.2 (by simp [hsz, hb]) hdec (fun H1 locs1 z hP1 hS1 => ?_)
  · rcases hfn with z | z
    · exact Or.inl z
    · by_cases y : ((clsOf a).2.1 b).2.2.2 = false
      · exact Or.inl y
      · exact Or.inr ⟨by simpa using y, by rw [hF.2.2.2.2.2.2.2]; exact z.1, by rw [fld_own a h13 b hb, z.2]; rfl⟩
  · have k := k g p l e s m args below meth c0 Fz H1 locs1 ls hF hK hS hB hR ⟨⟨by rw [hnX, z]; exact hD.1.1, by rw [hnX, z]; exact hD.1.2⟩, va_Pset hP1 hnX hset hoth, hPW, by rw [hnX]; exact hD.2.2.2⟩ hS1 hl hst2.2 hlo hc1 hc2
    rw [fall1 hfal (by simp)] at k
    exact k
end
section
variable {M : MI} {d mc ms pos pc a b c cells slots : Nat} {v : Int} {tl : List Nat} {stk : List AV} {loc : Lo} {X : HS} {K : Int → HS → Prop}
def alv (X : HS) (a : Nat) (r i : Int) : AV := if a = 101 then (1, X.2.2 r i) else if 103 ≤ a ∧ a < 900 then (2, X.1 r i) else (0, X.2.2 r i)
def aln (X : HS) (a : Nat) (r : Int) : Int := if a = 903 then X.2.2 (-4) (-1) else sN r
theorem ty_at (g : Gx) : (tysL g)[0]? = some (gA g 0, .int) ∧ (tysL g)[1]? = some (gA g 1, .long) ∧ (tysL g)[2]? = some (gA g 2, .boolean) ∧ (tysL g)[3]? = some (gA g 3, .object "TakenInTurns$Giving") ∧ (tysL g)[4]? = some (gA g 4, .object "TakenInTurns$Shelf") ∧ (tysL g)[5]? = some (gA g 5, .object "TakenInTurns$Shares") ∧ (tysL g)[6]? = some (gA g 6, .array .int) := ⟨rfl, rfl, rfl, rfl, rfl, rfl, rfl⟩
theorem cellE_i {g : Gx} {π : Int → Int → Int} {σ : Mem} {k : Nat} (h : (shp k).1 = 100) : cellE g π σ k = .inl (gA g 0, (shp k).2, .inl (fun j => Int32.ofInt (σ k j))) := by unfold cellE; rw [h]; rfl
theorem cellE_l {g : Gx} {π : Int → Int → Int} {σ : Mem} {k : Nat} (h : (shp k).1 = 101) : cellE g π σ k = .inl (gA g 1, (shp k).2, .inr (.inl (fun j => Int64.ofInt (σ k j)))) := by unfold cellE; rw [h]; rfl
theorem cellE_z {g : Gx} {π : Int → Int → Int} {σ : Mem} {k : Nat} (h : (shp k).1 = 102) : cellE g π σ k = .inl (gA g 2, (shp k).2, .inl (fun j => Int32.ofInt (σ k j))) := by unfold cellE; rw [h]; rfl
theorem cellE_q {g : Gx} {π : Int → Int → Int} {σ : Mem} {k a : Nat} (h : (shp k).1 = a) (ha : 103 ≤ a) : cellE g π σ k = .inl (gA g (a - 100), (shp k).2, .inr (.inr (.inr (.inr (fun j => refO g (π k j)))))) := by
  unfold cellE
  rw [h, if_neg (by omega), if_neg (by omega), if_neg (by omega)]
theorem shp_q : ∀ k, k < NC → 103 ≤ (shp k).1 → (shp k).1 < 107 := by
  have h : (List.range NC).all (fun k => decide (103 ≤ (shp k).1 → (shp k).1 < 107)) = true := by decide +kernel
  intro k hk
  exact of_decide_eq_true (List.all_eq_true.mp h k (List.mem_range.mpr hk))
section
variable {p : Program} {l : Launch} {e : Env} {R : Room} {s : State} {m : MethodId} {args : Array Value} {below : List Frame} {meth : Method} {c : Code} {H H0 : Heap} {locs : List Loc} {cells slots : Nat} {Q : State → Prop} {cc : ByteArray} {pc : Nat} {ls : Array Slot} {rest : List Value} {D : va_G} {cl : List vw_C} {A : Nat → Prop} {a : Nat} {tys : List (ClassId × FieldType)} {ws : va_W}
theorem my_aald (hexec : p.tables.exec = Jvm.exec) (hb : c.code = cc) (hK : va_K D cl tys s) (hP : va_P D cl ws H) (q0 t0 : Nat) {cA : ClassId} {ty : FieldType} {n : Nat} {f : Nat → Option Nat} (ha : ws[q0]? = some (a, .inl (cA, n, .inr (.inr (.inr (.inr f)))))) (ht : tys[t0]? = some (cA, ty)) (hty : (∃ C, ty = .object C) ∨ ∃ t, ty = .array t) {i : Int32} (hin : vp_in i n) (hdg : decode cc pc = .ok (.aaload, 1))
    (kk : W p l e R s m args below meth c H locs cells slots Q (F0 m (pc + 1) ls (va_rf (f i.toNatClampNeg) :: rest))) : W p l e R s m args below meth c H locs cells slots Q (F0 m pc ls (.int i :: .ref a :: rest)) := by
  have hlt : i.toNatClampNeg < n := Nat.not_le.mp fun q => hin (Or.inr q)
  refine W.aald (v := va_rf (f i.toNatClampNeg)) (ty := ty) hexec hb (hP q0 _ ha) ((hK.2 t0 _ ht).1 n (fun j => va_rf (f j))) ?_ (fun q => by cases q) (by show ¬ (i < 0 ∨ (arrV _ _ _).slots.size ≤ _); rw [arrV_size]; exact hin) (by show (arrV _ _ _).slots[_]? = _; rw [arrV_read _ _ hlt]) rfl rfl hdg kk
  rcases hty with ⟨C, rfl⟩ | ⟨t, rfl⟩ <;> rfl
end
theorem aw_ald {r i : Int} (hM : chkM M = true) (hi : (mT M)[pos]? = some (25, pc, a, b, c, v, tl)) (ha : 100 ≤ a) (hr : sK r = a) (hn : r < X.2.1) (h0 : 0 ≤ i) (h1 : i < aln X a r) (k : AW M d mc ms (pos + 1) (alv X a r i :: stk) loc X cells slots K) : AW M d mc ms pos ((0, i) :: (2, r) :: stk) loc X cells slots K := by
  intro g p l e s m args below meth c0 Fz H locs ls hF hK hS hB hR hD hs hl hst hlo hc1 hc2
  have hdec := chk_dec hM hi
  have hfal := chk_fall hM hi
  have hpo := chk_pool hM hi
  rw [pcOf_at hi]
  have hst1 := List.forall_mem_cons.mp hst
  have hst2 := List.forall_mem_cons.mp hst1.2
  have ri : r32 i := hst1.1
  have hfp := fall1 hfal (by simp)
  obtain ⟨j, rfl⟩ : ∃ j : Nat, i = (j : Int) := ⟨i.toNat, by omega⟩
  have hcl : (Int32.ofInt (j : Int)).toNatClampNeg = j := i32_clamp ri
  by_cases h9 : a < 900
  · obtain ⟨q, rfl, hq⟩ := ref_of hr h9
    have hqn : q < X.2.1 := by omega
    have hNC := shp_lt hq h9
    have hln : aln X a q = ((shp q).2 : Int) := by unfold aln; rw [if_neg (by omega)]; rfl
    have hin : vp_in (Int32.ofInt (j : Int)) (shp q).2 := i32_in ri h0 (by rw [← hln]; exact h1)
    have hws := wsL_get (g := g) hqn
    have hkd := hD.2.2.1.1 q j hNC
    unfold kdAt at hkd
    rw [hq, if_neg (by omega)] at hkd
    by_cases h100 : a = 100
    · subst h100
      rw [cellE_i hq] at hws
      have k := k g p l e s m args below meth c0 Fz H locs ls hF hK hS hB hR hD hs hl (List.forall_mem_cons.mpr ⟨(show r32 (X.2.2 q j) by simpa [rgk] using hkd), hst2.2⟩) hlo hc1 hc2
      rw [hfp] at k
      refine va_iald (D := gD g) (cl := cls) (tys := tysL g) (ws := wsL g X) hF.1 hF.2.1 hK.1 hD.2.1 q 0 hws (ty_at g).1 hin hdec ?_
      rw [hcl]
      exact k
    by_cases h101 : a = 101
    · subst h101
      rw [cellE_l hq] at hws
      have k := k g p l e s m args below meth c0 Fz H locs ls hF hK hS hB hR hD hs hl (List.forall_mem_cons.mpr ⟨(show r64 (X.2.2 q j) by simpa [rgk] using hkd), hst2.2⟩) hlo hc1 hc2
      rw [hfp] at k
      refine va_lald (D := gD g) (cl := cls) (tys := tysL g) (ws := wsL g X) hF.1 hF.2.1 hK.1 hD.2.1 q 1 hws (ty_at g).2.1 hin hdec ?_
      rw [hcl]
      exact k
    by_cases h102 : a = 102
    · subst h102
      rw [cellE_z hq] at hws
      have hr2 : r32 (X.2.2 q j) := by
        have z : X.2.2 q j = 0 ∨ X.2.2 q j = 1 := by simpa [rgk] using hkd
        unfold r32; omega
      have k := k g p l e s m args below meth c0 Fz H locs ls hF hK hS hB hR hD hs hl (List.forall_mem_cons.mpr ⟨hr2, hst2.2⟩) hlo hc1 hc2
      rw [hfp] at k
      refine va_zald (D := gD g) (cl := cls) (tys := tysL g) (ws := wsL g X) hF.1 hF.2.1 hK.1 hD.2.1 q 2 hws (ty_at g).2.2.1 hin hdec ?_
      rw [hcl]
      exact k
    · have h103 : 103 ≤ a := by omega
      have h107 := shp_q q hNC (by omega)
      rw [hq] at h107
      rw [cellE_q hq h103] at hws
      have ev : alv X a q j = (2, X.1 q j) := by unfold alv; rw [if_neg (by omega), if_pos ⟨h103, h9⟩]
      rw [ev] at k
      have k := k g p l e s m args below meth c0 Fz H locs ls hF hK hS hB hR hD hs hl (List.forall_mem_cons.mpr ⟨trivial, hst2.2⟩) hlo hc1 hc2
      rw [hfp] at k
      have hd2 : decode (mC M) pc = .ok (.aaload, 1) := by
        have := hdec
        simp only [insO] at this
        simp [h101, h102, show ¬ a < 103 by omega, show ¬ 900 ≤ a by omega] at this
        exact this
      obtain ⟨-, -, -, t3, t4, t5, t6⟩ := ty_at g
      rcases (by omega : a = 103 ∨ a = 104 ∨ a = 105 ∨ a = 106) with rfl | rfl | rfl | rfl
      · refine my_aald (D := gD g) (cl := cls) (tys := tysL g) (ws := wsL g X) hF.1 hF.2.1 hK.1 hD.2.1 q 3 hws t3 (Or.inl ⟨_, rfl⟩) hin hd2 ?_
        rw [hcl]; exact k
      · refine my_aald (D := gD g) (cl := cls) (tys := tysL g) (ws := wsL g X) hF.1 hF.2.1 hK.1 hD.2.1 q 4 hws t4 (Or.inl ⟨_, rfl⟩) hin hd2 ?_
        rw [hcl]; exact k
      · refine my_aald (D := gD g) (cl := cls) (tys := tysL g) (ws := wsL g X) hF.1 hF.2.1 hK.1 hD.2.1 q 5 hws t5 (Or.inl ⟨_, rfl⟩) hin hd2 ?_
        rw [hcl]; exact k
      · refine my_aald (D := gD g) (cl := cls) (tys := tysL g) (ws := wsL g X) hF.1 hF.2.1 hK.1 hD.2.1 q 6 hws t6 (Or.inr ⟨_, rfl⟩) hin hd2 ?_
        rw [hcl]; exact k
  · have ev : alv X a r j = (0, X.2.2 r j) := by unfold alv; rw [if_neg (by omega), if_neg (by omega)]
    rw [ev] at k
    have hd2 : decode (mC M) pc = .ok (.iaload, 1) := by
      have := hdec
      simp only [insO] at this
      simp [show ¬ a = 101 by omega, show ¬ a = 102 by omega, show ¬ a < 103 by omega, show 900 ≤ a by omega] at this
      exact this
    cases r with
    | ofNat q =>
      have hq : (shp q).1 = a := hr
      exfalso
      have hn2 : (q : Int) < (X.2.1 : Int) := hn
      have : X.2.1 ≤ NC := hD.2.2.2
      have e : (List.range NC).all (fun k => decide ((shp k).1 < 900)) = true := by decide +kernel
      have := of_decide_eq_true (List.all_eq_true.mp e q (List.mem_range.mpr (by omega)))
      omega
    | negSucc n =>
      have hn9 : 900 + n = a := hr
      by_cases n1 : n = 1
      · subst n1
        have hj : j < 7 := by
          unfold aln at h1
          rw [if_neg (by omega)] at h1
          exact Int.ofNat_lt.mp h1
        have ex : X.2.2 (Int.negSucc 1) j = stv 1 j := hD.2.2.1.2.1 j hj
        rw [ex] at k
        have rr : r32 (stv 1 j) := by
          have : ∀ j, j < 7 → (decide (-2147483648 ≤ stv 1 j ∧ stv 1 j ≤ 2147483647)) = true := by decide
          have z := of_decide_eq_true (this j hj); unfold r32; exact z
        have k := k g p l e s m args below meth c0 Fz H locs ls hF hK hS hB hR hD hs hl (List.forall_mem_cons.mpr ⟨rr, hst2.2⟩) hlo hc1 hc2
        rw [hfp] at k
        exact va_ti hF.1 hF.2.1 hS.1.2 hs (i32_in ri h0 (by omega)) (by rw [hcl]; rfl) hd2 k
      by_cases n2 : n = 2
      · subst n2
        have hj : j < 28 := by
          unfold aln at h1
          rw [if_neg (by omega)] at h1
          exact Int.ofNat_lt.mp h1
        have ex : X.2.2 (Int.negSucc 2) j = stv 2 j := hD.2.2.1.2.2.1 j hj
        rw [ex] at k
        have rr : r32 (stv 2 j) := by
          have : ∀ j, j < 28 → (decide (-2147483648 ≤ stv 2 j ∧ stv 2 j ≤ 2147483647)) = true := by decide
          have z := of_decide_eq_true (this j hj); unfold r32; exact z
        have k := k g p l e s m args below meth c0 Fz H locs ls hF hK hS hB hR hD hs hl (List.forall_mem_cons.mpr ⟨rr, hst2.2⟩) hlo hc1 hc2
        rw [hfp] at k
        exact va_ti hF.1 hF.2.1 hS.2.1.2 hs (i32_in ri h0 (by omega)) (by rw [hcl]; rfl) hd2 k
      by_cases n3 : n = 3
      · subst n3
        have hj : j < gL g := by
          unfold aln at h1
          rw [if_pos (by omega), hD.2.2.1.2.2.2.2.1] at h1
          omega
        have ex : X.2.2 (Int.negSucc 3) j = (gX g j).toInt := hD.2.2.1.2.2.2.1 j hj
        rw [ex] at k
        have k := k g p l e s m args below meth c0 Fz H locs ls hF hK hS hB hR hD hs hl (List.forall_mem_cons.mpr ⟨toInt_r _, hst2.2⟩) hlo hc1 hc2
        rw [hfp] at k
        refine va_sld hF.1 hF.2.1 hS.2.2.1 (by have := hS.2.2.2; omega) (by have := hS.2.2.2; show ¬ _ ≤ _; omega) hs (i32_in ri h0 (by omega)) hd2 ?_
        rw [hcl]
        simp only [List.map_cons, emb_0, emI] at k
        exact k
      · exfalso
        unfold aln at h1
        rw [if_neg (by omega)] at h1
        simp [sN, n1, n2] at h1
        omega
end
section
variable {M : MI} {d mc ms pos pc a b c cells slots : Nat} {v : Int} {tl : List Nat} {stk : List AV} {loc : Lo} {X : HS} {K : Int → HS → Prop}
theorem aw_alen {r : Int} (hM : chkM M = true) (hi : (mT M)[pos]? = some (27, pc, a, b, c, v, tl)) (hr : (100 ≤ sK r ∧ sK r < 900 ∧ r < X.2.1 ∧ ¬ a = 903) ∨ (r = -4 ∧ a = 903)) (k : AW M d mc ms (pos + 1) ((0, aln X a r) :: stk) loc X cells slots K) : AW M d mc ms pos ((2, r) :: stk) loc X cells slots K := by
  intro g p l e s m args below meth c0 Fz H locs ls hF hK hS hB hR hD hs hl hst hlo hc1 hc2
  have hdec := chk_dec hM hi
  have hfal := chk_fall hM hi
  have hpo := chk_pool hM hi
  rw [pcOf_at hi]
  have hst2 := List.forall_mem_cons.mp hst
  rcases hr with ⟨h100, h900, hn, ha⟩ | ⟨rfl, rfl⟩
  · obtain ⟨q, rfl, hq⟩ := ref_of (a := sK r) rfl h900
    have hqn : q < X.2.1 := by omega
    have hNC := shp_lt hq h900
    have hln : aln X a q = ((shp q).2 : Int) := by unfold aln; rw [if_neg ha]; rfl
    rw [hln] at k
    have hbig : (shp q).2 ≤ 1000 := by
      have h : (List.range NC).all (fun k => decide ((shp k).2 ≤ 1000)) = true := by decide +kernel
      exact of_decide_eq_true (List.all_eq_true.mp h q (List.mem_range.mpr hNC))
    have k := k g p l e s m args below meth c0 Fz H locs ls hF hK hS hB hR hD hs hl (List.forall_mem_cons.mpr ⟨(show r32 _ by unfold r32; omega), hst2.2⟩) hlo hc1 hc2
    rw [fall1 hfal (by simp)] at k
    have hws := wsL_get (g := g) hqn
    rw [← hq] at h100
    obtain ⟨t0, t1, t2, t3, t4, t5, t6⟩ := ty_at g
    have hv : Int32.ofNat (shp q).2 = Int32.ofInt ((shp q).2 : Int) := (Int32.ofInt_eq_ofNat).symm
    by_cases h0 : (shp q).1 = 100
    · rw [cellE_i h0] at hws
      exact va_alen (D := gD g) (cl := cls) (tys := tysL g) (ws := wsL g X) hF.1 hF.2.1 hK.1 hD.2.1 q 0 hws t0 hv hdec k
    by_cases h1 : (shp q).1 = 101
    · rw [cellE_l h1] at hws
      exact va_alen (D := gD g) (cl := cls) (tys := tysL g) (ws := wsL g X) hF.1 hF.2.1 hK.1 hD.2.1 q 1 hws t1 hv hdec k
    by_cases h2 : (shp q).1 = 102
    · rw [cellE_z h2] at hws
      exact va_alen (D := gD g) (cl := cls) (tys := tysL g) (ws := wsL g X) hF.1 hF.2.1 hK.1 hD.2.1 q 2 hws t2 hv hdec k
    · have h7 := shp_q q hNC (by omega)
      rcases (by omega : (shp q).1 = 103 ∨ (shp q).1 = 104 ∨ (shp q).1 = 105 ∨ (shp q).1 = 106) with z | z | z | z
      all_goals rw [cellE_q z (by omega)] at hws
      · exact va_alen (D := gD g) (cl := cls) (tys := tysL g) (ws := wsL g X) hF.1 hF.2.1 hK.1 hD.2.1 q 3 hws t3 hv hdec k
      · exact va_alen (D := gD g) (cl := cls) (tys := tysL g) (ws := wsL g X) hF.1 hF.2.1 hK.1 hD.2.1 q 4 hws t4 hv hdec k
      · exact va_alen (D := gD g) (cl := cls) (tys := tysL g) (ws := wsL g X) hF.1 hF.2.1 hK.1 hD.2.1 q 5 hws t5 hv hdec k
      · exact va_alen (D := gD g) (cl := cls) (tys := tysL g) (ws := wsL g X) hF.1 hF.2.1 hK.1 hD.2.1 q 6 hws t6 hv hdec k
  · have ea : aln X 903 (-4) = (gL g : Int) := hD.2.2.1.2.2.2.2.1
    have h9 : gS g 3 < gB g := hS.2.2.2
    have hle : gL g ≤ 3072 := hD.2.2.1.2.2.2.2.2
    rw [ea] at k
    have k := k g p l e s m args below meth c0 Fz H locs ls hF hK hS hB hR hD hs hl (List.forall_mem_cons.mpr ⟨(show r32 _ by unfold r32; omega), hst2.2⟩) hlo hc1 hc2
    rw [fall1 hfal (by simp)] at k
    refine va_slen hF.1 hF.2.1 hS.2.2.1 (show gS g 3 < _ by omega) (show ¬ gB g ≤ gS g 3 by omega) hs hdec ?_
    have hv : Int32.ofNat (gL g) = Int32.ofInt ((gL g) : Int) := (Int32.ofInt_eq_ofNat).symm
    simp only [List.map_cons, emb_0, ← hv] at k
    exact k
theorem aw_gets (hM : chkM M = true) (hi : (mT M)[pos]? = some (24, pc, a, b, c, v, tl)) (k : AW M d mc ms (pos + 1) ((2, -1 - (a : Int)) :: stk) loc X cells slots K) : AW M d mc ms pos stk loc X cells slots K := by
  intro g p l e s m args below meth c0 Fz H locs ls hF hK hS hB hR hD hs hl hst hlo hc1 hc2
  have hdec := chk_dec hM hi
  have hfal := chk_fall hM hi
  have hpo := chk_pool hM hi
  rw [pcOf_at hi]
  simp [poolO] at hpo
  have k := k g p l e s m args below meth c0 Fz H locs ls hF hK hS hB hR hD hs hl (List.forall_mem_cons.mpr ⟨trivial, hst⟩) hlo hc1 hc2
  rw [fall1 hfal (by simp)] at k
  by_cases hb : b = 0
  · simp [hb] at hpo
    have hlk := GS_ok _ (List.mem_of_getElem? hpo)
    have ha := GS_two _ (List.mem_of_getElem? hpo)
    dsimp only at ha
    rcases ha with rfl | rfl
    · exact va_gets hF.1 hF.2.1 hS.1.1 hs hF.2.2.2.1 (hF.2.2.2.2.1 _ hlk) (fun _ h => h) hdec k
    · exact va_gets hF.1 hF.2.1 hS.2.1.1 hs hF.2.2.2.1 (hF.2.2.2.2.1 _ hlk) (fun _ h => h) hdec k
  · simp [hb] at hpo
    obtain ⟨e1, rfl, rfl⟩ := hpo
    have hown := hF.2.2.2.1
    have e2 : mO M = "TakenInTurns$Acts" := by
      have : mO M = ownNm (mOi M) := rfl
      rw [this, e1]; rfl
    rw [e2] at hown
    exact va_getsN hF.1 hF.2.1 hS.1.1 hs hown (va_Nw.use rfl hK.2.2) (fun _ h => h) hdec k
/-- the memory after an element is written -/
theorem cellE_ist {g : Gx} {π : Int → Int → Int} {σ : Mem} {q j : Nat} {w : Int} (h : (shp q).1 = 100) : cellE g π (st σ q j w) q = .inl (gA g 0, (shp q).2, .inl (fun i => if i = j then Int32.ofInt w else Int32.ofInt (σ q i))) := by
  rw [cellE_i h]
  congr 3
  congr 1
  funext i
  rw [st_at]
  by_cases e : i = j
  · subst e; simp
  · rw [if_neg (by omega), if_neg e]
theorem cellE_lst {g : Gx} {π : Int → Int → Int} {σ : Mem} {q j : Nat} {w : Int} (h : (shp q).1 = 101) : cellE g π (st σ q j w) q = .inl (gA g 1, (shp q).2, .inr (.inl (vf_upd (fun i => Int64.ofInt (σ q i)) j (Int64.ofInt w)))) := by
  rw [cellE_l h]
  congr 5
  funext i
  unfold vf_upd
  rw [st_at]
  by_cases e : i = j
  · subst e; simp
  · rw [if_neg (by omega), if_neg e]
theorem aw_iast {r i w : Int} (hM : chkM M = true) (hi : (mT M)[pos]? = some (26, pc, 100, b, c, v, tl)) (hr : sK r = 100) (hn : r < X.2.1) (h0 : 0 ≤ i) (h1 : i < sN r) (k : AW M d mc ms (pos + 1) stk loc (X.1, X.2.1, st X.2.2 r i w) cells slots K) : AW M d mc ms pos ((0, w) :: (0, i) :: (2, r) :: stk) loc X cells slots K := by
  intro g p l e s m args below meth c0 Fz H locs ls hF hK hS hB hR hD hs hl hst hlo hc1 hc2
  have hdec := chk_dec hM hi
  have hfal := chk_fall hM hi
  have hpo := chk_pool hM hi
  rw [pcOf_at hi]
  have hst1 := List.forall_mem_cons.mp hst
  have hst2 := List.forall_mem_cons.mp hst1.2
  have hst3 := List.forall_mem_cons.mp hst2.2
  have ri : r32 i := hst2.1
  obtain ⟨j, rfl⟩ : ∃ j : Nat, i = (j : Int) := ⟨i.toNat, by omega⟩
  have hcl : (Int32.ofInt (j : Int)).toNatClampNeg = j := i32_clamp ri
  obtain ⟨q, rfl, hq⟩ := ref_of hr (by omega)
  have hqn : q < X.2.1 := by omega
  have hNC := shp_lt hq (by omega)
  have hin : vp_in (Int32.ofInt (j : Int)) (shp q).2 := i32_in ri h0 h1
  have hws := wsL_get (g := g) hqn
  rw [cellE_i hq] at hws
  refine my_iast (D := gD g) (cl := cls) (tys := tysL g) (ws := wsL g X) (A := AA g) hF.1 hF.2.1 hK.1 hD.2.1 (wsL_D g X) hs q 0 hws (ty_at g).1 hin hdec (fun H1 locs1 z hP1 hS1 => ?_)
  rw [hcl] at hP1
  have hPW : PW g (st X.2.2 q j w) := PW_st hD.2.2.1 (fun j2 _ => by
    have e : kdAt q j2 = 0 := by unfold kdAt; rw [hq]; rfl
    rw [e]; exact hst1.1)
  have k := k g p l e s m args below meth c0 Fz H1 locs1 ls hF hK hS hB hR ⟨⟨by rw [z]; exact hD.1.1, by rw [z]; exact hD.1.2⟩, va_Pset (X' := (X.1, X.2.1, st X.2.2 q j w)) hP1 rfl (cellE_ist hq) (fun j2 hj2 => cellE_st hj2), hPW, hD.2.2.2⟩ hS1 hl hst3.2 hlo hc1 hc2
  rw [fall1 hfal (by simp)] at k
  exact k
end
section
variable {M : MI} {d mc ms pos pc a b c cells slots : Nat} {v : Int} {tl : List Nat} {stk : List AV} {loc : Lo} {X : HS} {K : Int → HS → Prop}
theorem aw_last {r i w : Int} (hM : chkM M = true) (hi : (mT M)[pos]? = some (26, pc, 101, b, c, v, tl)) (hr : sK r = 101) (hn : X.2.1 = NC) (h0 : 0 ≤ i) (h1 : i < sN r) (k : AW M d mc ms (pos + 1) stk loc (X.1, X.2.1, st X.2.2 r i w) cells slots K) : AW M d mc ms pos ((1, w) :: (0, i) :: (2, r) :: stk) loc X cells slots K := by
  intro g p l e s m args below meth c0 Fz H locs ls hF hK hS hB hR hD hs hl hst hlo hc1 hc2
  have hdec := chk_dec hM hi
  have hfal := chk_fall hM hi
  have hpo := chk_pool hM hi
  rw [pcOf_at hi]
  have hst1 := List.forall_mem_cons.mp hst
  have hst2 := List.forall_mem_cons.mp hst1.2
  have hst3 := List.forall_mem_cons.mp hst2.2
  have ri : r32 i := hst2.1
  obtain ⟨j, rfl⟩ : ∃ j : Nat, i = (j : Int) := ⟨i.toNat, by omega⟩
  have hcl : (Int32.ofInt (j : Int)).toNatClampNeg = j := i32_clamp ri
  obtain ⟨q, rfl, hq⟩ := ref_of hr (by omega)
  have hNC := shp_lt hq (by omega)
  have hin : vp_in (Int32.ofInt (j : Int)) (shp q).2 := i32_in ri h0 h1
  have hws := wsL_get (g := g) (X := X) (k := q) (by omega)
  rw [cellE_l hq] at hws
  refine va_last (D := gD g) (cl := cls) (tys := tysL g) (ws := wsL g X) (A := AA g) hF.1 hF.2.1 hK.1 hD.2.1 (wsL_D g X) hs q 1 hws (ty_at g).2.1 hin hdec (fun H1 locs1 hP1 _ hS1 => ?_)
  rw [hcl] at hP1
  have hPW : PW g (st X.2.2 q j w) := PW_st hD.2.2.1 (fun j2 _ => by
    have e : kdAt q j2 = 1 := by unfold kdAt; rw [hq]; rfl
    rw [e]; exact hst1.1)
  have hP2 := va_Pset (X' := (X.1, X.2.1, st X.2.2 q j w)) hP1 rfl (cellE_lst hq) (fun j2 hj2 => cellE_st hj2)
  have hsz : gB g + X.2.1 ≤ H1.size := by
    have h1 := (hP2 (NC - 1) _ (wsL_get (by show _ < X.2.1; rw [hn]; decide))).lt
    dsimp only at h1
    rw [hn]
    have : 1 ≤ NC := by decide
    omega
  have k := k g p l e s m args below meth c0 Fz H1 locs1 ls hF hK hS hB hR ⟨⟨hsz, fun z => by have z2 : X.2.1 < NC := z; omega⟩, hP2, hPW, hD.2.2.2⟩ hS1 hl hst3.2 hlo hc1 hc2
  rw [fall1 hfal (by simp)] at k
  exact k
theorem aw_zast {r i w : Int} (hM : chkM M = true) (hi : (mT M)[pos]? = some (26, pc, 102, b, c, v, tl)) (hr : sK r = 102) (hn : X.2.1 = NC) (h0 : 0 ≤ i) (h1 : i < sN r) (hw : w = 0 ∨ w = 1) (k : AW M d mc ms (pos + 1) stk loc (X.1, X.2.1, st X.2.2 r i w) cells slots K) : AW M d mc ms pos ((0, w) :: (0, i) :: (2, r) :: stk) loc X cells slots K := by
  intro g p l e s m args below meth c0 Fz H locs ls hF hK hS hB hR hD hs hl hst hlo hc1 hc2
  have hdec := chk_dec hM hi
  have hfal := chk_fall hM hi
  have hpo := chk_pool hM hi
  rw [pcOf_at hi]
  have hst1 := List.forall_mem_cons.mp hst
  have hst2 := List.forall_mem_cons.mp hst1.2
  have hst3 := List.forall_mem_cons.mp hst2.2
  have ri : r32 i := hst2.1
  obtain ⟨j, rfl⟩ : ∃ j : Nat, i = (j : Int) := ⟨i.toNat, by omega⟩
  have hcl : (Int32.ofInt (j : Int)).toNatClampNeg = j := i32_clamp ri
  obtain ⟨q, rfl, hq⟩ := ref_of hr (by omega)
  have hNC := shp_lt hq (by omega)
  have hin : vp_in (Int32.ofInt (j : Int)) (shp q).2 := i32_in ri h0 h1
  have hws := wsL_get (g := g) (X := X) (k := q) (by omega)
  rw [cellE_z hq] at hws
  refine va_zast (D := gD g) (cl := cls) (tys := tysL g) (ws := wsL g X) (A := AA g) hF.1 hF.2.1 hK.1 hD.2.1 (wsL_D g X) hs q 2 hws (ty_at g).2.2.1 hin hdec (fun H1 locs1 hP1 _ hS1 => ?_)
  rw [hcl] at hP1
  have hPW : PW g (st X.2.2 q j w) := PW_st hD.2.2.1 (fun j2 _ => by
    have e : kdAt q j2 = 4 := by unfold kdAt; rw [hq]; rfl
    rw [e]; exact hw)
  have hcell : cellE g X.1 (st X.2.2 q j w) q = .inl (gA g 2, (shp q).2, .inl (upd (fun i => Int32.ofInt (X.2.2 q i)) j (vp_nar .boolean (Int32.ofInt w)))) := by
    have hnar : vp_nar .boolean (Int32.ofInt w) = Int32.ofInt w := by rcases hw with rfl | rfl <;> rfl
    rw [cellE_z hq, hnar]
    congr 3
    congr 1
    funext i
    unfold upd
    rw [st_at]
    by_cases e2 : i = j
    · subst e2; simp
    · rw [if_neg (by omega), if_neg e2]
  have hP2 := va_Pset (X' := (X.1, X.2.1, st X.2.2 q j w)) hP1 rfl hcell (fun j2 hj2 => cellE_st hj2)
  have hsz : gB g + X.2.1 ≤ H1.size := by
    have h1 := (hP2 (NC - 1) _ (wsL_get (by show _ < X.2.1; rw [hn]; decide))).lt
    dsimp only at h1
    rw [hn]
    have : 1 ≤ NC := by decide
    omega
  have k := k g p l e s m args below meth c0 Fz H1 locs1 ls hF hK hS hB hR ⟨⟨hsz, fun z => by have z2 : X.2.1 < NC := z; omega⟩, hP2, hPW, hD.2.2.2⟩ hS1 hl hst3.2 hlo hc1 hc2
  rw [fall1 hfal (by simp)] at k
  exact k
-- ===== calls
theorem KD.warm {g : Gx} {s U : State} (hW : s.WarmedH U.vm) (h : KD g s) : KD g U := ⟨va_K.moved hW.alike h.1, fun q hq => va_Nw.warmM hW (h.2.1 q hq), va_Nw.warmF hW h.2.2⟩
theorem KD.same {g : Gx} {s U : State} (hv : s.vm = U.vm) (h : KD g s) : KD g U := ⟨va_K.moved (by rw [hv]; exact Vm.Alike.refl _) h.1, fun q hq => va_Nw.same rfl hv (h.2.1 q hq), va_Nw.same rfl hv h.2.2⟩
theorem SP.alike {g : Gx} {s U : State} {H : Heap} (hv : s.vm.Alike U.vm) (h : SP g s H) : SP g U H := ⟨⟨h.1.1.moved hv, h.1.2.moved hv⟩, ⟨h.2.1.1.moved hv, h.2.1.2.moved hv⟩, h.2.2.1.moved hv, h.2.2.2⟩
theorem SP.kept {g : Gx} {s : State} {H H1 : Heap} (h : SP g s H) (hB : gB g ≤ H.size) (hq : ∀ a : Nat, a < H.size → ¬ AA g a → H1[a]? = H[a]?) : SP g s H1 :=
  ⟨⟨h.1.1.kept hq, h.1.2.kept hq⟩, ⟨h.2.1.1.kept hq, h.2.1.2.kept hq⟩, h.2.2.1.kept (hq _ (by have := h.2.2.2; omega) (by have := h.2.2.2; show ¬ gB g ≤ gS g 3; omega)), h.2.2.2⟩
theorem push_emb (g : Gx) (M : MI) (v : Int) (stk : List AV) : (pushR M v stk).map (emb g) = (emR g M v).toList ++ stk.map (emb g) := by
  unfold pushR emR
  split <;> rfl
theorem push_rg {M : MI} {v : Int} {stk : List AV} (h : rgR M v) (hst : ∀ w ∈ stk, rgv w) : ∀ w ∈ pushR M v stk, rgv w := by
  unfold rgR at h
  unfold pushR
  split at h
  · exact hst
  · exact List.forall_mem_cons.mpr ⟨h, hst⟩
  · exact List.forall_mem_cons.mpr ⟨(show r32 v by unfold r32; omega), hst⟩
  · exact List.forall_mem_cons.mpr ⟨h, hst⟩
  · exact List.forall_mem_cons.mpr ⟨trivial, hst⟩
def szS (stk : List AV) : Nat := match stk with
  | [] => 0
  | v :: r => (if v.1 = 1 then 2 else 1) + szS r
theorem szS_cat (g : Gx) (stk : List AV) : ((stk.map (emb g)).map fun v => v.category).sum = szS stk := by
  induction stk with
  | nil => rfl
  | cons w r ih =>
    rw [List.map_cons, List.map_cons, List.sum_cons, ih]
    show _ = (if w.1 = 1 then 2 else 1) + szS r
    congr 1
    by_cases h : w.1 = 1
    · rw [if_pos h]
      have h1 := cat_emb g w
      rw [h] at h1
      simpa using h1
    · rw [if_neg h]; exact cat1 h
section
variable {p : Program} {l : Launch} {e : Env} {R : Room} {s : State} {m : MethodId} {args : Array Value} {below : List Frame} {meth : Method} {c0 : Code} {H : Heap} {locs : List Loc} {cells slots mc ms : Nat} {Q : State → Prop} {pc : Nat} {ls : Array Slot} {rest st0 : List Value} {g : Gx} {M : MI} {K : Int → HS → Prop}
theorem call_go (hr : va_Run p l e R s m args below meth c0 H locs cells slots mc ms (F0 m pc ls st0) rest (fun st oc t => (∃ (v : Int) (X' : HS), oc = .returned (emR g M v) ∧ rgR M v ∧ K v X' ∧ WD g X' t.heap) ∧ va_F (AA g) st t) (AA g)) (hS : va_S (AA g) s.heap H locs)
    (kk : ∀ (v : Int) (X' : HS) (H1 : Heap) (locs1 : List Loc), rgR M v → K v X' → WD g X' H1 → va_S (AA g) s.heap H1 locs1 → W p l e R s m args below meth c0 H1 locs1 (cells + mc) (slots + ms) Q (F0 m (pc + 3) ls ((emR g M v).toList ++ rest))) : W p l e R s m args below meth c0 H locs cells slots Q (F0 m pc ls st0) := by
  intro T hT Xs
  obtain ⟨v, st₀, t, T', L, h0, X', hL, e1, e2, ⟨⟨r, X1, hv, hrg, hk, hd⟩, hz, hkp⟩, stp⟩ := hr T hT Xs
  cases hv
  rw [h0] at hz hkp
  obtain ⟨t2, a1, b1⟩ := kk r X1 T'.heap (locs ++ L) hrg hk (by rw [e1]; exact hd)
    ⟨Nat.le_trans hS.1 (by rw [e1]; exact hz), fun q h1 h2 => by rw [e1, hkp q (Nat.lt_of_lt_of_le h1 hS.1) h2]; exact hS.2.1 q h1 h2, fun q hq => by
      rcases List.mem_append.mp hq with h | h
      · exact hS.2.2 q h
      · exact hL q h⟩ T' rfl X'
  exact ⟨t2, stp t2 a1, b1⟩
end
/-- the pieces that a call wants -/
theorem ok_facts {M : MI} (h : okM M) : Jvm.Cond.code (mN M) (mC M) (mL M) (mR M) ∈ W0 ∧ mL M ≤ 45 ∧ ((mN M).cls ≠ "java/lang/invoke/MethodHandle" ∧ (mN M).cls ≠ "java/lang/invoke/VarHandle") ∧ plainName (mN M).cls = true ∧ Jvm.Cond.initialized (mN M).cls ∈ W0 := ⟨h.1, h.2.1, h.2.2.1, h.2.2.2.1, h.2.2.2.2.1⟩
theorem W0_good : GoodIn W0 W0 := fun w hw => ⟨hw, good_of_word (List.mem_filter.mp hw).2⟩
theorem ws_good {M : MI} (h : okM M) : GoodIn W0 (wsM M) := by
  intro w hw
  rcases List.mem_cons.mp hw with rfl | hw
  · exact W0_good _ (ok_facts h).1
  · exact W0_good _ hw
theorem callB_ok {M M' : MI} {d mc ms mc' ms' n idx : Nat} {own : String} {s : State} {args : Array Value} (h : okM M') (hts : ∀ w ∈ W0, w.before args s = true) (hl : (Jvm.Cond.methodLink own idx (mN M')).before args s = true) (hn : mA M' = n) :
    CallB (rmd (d + 1) mc ms) s args own idx (mN M') (mC M') (mL M') (mR M') (wsM M') (rmd d mc' ms') mc' ms' n := by
  have hf := ok_facts h
  exact callB_of n hts (ws_good h) rfl rfl rfl (hts _ hf.2.2.2.2) hl ⟨hf.2.2.1.1, hf.2.2.1.2, by rw [← hn]; exact h.2.2.2.2.2.2.1⟩ ⟨Nat.le_refl _, by have := hf.2.1; show 8 + (mL M' + 11) + 64 * d ≤ 64 * (d + 1); omega⟩
theorem callN_ok {M M' : MI} {d mc ms mc' ms' n idx : Nat} {own host : String} {s : State} {args : Array Value} (h : okM M') (hts : ∀ w ∈ W0, w.before args s = true) (hl : va_Nw (.methodLinkNest own idx (mN M') host) s) (hn : mA M' = n) :
    va_CN (rmd (d + 1) mc ms) s args own idx (mN M') host (mC M') (mL M') (mR M') (wsM M') (rmd d mc' ms') mc' ms' n := by
  have hf := ok_facts h
  exact va_cnB n hts (ws_good h) rfl rfl rfl hl (hts _ hf.2.2.2.2) ⟨hf.2.2.1.1, hf.2.2.1.2, by rw [← hn]; exact h.2.2.2.2.2.2.1⟩ ⟨Nat.le_refl _, by have := hf.2.1; show 8 + (mL M' + 11) + 64 * d ≤ 64 * (d + 1); omega⟩
def PcA (g : Gx) (as : List AV) (X : HS) : Array Value → State → Prop := fun v U => v = (as.map (emb g)).toArray ∧ KD g U ∧ SP g U U.heap ∧ gB g ≤ U.heap.size ∧ WD g X U.heap
theorem PcA_blind (g : Gx) (as : List AV) (X : HS) : FrameBlind (PcA g as X) := by
  intro a U gf mk h
  exact ⟨h.1, KD.same rfl h.2.1, SP.alike (Vm.Alike.refl U.vm) h.2.2.1, h.2.2.2.1, h.2.2.2.2⟩
theorem PcA_at {g : Gx} {as : List AV} {X : HS} {s : State} {H : Heap} {locs : List Loc} (hK : KD g s) (hS : SP g s s.heap) (hB : gB g ≤ s.heap.size) (hD : WD g X H) (hs : va_S (AA g) s.heap H locs) : ∀ U : State, U.heap = H → s.WarmedH U.vm → PcA g as X (as.map (emb g)).toArray U := by
  intro U hU hW
  subst hU
  exact ⟨rfl, KD.warm hW hK, SP.alike hW.alike (SP.kept hS hB hs.2.1), Nat.le_trans hB hs.1, hD⟩
end
section
variable {M : MI} {d mc ms pos pc a b c cells slots : Nat} {v : Int} {tl : List Nat} {stk : List AV} {loc : Lo} {X : HS} {K : Int → HS → Prop}
theorem map_app (g : Gx) (as rest : List AV) : (as.reverse ++ rest).map (emb g) = (as.map (emb g)).reverse ++ rest.map (emb g) := by rw [List.map_append, List.map_reverse]
theorem aw_callv {r : Int} {as : List AV} {mc' ms' : Nat} {K' : Int → HS → Prop} (hM : chkM M = true) (hi : (mT M)[pos]? = some (31, pc, a, b, c, v, tl)) (hok : okM (callee a)) (hb13 : b < 13) (hr : sK r = b) (hn : r < X.2.1) (hlen : as.length = v.toNat) (hsz : szS stk ≤ 8) (hc : cells + mc' ≤ mc) (hs' : slots + ms' ≤ ms)
    (hA : AM (callee a) d mc' ms' ((2, r) :: as) X K') (k : ∀ (w : Int) (X' : HS), rgR (callee a) w → K' w X' → AW M (d + 1) mc ms (pos + 1) (pushR (callee a) w stk) loc X' (cells + mc') (slots + ms') K) : AW M (d + 1) mc ms pos (as.reverse ++ (2, r) :: stk) loc X cells slots K := by
  intro g p l e s m args below meth c0 Fz H locs ls hF hK hS hB hR hD hs hl hst hlo hc1 hc2
  have hdec := chk_dec hM hi
  have hfal := chk_fall hM hi
  have hpo := chk_pool hM hi
  rw [pcOf_at hi]
  have hpo2 : ((LML[tl.getD 0 0]? = some (mOi M, c, a) ∧ LVM[tl.getD 1 0]? = some a) ∧ mOi (callee a) = b) ∧ mA (callee a) = v.toNat := by simpa [poolO] using hpo
  obtain ⟨⟨⟨l1, l2⟩, hcl⟩, hpar⟩ := hpo2
  have w1 := ML_ok _ (List.mem_of_getElem? l1)
  have w2 := VM_ok _ (List.mem_of_getElem? l2)
  have hcls : (mN (callee a)).cls = (clsOf b).1 := by
    rw [hok.2.2.2.2.2.2.2]
    show ownNm (mOi (callee a)) = _
    rw [hcl, own_cls b hb13]
  obtain ⟨q, rfl, hq⟩ := ref_of hr (by omega)
  have hqn : q < X.2.1 := by omega
  have hts := hF.2.2.2.2.1
  have hws := wsL_get (g := g) hqn
  rw [cellE_obj hq (by omega)] at hws
  have hst9 : (∀ w ∈ as, rgv w) ∧ ∀ w ∈ stk, rgv w := ⟨fun w hw => hst w (List.mem_append_left _ (List.mem_reverse.mpr hw)), fun w hw => hst w (List.mem_append_right _ (List.mem_cons_of_mem _ hw))⟩
  have hMet := hA l g (List.forall_mem_cons.mpr ⟨trivial, hst9.1⟩)
  have hcb := callB_ok (M := M) (d := d) (mc := mc) (ms := ms) (mc' := mc') (ms' := ms') hok hts (hts _ w1) hpar
  have hrec := va_recv (q0 := q) hK.1 hD.2.1 (cls_at b hb13) hws
  rw [map_app]
  refine call_go (M := callee a) (mc := mc') (ms := ms') (K := K') (rest := stk.map (emb g)) (va_runV (As := as.map (emb g)) (b := gB g + q) (C := (clsOf b).1) (Ts := W0) (n := v.toNat) ⟨hF.1, hF.2.1, hF.2.2.1, hF.2.2.2.1, hts⟩ hMet ⟨hcb, hts _ w2.1, by rw [← hcls]; exact hts _ w2.2⟩ ⟨PcA_blind g _ X, hrec, PcA_at (as := (2, (q : Int)) :: as) hK hS hB hD hs⟩ rfl (by simpa using hlen) hl.1 rfl (lv_room (by rw [szS_cat]; exact hsz)) hdec ⟨hc, hs'⟩) hs (fun w X1 H1 locs1 hw hk1 hD1 hS1 => ?_)
  have k := k w X1 hw hk1 g p l e s m args below meth c0 Fz H1 locs1 ls hF hK hS hB hR hD1 hS1 hl (push_rg hw hst9.2) hlo hc hs'
  rw [fall1 hfal (by simp), push_emb] at k
  exact k
theorem nest_at {g : Gx} {s : State} {M M' : MI} {c : Nat} (hK : KD g s) (h : ∃ host, (mO M, c, mN M', host) ∈ nestM) : ∃ host, va_Nw (.methodLinkNest (mO M) c (mN M') host) s := by
  obtain ⟨host, hq⟩ := h
  exact ⟨host, hK.2.1 _ hq⟩
theorem aw_calls {as : List AV} {mc' ms' : Nat} {K' : Int → HS → Prop} (hM : chkM M = true) (hi : (mT M)[pos]? = some (32, pc, a, b, c, v, tl)) (hok : okM (callee a)) (hlen : as.length = v.toNat) (hsz : szS stk ≤ 8) (hc : cells + mc' ≤ mc) (hs' : slots + ms' ≤ ms)
    (hA : AM (callee a) d mc' ms' as X K') (k : ∀ (w : Int) (X' : HS), rgR (callee a) w → K' w X' → AW M (d + 1) mc ms (pos + 1) (pushR (callee a) w stk) loc X' (cells + mc') (slots + ms') K) : AW M (d + 1) mc ms pos (as.reverse ++ stk) loc X cells slots K := by
  intro g p l e s m args below meth c0 Fz H locs ls hF hK hS hB hR hD hs hl hst hlo hc1 hc2
  have hdec := chk_dec hM hi
  have hfal := chk_fall hM hi
  have hpo := chk_pool hM hi
  rw [pcOf_at hi]
  have hpo2 : (LSM[tl.getD 1 0]? = some a ∧ (if b = 0 then decide (LML[tl.getD 0 0]? = some (mOi M, c, a)) else decide (LNM[tl.getD 0 0]? = some (mOi M, c, a))) = true) ∧ mA (callee a) = v.toNat := by simpa [poolO] using hpo
  obtain ⟨⟨l2, l1⟩, hpar⟩ := hpo2
  have hts := hF.2.2.2.2.1
  have hst9 : (∀ w ∈ as, rgv w) ∧ ∀ w ∈ stk, rgv w := ⟨fun w hw => hst w (List.mem_append_left _ (List.mem_reverse.mpr hw)), fun w hw => hst w (List.mem_append_right _ hw)⟩
  have hMet := hA l g hst9.1
  rw [map_app]
  by_cases hb : b = 0
  · rw [if_pos hb] at l1
    have l1 := ML_ok _ (List.mem_of_getElem? (of_decide_eq_true l1))
    have hcb := callB_ok (M := M) (d := d) (mc := mc) (ms := ms) (mc' := mc') (ms' := ms') hok hts (hts _ l1) hpar
    refine call_go (M := callee a) (mc := mc') (ms := ms') (K := K') (rest := stk.map (emb g)) (va_runS (As := as.map (emb g)) (Ts := W0) (n := v.toNat) ⟨hF.1, hF.2.1, hF.2.2.1, hF.2.2.2.1, hts⟩ hMet ⟨hcb, hts _ (SM_ok _ (List.mem_of_getElem? l2))⟩ ⟨PcA_blind g _ X, PcA_at hK hS hB hD hs⟩ rfl (by simpa using hlen) hl.1 rfl (lv_room (by rw [szS_cat]; exact hsz)) hdec ⟨hc, hs'⟩) hs (fun w X1 H1 locs1 hw hk1 hD1 hS1 => ?_)
    have k := k w X1 hw hk1 g p l e s m args below meth c0 Fz H1 locs1 ls hF hK hS hB hR hD1 hS1 hl (push_rg hw hst9.2) hlo hc hs'
    rw [fall1 hfal (by simp), push_emb] at k
    exact k
  · rw [if_neg hb] at l1
    obtain ⟨host, l1⟩ := nest_at hK (NM_ok _ (List.mem_of_getElem? (of_decide_eq_true l1)))
    have hcb := callN_ok (M := M) (d := d) (mc := mc) (ms := ms) (mc' := mc') (ms' := ms') hok hts l1 hpar
    refine call_go (M := callee a) (mc := mc') (ms := ms') (K := K') (rest := stk.map (emb g)) (va_runSN (As := as.map (emb g)) (Ts := W0) (n := v.toNat) ⟨hF.1, hF.2.1, hF.2.2.1, hF.2.2.2.1, hts⟩ hMet ⟨hcb, hts _ (SM_ok _ (List.mem_of_getElem? l2)), trivial⟩ ⟨PcA_blind g _ X, PcA_at hK hS hB hD hs⟩ rfl (by simpa using hlen) hl.1 rfl (lv_room (by rw [szS_cat]; exact hsz)) hdec ⟨hc, hs'⟩) hs (fun w X1 H1 locs1 hw hk1 hD1 hS1 => ?_)
    have k := k w X1 hw hk1 g p l e s m args below meth c0 Fz H1 locs1 ls hF hK hS hB hR hD1 hS1 hl (push_rg hw hst9.2) hlo hc hs'
    rw [fall1 hfal (by simp), push_emb] at k
    exact k
theorem aw_calli {r : Int} {as : List AV} {mc' ms' : Nat} {K' : Int → HS → Prop} (hM : chkM M = true) (hi : (mT M)[pos]? = some (33, pc, a, b, c, v, tl)) (hok : okM (callee a)) (hret : mR (callee a) = none) (hr : 0 ≤ r) (hlen : as.length = v.toNat) (hsz : szS stk ≤ 8) (hc : cells + mc' ≤ mc) (hs' : slots + ms' ≤ ms)
    (hA : AM (callee a) d mc' ms' ((2, r) :: as) X K') (k : ∀ (w : Int) (X' : HS), rgR (callee a) w → K' w X' → AW M (d + 1) mc ms (pos + 1) (pushR (callee a) w stk) loc X' (cells + mc') (slots + ms') K) : AW M (d + 1) mc ms pos (as.reverse ++ (2, r) :: stk) loc X cells slots K := by
  intro g p l e s m args below meth c0 Fz H locs ls hF hK hS hB hR hD hs hl hst hlo hc1 hc2
  have hdec := chk_dec hM hi
  have hfal := chk_fall hM hi
  have hpo := chk_pool hM hi
  rw [pcOf_at hi]
  have hpo2 : (LIM[tl.getD 1 0]? = some a ∧ (if b = 0 then decide (LML[tl.getD 0 0]? = some (mOi M, c, a)) else decide (LNM[tl.getD 0 0]? = some (mOi M, c, a))) = true) ∧ mA (callee a) = v.toNat := by simpa [poolO] using hpo
  obtain ⟨⟨l2, l1⟩, hpar⟩ := hpo2
  have hnm := (IM_ok _ (List.mem_of_getElem? l2)).2
  have hts := hF.2.2.2.2.1
  obtain ⟨q, rfl⟩ : ∃ q : Nat, r = (q : Int) := ⟨r.toNat, by omega⟩
  have hst9 : (∀ w ∈ as, rgv w) ∧ ∀ w ∈ stk, rgv w := ⟨fun w hw => hst w (List.mem_append_left _ (List.mem_reverse.mpr hw)), fun w hw => hst w (List.mem_append_right _ (List.mem_cons_of_mem _ hw))⟩
  have hMet := hA l g (List.forall_mem_cons.mpr ⟨trivial, hst9.1⟩)
  rw [map_app]
  by_cases hb : b = 0
  · rw [if_pos hb] at l1
    have l1 := ML_ok _ (List.mem_of_getElem? (of_decide_eq_true l1))
    have hcb := callB_ok (M := M) (d := d) (mc := mc) (ms := ms) (mc' := mc') (ms' := ms') hok hts (hts _ l1) hpar
    rw [hret] at hcb
    refine call_go (M := callee a) (mc := mc') (ms := ms') (K := K') (rest := stk.map (emb g)) (va_runI (As := as.map (emb g)) (b := gB g + q) (Ts := W0) (n := v.toNat) ⟨hF.1, hF.2.1, hF.2.2.1, hF.2.2.2.1, hts⟩ hMet ⟨hcb, hnm, hts _ (IM_ok _ (List.mem_of_getElem? l2)).1⟩ ⟨PcA_blind g _ X, PcA_at (as := (2, (q : Int)) :: as) hK hS hB hD hs⟩ rfl (by simpa using hlen) hl.1 rfl (lv_room (by rw [szS_cat]; exact hsz)) hdec ⟨hc, hs'⟩) hs (fun w X1 H1 locs1 hw hk1 hD1 hS1 => ?_)
    have k := k w X1 hw hk1 g p l e s m args below meth c0 Fz H1 locs1 ls hF hK hS hB hR hD1 hS1 hl (push_rg hw hst9.2) hlo hc hs'
    rw [fall1 hfal (by simp), push_emb] at k
    exact k
  · rw [if_neg hb] at l1
    obtain ⟨host, l1⟩ := nest_at hK (NM_ok _ (List.mem_of_getElem? (of_decide_eq_true l1)))
    have hcb := callN_ok (M := M) (d := d) (mc := mc) (ms := ms) (mc' := mc') (ms' := ms') hok hts l1 hpar
    rw [hret] at hcb
    refine call_go (M := callee a) (mc := mc') (ms := ms') (K := K') (rest := stk.map (emb g)) (va_runIN (As := as.map (emb g)) (b := gB g + q) (Ts := W0) (n := v.toNat) ⟨hF.1, hF.2.1, hF.2.2.1, hF.2.2.2.1, hts⟩ hMet ⟨hcb, hnm, hts _ (IM_ok _ (List.mem_of_getElem? l2)).1⟩ ⟨PcA_blind g _ X, PcA_at (as := (2, (q : Int)) :: as) hK hS hB hD hs⟩ rfl (by simpa using hlen) hl.1 rfl (lv_room (by rw [szS_cat]; exact hsz)) hdec ⟨hc, hs'⟩) hs (fun w X1 H1 locs1 hw hk1 hD1 hS1 => ?_)
    have k := k w X1 hw hk1 g p l e s m args below meth c0 Fz H1 locs1 ls hF hK hS hB hR hD1 hS1 hl (push_rg hw hst9.2) hlo hc hs'
    rw [fall1 hfal (by simp), push_emb] at k
    exact k
/-- what stands on the stack at a method's end -/
def topR (M : MI) (v : Int) : List AV := pushR M v []
theorem aw_ret {w : Int} (hM : chkM M = true) (hi : (mT M)[pos]? = some (34, pc, a, b, c, v, tl)) (hrg : rgR M w) (k : K w X) : AW M d mc ms pos (topR M w) loc X cells slots K := by
  intro g p l e s m args below meth c0 Fz H locs ls hF hK hS hB hR hD hs hl hst hlo hc1 hc2
  have hdec := chk_dec hM hi
  have hfal := chk_fall hM hi
  have hpo := chk_pool hM hi
  rw [pcOf_at hi]
  have e9 : (topR M w).map (emb g) = (emR g M w).toList := by
    unfold topR
    rw [push_emb]
    simp
  rw [e9]
  refine W.widen hc1 hc2 ?_
  exact hR H locs ls pc X w hdec hD hs hrg k
theorem topR_rg {w : Int} (h : mR M ≠ some .boolean) (hst : ∀ z ∈ topR M w, rgv z) : rgR M w := by
  unfold topR pushR at hst
  unfold rgR
  split
  · trivial
  · rename_i z; rw [z] at hst; exact hst _ List.mem_cons_self
  · rename_i z; exact absurd z h
  · rename_i z; rw [z] at hst; exact hst _ List.mem_cons_self
  · trivial
/-- a method's end, the answer's kind seen from the stack -/
theorem aw_retn {w : Int} (hM : chkM M = true) (hi : (mT M)[pos]? = some (34, pc, a, b, c, v, tl)) (hb : mR M ≠ some .boolean) (k : K w X) : AW M d mc ms pos (topR M w) loc X cells slots K := by
  intro g p l e s m args below meth c0 Fz H locs ls hF hK hS hB hR hD hs hl hst hlo hc1 hc2
  exact aw_ret hM hi (topR_rg hb hst) k g p l e s m args below meth c0 Fz H locs ls hF hK hS hB hR hD hs hl hst hlo hc1 hc2
def locA (i : Nat) (as : List AV) : Lo := match as with
  | [] => []
  | v :: r => (i, v) :: locA (i + (if v.1 = 1 then 2 else 1)) r
theorem locA_emb (g : Gx) (as : List AV) : ∀ i, lv_args i (as.map (emb g)) = embL g (locA i as) := by
  induction as with
  | nil => intro i; rfl
  | cons w r ih =>
    intro i
    have e : (emb g w).category = (if w.1 = 1 then 2 else 1) := by
      by_cases h : w.1 = 1
      · rw [if_pos h]
        have h1 := cat_emb g w
        rw [h] at h1
        simpa using h1
      · rw [if_neg h]; exact cat1 h
    show lv_args i (emb g w :: r.map (emb g)) = _
    simp only [lv_args, locA, embL, List.map_cons]
    rw [e, ih]
    by_cases h : w.1 = 1
    · simp only [if_pos h]; rfl
    · simp only [if_neg h]; rfl
theorem locA_rg {as : List AV} (h : ∀ w ∈ as, rgv w) : ∀ i, ∀ q ∈ locA i as, rgv q.2 := by
  induction as with
  | nil => intro i q hq; cases hq
  | cons w r ih =>
    intro i q hq
    rcases List.mem_cons.mp hq with rfl | hq
    · exact h _ List.mem_cons_self
    · exact ih (fun z hz => h z (List.mem_cons_of_mem _ hz)) _ q hq
theorem szA (g : Gx) (as : List AV) : (lg_sl (as.map (emb g))).length = szS as := by
  induction as with
  | nil => rfl
  | cons w r ih =>
    have e : (emb g w).category = (if w.1 = 1 then 2 else 1) := by
      by_cases h : w.1 = 1
      · rw [if_pos h]
        have h1 := cat_emb g w
        rw [h] at h1
        simpa using h1
      · rw [if_neg h]; exact cat1 h
    unfold lg_sl at ih ⊢
    rw [List.map_cons, List.flatMap_cons, List.length_append, ih, e]
    show _ = (if w.1 = 1 then 2 else 1) + szS r
    congr 1
    by_cases h : w.1 = 1
    · simp [h]
    · simp [h]
theorem ok_ret {M : MI} (h : okM M) : retOk (mR M) = true := h.2.2.2.2.2.1
/-- a method's contract, from its first row on -/
theorem am_aw {as : List AV} (hok : okM M) (hsz : szS as ≤ mL M) (h0 : pcOf M 0 = 0) (k : (∀ w ∈ as, rgv w) → AW M d mc ms 0 [] (locA 0 as) X 0 0 K) : AM M d mc ms as X K := by
  intro l g hrg
  have k := k hrg
  refine Met.ofW (cc := mC M) (maxL := mL M) (ret := mR M) (ok_facts hok).2.2.2.1 rfl ?_
  intro p e s m args below meth c0 s₁ B hml hv
  obtain ⟨rfl, hK, hS, hB, hD⟩ := hv
  have hts := atoms_spec (ws := wsM M) B.pre
  have hlocks := B.notSynchronized
  have hF : FX M p s m (as.map (emb g)).toArray meth c0 := ⟨B.exec, B.bytes, hml, by rw [← hok.2.2.2.2.2.2.2]; exact findClass_of_methodNamed B.named, fun w hw => hts w (List.mem_cons_of_mem _ hw), B.returns, hlocks, (name_of_methodNamed B.named B.method).1⟩
  have hl := lv_entry (as.map (emb g)) (n := mL M) (by rw [szA]; exact hsz)
  rw [lg_entry_eq]
  rw [locA_emb] at hl
  have k := k g p l e s m _ below meth c0 (MQ below (fun _ st oc t => (∃ (v : Int) (X' : HS), oc = .returned (emR g M v) ∧ rgR M v ∧ K v X' ∧ WD g X' t.heap) ∧ va_F (AA g) st t) (as.map (emb g)).toArray s mc ms (AA g)) s.heap [] _ hF hK hS hB ?_ hD va_S.rf hl (fun _ h => by cases h) (locA_rg hrg 0) (Nat.zero_le _) (Nat.zero_le _)
  · rw [h0] at k
    exact k
  · intro H locs ls pc X1 v hdec hD1 hS1 hrv hk
    have hq : ∀ t : State, t.heap = H → s.WarmedH t.vm → (∃ (v1 : Int) (X' : HS), Outcome.returned (emR g M v) = .returned (emR g M v1) ∧ rgR M v1 ∧ K v1 X' ∧ WD g X' t.heap) ∧ va_F (AA g) s t := fun t ht _ => ⟨⟨v, X1, rfl, hrv, hk, by rw [ht]; exact hD1⟩, hS1.F ht⟩
    have hret := hF.2.2.2.2.2.1
    unfold retI at hdec
    unfold emR at hq ⊢
    unfold rgR at hrv
    have hro := ok_ret hok
    revert hq hdec hrv hret hro
    cases hm : mR M with
    | none => intro hdec hrv hq hret _; exact W.vret hF.1 hF.2.1 hret hq hS1.2.2 hdec
    | some t =>
      cases t with
      | int => intro hdec hrv hq hret _; exact W.iret hF.1 hF.2.1 hret hq hS1.2.2 hdec
      | long => intro hdec hrv hq hret _; exact W.lret hF.1 hF.2.1 hret hq hS1.2.2 hdec
      | boolean =>
        intro hdec hrv hq hret _
        refine W.zret (v := Int32.ofInt v) hF.1 hF.2.1 hret ?_ hq hS1.2.2 hdec
        rcases hrv with rfl | rfl <;> rfl
      | object n =>
        intro hdec hrv hq hret _
        refine W.aret (v := va_rf (refO g v)) hF.1 hF.2.1 hret (Or.inl ⟨_, rfl⟩) ?_ hq hS1.2.2 hdec
        cases refO g v
        · exact Or.inl rfl
        · exact Or.inr ⟨_, rfl⟩
      | array n =>
        intro hdec hrv hq hret _
        refine W.aret (v := va_rf (refO g v)) hF.1 hF.2.1 hret (Or.inr ⟨_, rfl⟩) ?_ hq hS1.2.2 hdec
        cases refO g v
        · exact Or.inl rfl
        · exact Or.inr ⟨_, rfl⟩
      | _ => intro hdec hrv hq hret hro; cases hro
end
section
variable {M : MI} {d mc ms pos pc a b c cells slots : Nat} {v : Int} {tl : List Nat} {stk : List AV} {loc : Lo} {X : HS} {K : Int → HS → Prop}
/-- the memory after a part of a row came to another (or the same) one, as it was before -/
def cpy (σ : Mem) (r0 s0 r1 d0 n : Int) : Mem := fun b j => if b = r1 ∧ d0 ≤ j ∧ j < d0 + n then σ r0 (s0 + (j - d0)) else σ b j
theorem cpy_at (σ : Mem) (r0 s0 r1 d0 n b j : Int) : cpy σ r0 s0 r1 d0 n b j = if b = r1 ∧ d0 ≤ j ∧ j < d0 + n then σ r0 (s0 + (j - d0)) else σ b j := rfl
theorem in_nat : Jvm.Cond.native arraycopyName ∈ W0 ∧ Jvm.Cond.static arraycopyName ∈ W0 ∧ Jvm.Cond.initialized "java/lang/System" ∈ W0 := by
  refine ⟨List.mem_filter.mpr ⟨?_, rfl⟩, List.mem_filter.mpr ⟨?_, rfl⟩, List.mem_filter.mpr ⟨?_, rfl⟩⟩
  all_goals decide +kernel
theorem PW_cpy {g : Gx} {σ : Mem} {q0 q1 s0 d0 n : Nat} (h : PW g σ) (hk : ∀ j, kdAt q0 j = kdAt q1 j) (hc : ∀ j j2, kdAt q1 j = kdAt q1 j2) (h0 : q0 < NC) (h1 : q1 < NC) : PW g (cpy σ q0 s0 q1 d0 n) := by
  obtain ⟨p1, p2, p3, p4, p5, p6⟩ := h
  refine ⟨fun k j hk9 => ?_, fun j hj => ?_, fun j hj => ?_, fun j hj => ?_, ?_, p6⟩
  · by_cases c : ((k : Int) = q1 ∧ (d0 : Int) ≤ j ∧ (j : Int) < d0 + n)
    · rw [cpy_at, if_pos c]
      have hkq : k = q1 := by omega
      subst hkq
      have e : (s0 : Int) + (j - d0) = ((s0 + (j - d0) : Nat) : Int) := by omega
      rw [e]
      have := p1 q0 (s0 + (j - d0)) h0
      rw [hk, hc _ j] at this
      exact this
    · rw [cpy_at, if_neg c]
      exact p1 k j hk9
  · rw [cpy_at, if_neg (by omega)]; exact p2 j hj
  · rw [cpy_at, if_neg (by omega)]; exact p3 j hj
  · rw [cpy_at, if_neg (by omega)]; exact p4 j hj
  · rw [cpy_at, if_neg (by omega)]; exact p5
theorem cellE_cpy {g : Gx} {π : Int → Int → Int} {σ : Mem} {q0 s0 q1 d0 n : Int} {k : Nat} (h : (k : Int) ≠ q1) : cellE g π (cpy σ q0 s0 q1 d0 n) k = cellE g π σ k := by
  have e : ∀ j : Int, cpy σ q0 s0 q1 d0 n k j = σ k j := fun j => by rw [cpy_at, if_neg (fun q => h q.1)]
  unfold cellE
  simp only [e]
  have e2 : fldV g π (cpy σ q0 s0 q1 d0 n) k (shp k).1 = fldV g π σ k (shp k).1 := by
    funext j
    unfold fldV
    simp only [e]
  rw [e2]
theorem aw_copy {r0 r1 s0 d0 n : Int} (hM : chkM M = true) (hi : (mT M)[pos]? = some (35, pc, a, b, c, v, tl)) (hk : (sK r0 = 100 ∧ sK r1 = 100) ∨ (sK r0 = 101 ∧ sK r1 = 101)) (hn : X.2.1 = NC) (h1 : 0 ≤ s0) (h2 : 0 ≤ d0) (h3 : 0 ≤ n) (h4 : s0 + n ≤ sN r0) (h5 : d0 + n ≤ sN r1) (hsz : szS stk ≤ 8)
    (k : AW M (d + 1) mc ms (pos + 1) stk loc (X.1, X.2.1, cpy X.2.2 r0 s0 r1 d0 n) cells slots K) : AW M (d + 1) mc ms pos ((0, n) :: (0, d0) :: (2, r1) :: (0, s0) :: (2, r0) :: stk) loc X cells slots K := by
  intro g p l e s m args below meth c0 Fz H locs ls hF hK hS hB hR hD hs hl hst hlo hc1 hc2
  have hdec := chk_dec hM hi
  have hfal := chk_fall hM hi
  have hpo := chk_pool hM hi
  rw [pcOf_at hi]
  have hpo2 : LAC[tl.getD 0 0]? = some (mOi M, c) ∧ c < 1000 := by simpa [poolO] using hpo
  have hw9 := AC_ok _ (List.mem_of_getElem? hpo2.1)
  rw [wAC_copy hpo2.2] at hw9
  have a1 := List.forall_mem_cons.mp hst
  have a2 := List.forall_mem_cons.mp a1.2
  have a3 := List.forall_mem_cons.mp a2.2
  have a4 := List.forall_mem_cons.mp a3.2
  have a5 := List.forall_mem_cons.mp a4.2
  have rn : r32 n := a1.1
  have rd : r32 d0 := a2.1
  have rs : r32 s0 := a4.1
  obtain ⟨jn, rfl⟩ : ∃ j : Nat, n = (j : Int) := ⟨n.toNat, by omega⟩
  obtain ⟨jd, rfl⟩ : ∃ j : Nat, d0 = (j : Int) := ⟨d0.toNat, by omega⟩
  obtain ⟨js, rfl⟩ : ∃ j : Nat, s0 = (j : Int) := ⟨s0.toNat, by omega⟩
  have hts := hF.2.2.2.2.1
  have nlt : ∀ {x : Int}, r32 x → 0 ≤ x → ¬ Int32.ofInt x < 0 := fun {x} hr h0 => by rw [← i32_0, i32_lt hr r32_0]; omega
  have hroom : ((stk.map (emb g)).map fun v => v.category).sum + (nativeFrameWords "java/lang/System" "arraycopy" 5 + 11) ≤ (rmd (d + 1) mc ms).locals := by
    rw [szS_cat]
    have e : nativeFrameWords "java/lang/System" "arraycopy" 5 ≤ 45 := by decide +kernel
    show _ ≤ 64 * (d + 1)
    omega
  obtain ⟨q0, rfl, hq0⟩ := ref_of (r := r0) (a := sK r0) rfl (by omega)
  obtain ⟨q1, rfl, hq1⟩ := ref_of (r := r1) (a := sK r1) rfl (by omega)
  have hN0 := shp_lt hq0 (by omega)
  have hN1 := shp_lt hq1 (by omega)
  have hw0 := wsL_get (g := g) (X := X) (k := q0) (by omega)
  have hw1 := wsL_get (g := g) (X := X) (k := q1) (by omega)
  have hfin : ∀ (H1 : Heap) (locs1 : List Loc), va_P (gD g) cls (wsL g (X.1, X.2.1, cpy X.2.2 q0 js q1 jd jn)) H1 → va_S (AA g) s.heap H1 locs1 → PW g (cpy X.2.2 q0 js q1 jd jn) → W p l e (rmd (d + 1) mc ms) s m args below meth c0 H1 locs1 cells slots Fz (F0 m (pc + 3) ls (stk.map (emb g))) := by
    intro H1 locs1 hP2 hS1 hPW
    have hsz : gB g + X.2.1 ≤ H1.size := by
      have h1 := (hP2 (NC - 1) _ (wsL_get (by show _ < X.2.1; rw [hn]; decide))).lt
      dsimp only at h1
      rw [hn]
      have : 1 ≤ NC := by decide
      omega
    have k := k g p l e s m args below meth c0 Fz H1 locs1 ls hF hK hS hB hR ⟨⟨hsz, fun z => by have z2 : X.2.1 < NC := z; omega⟩, hP2, hPW, hD.2.2.2⟩ hS1 hl a5.2 hlo hc1 hc2
    rw [fall1 hfal (by simp)] at k
    exact k
  have l4 : js + jn ≤ (shp q0).2 := by
    have : (js : Int) + jn ≤ ((shp q0).2 : Int) := h4
    omega
  have l5 : jd + jn ≤ (shp q1).2 := by
    have : (jd : Int) + jn ≤ ((shp q1).2 : Int) := h5
    omega
  rcases hk with ⟨k0, k1⟩ | ⟨k0, k1⟩
  · have k0 : (shp q0).1 = 100 := k0
    have k1 : (shp q1).1 = 100 := k1
    rw [cellE_i k0] at hw0
    rw [cellE_i k1] at hw1
    refine va_copyi (D := gD g) (cl := cls) (tys := tysL g) (ws := wsL g X) (A := AA g) hF.1 hF.2.1 (by rw [hF.2.2.1]; exact hl.1.symm) hF.2.2.2.1 (hts _ hw9) (hts _ in_nat.1) (hts _ in_nat.2.1) (hts _ in_nat.2.2) hK.1 hD.2.1 (wsL_D g X) hs q0 q1 0 0 hw0 hw1 (ty_at g).1 (ty_at g).1 rfl (nlt rs h1) (nlt rd h2) (nlt rn h3) (by rw [i32_clamp rs, i32_clamp rn]; exact l4) (by rw [i32_clamp rd, i32_clamp rn]; exact l5) (fun _ _ => rfl) (Nat.le_add_left _ _) hroom hdec (fun H1 locs1 hP1 _ hS1 => ?_)
    rw [i32_clamp rs, i32_clamp rd, i32_clamp rn] at hP1
    refine hfin H1 locs1 (va_Pset (X' := (X.1, X.2.1, cpy X.2.2 q0 js q1 jd jn)) hP1 rfl ?_ (fun j hj => cellE_cpy (by omega))) hS1 (PW_cpy hD.2.2.1 (fun j => by unfold kdAt; rw [k0, k1]) (fun j j2 => by unfold kdAt; rw [k1]; rfl) hN0 hN1)
    dsimp only
    rw [cellE_i k1]
    congr 3
    congr 1
    funext i
    unfold va_cpy
    rw [cpy_at]
    by_cases e2 : jd ≤ i ∧ i < jd + jn
    · simp only [Int.toNat_natCast]
      have e3 : True ∧ (jd : Int) ≤ (i : Int) ∧ (i : Int) < jd + jn := ⟨trivial, by omega, by omega⟩
      have e4 : (js : Int) + ((i : Int) - jd) = ((js + (i - jd) : Nat) : Int) := by omega
      rw [if_pos e3, if_pos e2, e4]
    · simp only [Int.toNat_natCast]
      have e3 : ¬ (True ∧ (jd : Int) ≤ (i : Int) ∧ (i : Int) < jd + jn) := fun z => e2 (by have := z.2; omega)
      rw [if_neg e3, if_neg e2]
  · have k0 : (shp q0).1 = 101 := k0
    have k1 : (shp q1).1 = 101 := k1
    rw [cellE_l k0] at hw0
    rw [cellE_l k1] at hw1
    refine va_copyl (D := gD g) (cl := cls) (tys := tysL g) (ws := wsL g X) (A := AA g) hF.1 hF.2.1 (by rw [hF.2.2.1]; exact hl.1.symm) hF.2.2.2.1 (hts _ hw9) (hts _ in_nat.1) (hts _ in_nat.2.1) (hts _ in_nat.2.2) hK.1 hD.2.1 (wsL_D g X) hs q0 q1 1 1 hw0 hw1 (ty_at g).2.1 (ty_at g).2.1 rfl (nlt rs h1) (nlt rd h2) (nlt rn h3) (by rw [i32_clamp rs, i32_clamp rn]; exact l4) (by rw [i32_clamp rd, i32_clamp rn]; exact l5) (fun _ _ => rfl) (Nat.le_add_left _ _) hroom hdec (fun H1 locs1 hP1 _ hS1 => ?_)
    rw [i32_clamp rs, i32_clamp rd, i32_clamp rn] at hP1
    refine hfin H1 locs1 (va_Pset (X' := (X.1, X.2.1, cpy X.2.2 q0 js q1 jd jn)) hP1 rfl ?_ (fun j hj => cellE_cpy (by omega))) hS1 (PW_cpy hD.2.2.1 (fun j => by unfold kdAt; rw [k0, k1]) (fun j j2 => by unfold kdAt; rw [k1]; rfl) hN0 hN1)
    dsimp only
    rw [cellE_l k1]
    congr 5
    funext i
    unfold va_cpy
    rw [cpy_at]
    by_cases e2 : jd ≤ i ∧ i < jd + jn
    · simp only [Int.toNat_natCast]
      have e3 : True ∧ (jd : Int) ≤ (i : Int) ∧ (i : Int) < jd + jn := ⟨trivial, by omega, by omega⟩
      have e4 : (js : Int) + ((i : Int) - jd) = ((js + (i - jd) : Nat) : Int) := by omega
      rw [if_pos e3, if_pos e2, e4]
    · simp only [Int.toNat_natCast]
      have e3 : ¬ (True ∧ (jd : Int) ≤ (i : Int) ∧ (i : Int) < jd + jn) := fun z => e2 (by have := z.2; omega)
      rw [if_neg e3, if_neg e2]
-- ===== the library's own max, min, abs
def maxI (x y : Int) : Int := if x < y then y else x
def minI (x y : Int) : Int := if y < x then y else x
def maxL (x y : Int) : Int := if y < x then x else y
def absL (x : Int) : Int := if 0 < x then x else w64 (-x)
theorem ite_emI {P : Prop} {Q : Prop} (hp : Decidable P) (hq : Decidable Q) (h : P ↔ Q) (x y : Int) : (if P then Int32.ofInt x else Int32.ofInt y) = Int32.ofInt (if Q then x else y) := by
  by_cases q : Q
  · rw [if_pos q, if_pos (h.mpr q)]
  · rw [if_neg q, if_neg (fun z => q (h.mp z))]
theorem ite_emJ {P : Prop} {Q : Prop} (hp : Decidable P) (hq : Decidable Q) (h : P ↔ Q) (x y : Int) : (if P then Int64.ofInt x else Int64.ofInt y) = Int64.ofInt (if Q then x else y) := by
  by_cases q : Q
  · rw [if_pos q, if_pos (h.mpr q)]
  · rw [if_neg q, if_neg (fun z => q (h.mp z))]
theorem aw_math2 {x y : Int} (hM : chkM M = true) (hi : (mT M)[pos]? = some (42, pc, a, b, c, v, tl)) (hb : b < 2) (hsz : szS stk ≤ 8) (k : AW M (d + 1) mc ms (pos + 1) ((0, if b = 0 then maxI x y else minI x y) :: stk) loc X cells slots K) : AW M (d + 1) mc ms pos ((0, y) :: (0, x) :: stk) loc X cells slots K := by
  intro g p l e s m args below meth c0 Fz H locs ls hF hK hS hB hR hD hs hl hst hlo hc1 hc2
  have hdec := chk_dec hM hi
  have hfal := chk_fall hM hi
  have hpo := chk_pool hM hi
  rw [pcOf_at hi]
  have hpo2 : LML[tl.getD 0 0]? = some (mOi M, c, a) ∧ mathI a b = true := by simpa [poolO] using hpo
  have w1 := ML_ok _ (List.mem_of_getElem? hpo2.1)
  have hst1 := List.forall_mem_cons.mp hst
  have hst2 := List.forall_mem_cons.mp hst1.2
  have hts := hF.2.2.2.2.1
  have hroom : ((stk.map (emb g)).map fun v => v.category).sum + 13 ≤ (rmd (d + 1) mc ms).locals := by
    rw [szS_cat]
    show _ ≤ 64 * (d + 1)
    omega
  have hml : c0.maxLocals = ls.size := by rw [hF.2.2.1]; exact hl.1.symm
  have rx : r32 x := hst2.1
  have ry : r32 y := hst1.1
  have hrr : r32 (if b = 0 then maxI x y else minI x y) := by unfold maxI minI; (repeat' split) <;> assumption
  have k := k g p l e s m args below meth c0 Fz H locs ls hF hK hS hB hR hD hs hl (List.forall_mem_cons.mpr ⟨hrr, hst2.2⟩) hlo hc1 hc2
  rw [fall1 hfal (by simp)] at k
  unfold wML at w1
  dsimp only at w1
  rcases (by have := mid_at a b hpo2.2; omega : (a = 251 ∧ b = 0) ∨ (a = 253 ∧ b = 1)) with ⟨rfl, rfl⟩ | ⟨rfl, rfl⟩
  · rw [mnm_0] at w1
    refine va_mmax hF.1 hF.2.1 hml hF.2.2.2.1 (hts _ w1) (hts _ mst_0) (hts _ ini_math) (hts _ mco_0) (Nat.le_add_left _ _) hroom hc1 hc2 hdec ?_
    rw [ite_emI inferInstance inferInstance (i32_lt rx ry)]
    exact k
  · rw [mnm_1] at w1
    refine va_mmin hF.1 hF.2.1 hml hF.2.2.2.1 (hts _ w1) (hts _ mst_1) (hts _ ini_math) (hts _ mco_1) (Nat.le_add_left _ _) hroom hc1 hc2 hdec ?_
    rw [ite_emI inferInstance inferInstance (i32_lt ry rx)]
    exact k
theorem aw_math3 {x y : Int} (hM : chkM M = true) (hi : (mT M)[pos]? = some (42, pc, a, b, c, v, tl)) (hb : b = 2 ∨ b = 3) (hsz : szS stk ≤ 8) (k : AW M (d + 1) mc ms (pos + 1) ((1, if b = 2 then maxL x y else minI x y) :: stk) loc X cells slots K) : AW M (d + 1) mc ms pos ((1, y) :: (1, x) :: stk) loc X cells slots K := by
  intro g p l e s m args below meth c0 Fz H locs ls hF hK hS hB hR hD hs hl hst hlo hc1 hc2
  have hdec := chk_dec hM hi
  have hfal := chk_fall hM hi
  have hpo := chk_pool hM hi
  rw [pcOf_at hi]
  have hpo2 : LML[tl.getD 0 0]? = some (mOi M, c, a) ∧ mathI a b = true := by simpa [poolO] using hpo
  have w1 := ML_ok _ (List.mem_of_getElem? hpo2.1)
  have hst1 := List.forall_mem_cons.mp hst
  have hst2 := List.forall_mem_cons.mp hst1.2
  have hts := hF.2.2.2.2.1
  have hroom : ((stk.map (emb g)).map fun v => v.category).sum + 15 ≤ (rmd (d + 1) mc ms).locals := by
    rw [szS_cat]
    show _ ≤ 64 * (d + 1)
    omega
  have hml : c0.maxLocals = ls.size := by rw [hF.2.2.1]; exact hl.1.symm
  have rx : r64 x := hst2.1
  have ry : r64 y := hst1.1
  have hrr : r64 (if b = 2 then maxL x y else minI x y) := by unfold maxL minI; (repeat' split) <;> assumption
  have k := k g p l e s m args below meth c0 Fz H locs ls hF hK hS hB hR hD hs hl (List.forall_mem_cons.mpr ⟨hrr, hst2.2⟩) hlo hc1 hc2
  rw [fall1 hfal (by simp)] at k
  unfold wML at w1
  dsimp only at w1
  rcases (by have := mid_at a b hpo2.2; omega : (a = 252 ∧ b = 2) ∨ (a = 254 ∧ b = 3)) with ⟨rfl, rfl⟩ | ⟨rfl, rfl⟩
  · rw [mnm_2] at w1
    refine va_mmax_long hF.1 hF.2.1 hml hF.2.2.2.1 (hts _ w1) (hts _ mst_2) (hts _ ini_math) (hts _ mco_2) (Nat.le_add_left _ _) hroom hc1 hc2 hdec ?_
    rw [ite_emJ inferInstance inferInstance (i64_lt ry rx)]
    exact k
  · rw [mnm_3] at w1
    refine va_mmin_long hF.1 hF.2.1 hml hF.2.2.2.1 (hts _ w1) (hts _ mst_3) (hts _ ini_math) (hts _ mco_3) (Nat.le_add_left _ _) hroom hc1 hc2 hdec ?_
    rw [ite_emJ inferInstance inferInstance (i64_lt ry rx)]
    exact k
theorem aw_math1 {x : Int} (hM : chkM M = true) (hi : (mT M)[pos]? = some (42, pc, a, b, c, v, tl)) (hb : b = 4) (hsz : szS stk ≤ 8) (k : AW M (d + 1) mc ms (pos + 1) ((1, absL x) :: stk) loc X cells slots K) : AW M (d + 1) mc ms pos ((1, x) :: stk) loc X cells slots K := by
  intro g p l e s m args below meth c0 Fz H locs ls hF hK hS hB hR hD hs hl hst hlo hc1 hc2
  have hdec := chk_dec hM hi
  have hfal := chk_fall hM hi
  have hpo := chk_pool hM hi
  rw [pcOf_at hi]
  have hpo2 : LML[tl.getD 0 0]? = some (mOi M, c, a) ∧ mathI a b = true := by simpa [poolO] using hpo
  have w1 := ML_ok _ (List.mem_of_getElem? hpo2.1)
  have hst2 := List.forall_mem_cons.mp hst
  have hts := hF.2.2.2.2.1
  have hroom : ((stk.map (emb g)).map fun v => v.category).sum + 13 ≤ (rmd (d + 1) mc ms).locals := by
    rw [szS_cat]
    show _ ≤ 64 * (d + 1)
    omega
  have hml : c0.maxLocals = ls.size := by rw [hF.2.2.1]; exact hl.1.symm
  have rx : r64 x := hst2.1
  have r0 : r64 0 := by unfold r64; omega
  have hrr : r64 (absL x) := by
    unfold absL
    split
    · exact rx
    · exact w64_r _
  have k := k g p l e s m args below meth c0 Fz H locs ls hF hK hS hB hR hD hs hl (List.forall_mem_cons.mpr ⟨hrr, hst2.2⟩) hlo hc1 hc2
  rw [fall1 hfal (by simp)] at k
  unfold wML at w1
  dsimp only at w1
  obtain ⟨rfl, rfl⟩ : a = 250 ∧ b = 4 := by have := mid_at a b hpo2.2; omega
  rw [mnm_4] at w1
  refine va_mabs_long hF.1 hF.2.1 hml hF.2.2.2.1 (hts _ w1) (hts _ mst_4) (hts _ ini_math) (hts _ mco_4) (Nat.le_add_left _ _) hroom hc1 hc2 hdec ?_
  have e9 : (if (0 : Int64) < Int64.ofInt x then Int64.ofInt x else -Int64.ofInt x) = Int64.ofInt (absL x) := by
    have h9 : (0 : Int64) < Int64.ofInt x ↔ 0 < x := i64_lt r0 rx
    unfold absL
    by_cases q : 0 < x
    · rw [if_pos q, if_pos (h9.mpr q)]
    · rw [if_neg q, if_neg (fun z => q (h9.mp z)), ofInt_w64, Int64.ofInt_neg]
  rw [e9]
  exact k
end
section
-- ===== the machine behind its making: fixed references, all cells there
def X2 (σ : Mem) : HS := (ptr, NC, σ)
def K2 (K : Int → Mem → Prop) : Int → HS → Prop := fun v X => ∃ σ, X = X2 σ ∧ K v σ
def AW2 (M : MI) (d pos : Nat) (stk : List AV) (loc : Lo) (σ : Mem) (K : Int → Mem → Prop) : Prop := AW M d 0 0 pos stk loc (X2 σ) 0 0 (K2 K)
def AM2 (M : MI) (d : Nat) (as : List AV) (σ : Mem) (K : Int → Mem → Prop) : Prop := AM M d 0 0 as (X2 σ) (K2 K)
def chkK (a : Int) (k : Nat) (P : Prop) : Prop := cond (Nat.beq (sK a) k) P (sK a = k ∧ P)
def inb (i n : Int) (P : Prop) : Prop := cond (decide (0 ≤ i) && decide (i < n)) P ((0 ≤ i ∧ i < n) ∧ P)
def boolP (v : Int) (P : Prop) : Prop := cond (decide (v = 0) || decide (v = 1)) P ((v = 0 ∨ v = 1) ∧ P)
def nzP (v : Int) (P : Prop) : Prop := cond (decide (v = 0)) ((¬ v = 0) ∧ P) P
def cpP (s0 d0 n l0 l1 : Int) (P : Prop) : Prop := (0 ≤ s0 ∧ 0 ≤ d0 ∧ 0 ≤ n ∧ s0 + n ≤ l0 ∧ d0 + n ≤ l1) ∧ P
theorem chkK_e {a : Int} {k : Nat} {P : Prop} (h : chkK a k P) : sK a = k ∧ P := by
  unfold chkK at h
  cases q : Nat.beq (sK a) k with
  | true => rw [q] at h; exact ⟨Nat.eq_of_beq_eq_true q, h⟩
  | false => rw [q] at h; exact h
theorem chkK_i {a : Int} {k : Nat} {P : Prop} (h : sK a = k) (p : P) : chkK a k P := by
  unfold chkK
  cases q : Nat.beq (sK a) k
  · exact ⟨h, p⟩
  · exact p
theorem inb_e {i n : Int} {P : Prop} (h : inb i n P) : (0 ≤ i ∧ i < n) ∧ P := by
  unfold inb at h
  cases q : (decide (0 ≤ i) && decide (i < n)) with
  | true =>
    rw [q] at h
    simp only [Bool.and_eq_true, decide_eq_true_eq] at q
    exact ⟨q, h⟩
  | false => rw [q] at h; exact h
theorem inb_i {i n : Int} {P : Prop} (h0 : 0 ≤ i) (h1 : i < n) (p : P) : inb i n P := by
  unfold inb
  cases q : (decide (0 ≤ i) && decide (i < n))
  · exact ⟨⟨h0, h1⟩, p⟩
  · exact p
theorem boolP_e {v : Int} {P : Prop} (h : boolP v P) : (v = 0 ∨ v = 1) ∧ P := by
  unfold boolP at h
  cases q : (decide (v = 0) || decide (v = 1)) with
  | true =>
    rw [q] at h
    simp only [Bool.or_eq_true, decide_eq_true_eq] at q
    exact ⟨q, h⟩
  | false => rw [q] at h; exact h
theorem boolP_i {v : Int} {P : Prop} (h : v = 0 ∨ v = 1) (p : P) : boolP v P := by
  unfold boolP
  cases q : (decide (v = 0) || decide (v = 1))
  · exact ⟨h, p⟩
  · exact p
theorem nzP_e {v : Int} {P : Prop} (h : nzP v P) : (¬ v = 0) ∧ P := by
  unfold nzP at h
  cases q : decide (v = 0) with
  | true => rw [q] at h; exact h
  | false => rw [q] at h; exact ⟨of_decide_eq_false q, h⟩
theorem nzP_i {v : Int} {P : Prop} (h : ¬ v = 0) (p : P) : nzP v P := by
  unfold nzP
  cases q : decide (v = 0)
  · exact p
  · exact ⟨h, p⟩
/-- the listed locals, in their order -/
def pick (l : Lo) (is : List Nat) : Lo := is.filterMap fun i => (l.lookup i).map fun w => (i, w)
def tsw (x v : Int) (go : Nat → Prop) (dflt : Nat) : List Nat → Prop
  | [] => go dflt
  | t :: r => (x = v → go t) ∧ (¬ x = v → tsw x (v + 1) go dflt r)
def lswP (x : Int) (go : Nat → Prop) (dflt : Nat) : List Nat → Prop
  | k :: t :: r => (x = (k : Int) → go t) ∧ (¬ x = (k : Int) → lswP x go dflt r)
  | _ => go dflt
/-- a list of locals laid out before it is handed on -/
def forceL : Lo → (Lo → Prop) → Prop
  | [], k => k []
  | (i, t, x) :: r, k => forceL r (fun l => k ((i, t, x) :: l))
def pushC (M : MI) (w : Int) (s : List AV) (k : List AV → Prop) : Prop := match mR M with
  | none => k s
  | some .int => k ((0, w) :: s)
  | some .boolean => k ((0, w) :: s)
  | some .long => k ((1, w) :: s)
  | some _ => k ((2, w) :: s)
theorem forceL_e : ∀ (l : Lo) (k : Lo → Prop), forceL l k → k l
  | [], _, h => h
  | (_, _, _) :: r, _, h => forceL_e r _ h
theorem pushC_e {M : MI} {w : Int} {s : List AV} {k : List AV → Prop} (h : pushC M w s k) : k (pushR M w s) := by
  unfold pushC at h
  unfold pushR
  split <;> simp_all
/-- one row; go: what must hold at the place behind it -/
noncomputable def stepP (M : MI) (d : Nat) (K : Int → Mem → Prop) (go : List AI → Nat → List AV → Lo → Mem → Prop) (ai : AI) (rest : List AI) (pos : Nat) (stk : List AV) (loc : Lo) (σ : Mem) : Prop := match ai with
  | (op, pc, a, b, c, v, tl) =>
    let nx : List AV → Lo → Mem → Prop := fun stk loc σ => go rest (pos + 1) stk loc σ
    let jp : List AV → Nat → Prop := fun stk t => go ((mT M).drop t) t stk loc σ
    cond (Nat.beq op 2) (match lkp loc a with
      | (t, x) => cond (Nat.beq t b) (nx ((b, x) :: stk) loc σ) False) <|
    cond (Nat.beq op 0) (nx ((0, v) :: stk) loc σ) <|
    cond (Nat.beq op 22) (match stk with
      | (2, r) :: s => chkK r a (cond (Nat.blt a 100) (cond (Nat.beq (fk a b) 1) (nx ((1, σ r b) :: s) loc σ) (cond (Nat.beq (fk a b) 2) (nx ((2, ptr r b) :: s) loc σ) (cond (Nat.beq (fk a b) 3) (nx ((2, σ r b) :: s) loc σ) (nx ((0, σ r b) :: s) loc σ)))) False)
      | _ => False) <|
    cond (Nat.beq op 25) (match stk with
      | (0, i) :: (2, r) :: s => chkK r a (inb i (aln (X2 σ) a r) (cond (Nat.ble 100 a) (cond (Nat.beq a 101) (nx ((1, σ r i) :: s) loc σ) (cond (Nat.ble 103 a && Nat.blt a 900) (nx ((2, ptr r i) :: s) loc σ) (nx ((0, σ r i) :: s) loc σ))) False))
      | _ => False) <|
    cond (Nat.beq op 5) (match stk with
      | (0, y) :: (0, x) :: s =>
        cond (Nat.beq c 0) (nx ((0, w32 (x + y)) :: s) loc σ) <| cond (Nat.beq c 1) (nx ((0, w32 (x - y)) :: s) loc σ) <| cond (Nat.beq c 2) (nx ((0, w32 (x * y)) :: s) loc σ) <| cond (Nat.beq c 3) (nx ((0, andI x y) :: s) loc σ) <| cond (Nat.beq c 4) (nx ((0, orI x y) :: s) loc σ) <| cond (Nat.beq c 5) (nx ((0, xorI x y) :: s) loc σ) <| cond (Nat.beq c 6) (nx ((0, shlI x y) :: s) loc σ) <| cond (Nat.beq c 7) (nx ((0, shrI x y) :: s) loc σ) (nx ((0, ushI x y) :: s) loc σ)
      | _ => False) <|
    cond (Nat.beq op 3) (match stk with
      | (t, x) :: s => cond (Nat.beq t b) (forceL (put loc a (b, x)) fun l => nx s l σ) False
      | _ => False) <|
    cond (Nat.beq op 15) (match stk with
      | (0, x) :: s => brc c x 0 (jp s a) (nx s loc σ)
      | _ => False) <|
    cond (Nat.beq op 16) (match stk with
      | (0, y) :: (0, x) :: s => brc c x y (jp s a) (nx s loc σ)
      | _ => False) <|
    cond (Nat.beq op 34) (match mR M, stk with
      | none, [] => K 0 σ
      | some .int, [(0, w)] => K w σ
      | some .boolean, [(0, w)] => boolP w (K w σ)
      | some .long, [(1, w)] => K w σ
      | some (.object _), [(2, w)] => K w σ
      | _, _ => False) <|
    cond (Nat.beq op 19) (jp stk a) <|
    cond (Nat.beq op 4) (match lkp loc a with
      | (t, x) => cond (Nat.beq t 0) (forceL (put loc a (0, w32 (x + v))) fun l => nx stk l σ) False) <|
    cond (Nat.beq op 31) (cond (Nat.blt b 13 && Nat.blt a 250) (match stk.drop v.toNat with
      | (2, r) :: s => cond (Nat.ble (szS s) 8) (cond (Nat.beq (stk.take v.toNat).length v.toNat) (chkK r b (AM2 (callee a) d ((2, r) :: (stk.take v.toNat).reverse) σ (fun w σ' => pushC (callee a) w s fun s' => nx s' loc σ'))) False) False
      | _ => False) False) <|
    cond (Nat.beq op 32) (cond (Nat.ble (szS (stk.drop v.toNat)) 8 && Nat.blt a 250) (cond (Nat.beq (stk.take v.toNat).length v.toNat) (AM2 (callee a) d (stk.take v.toNat).reverse σ (fun w σ' => pushC (callee a) w (stk.drop v.toNat) fun s' => nx s' loc σ')) False) False) <|
    cond (Nat.beq op 26) (match stk with
      | (0, w) :: (0, i) :: (2, r) :: s => cond (Nat.beq a 100) (chkK r 100 (inb i (sN r) (nx s loc (st σ r i w)))) (cond (Nat.beq a 102) (chkK r 102 (inb i (sN r) (boolP w (nx s loc (st σ r i w))))) False)
      | (1, w) :: (0, i) :: (2, r) :: s => cond (Nat.beq a 101) (chkK r 101 (inb i (sN r) (nx s loc (st σ r i w)))) False
      | _ => False) <|
    cond (Nat.beq op 23) (match stk with
      | w :: (2, r) :: s => cond (Nat.beq w.1 (pft a b)) (cond (Nat.blt a 100) (chkK r a (cond (Nat.beq (fk a b) 2) False (cond (Nat.beq (fk a b) 4) (boolP w.2 (nx s loc (st σ r b w.2))) (nx s loc (st σ r b w.2))))) False) False
      | _ => False) <|
    cond (Nat.beq op 1) (nx ((1, v) :: stk) loc σ) <|
    cond (Nat.beq op 6) (match stk with
      | (0, y) :: (0, x) :: s => nzP y (cond (Nat.beq c 0) (nx ((0, divI x y) :: s) loc σ) (nx ((0, remI x y) :: s) loc σ))
      | _ => False) <|
    cond (Nat.beq op 7) (match stk with
      | (1, y) :: (1, x) :: s => cond (Nat.beq c 0) (nx ((1, w64 (x + y)) :: s) loc σ) <| cond (Nat.beq c 1) (nx ((1, w64 (x - y)) :: s) loc σ) <| cond (Nat.beq c 2) (nx ((1, w64 (x * y)) :: s) loc σ) <| cond (Nat.beq c 3) (nx ((1, andL x y) :: s) loc σ) (nx ((1, orL x y) :: s) loc σ)
      | _ => False) <|
    cond (Nat.beq op 8) (match stk with
      | (1, y) :: (1, x) :: s => nzP y (cond (Nat.beq c 0) (nx ((1, divL x y) :: s) loc σ) (nx ((1, remL x y) :: s) loc σ))
      | _ => False) <|
    cond (Nat.beq op 10) (match stk with
      | (0, x) :: s => cond (Nat.beq c 0) (nx ((0, w32 (-x)) :: s) loc σ) <| cond (Nat.beq c 1) (nx ((0, i2bI x) :: s) loc σ) (nx ((0, i2sI x) :: s) loc σ)
      | _ => False) <|
    cond (Nat.beq op 11) (match stk with
      | (0, x) :: s => nx ((1, x) :: s) loc σ
      | _ => False) <|
    cond (Nat.beq op 12) (match stk with
      | (1, x) :: s => nx ((0, l2iI x) :: s) loc σ
      | _ => False) <|
    cond (Nat.beq op 13) (match stk with
      | (1, x) :: s => nx ((1, w64 (-x)) :: s) loc σ
      | _ => False) <|
    cond (Nat.beq op 14) (match stk with
      | (1, y) :: (1, x) :: s => brc c x y (jp s a) (jp s (pos + 2))
      | _ => False) <|
    cond (Nat.beq op 17) (match stk with
      | (2, x) :: s => brc 0 x (-1) (jp s a) (nx s loc σ)
      | _ => False) <|
    cond (Nat.beq op 18) (match stk with
      | (2, y) :: (2, x) :: s => (-1 ≤ x ∧ -1 ≤ y) ∧ brc 1 x y (jp s a) (nx s loc σ)
      | _ => False) <|
    cond (Nat.beq op 20) (match stk with
      | (0, x) :: s => tsw x v (jp s) a tl
      | _ => False) <|
    cond (Nat.beq op 21) (match stk with
      | (0, x) :: s => cond (Nat.beq (tl.length % 2) 0) (lswP x (jp s) a tl) False
      | _ => False) <|
    cond (Nat.beq op 24) (nx ((2, -1 - (a : Int)) :: stk) loc σ) <|
    cond (Nat.beq op 27) (match stk with
      | (2, r) :: s => cond (Nat.beq a 903) (r = -4 ∧ nx ((0, aln (X2 σ) a r) :: s) loc σ) ((100 ≤ sK r ∧ sK r < 900) ∧ nx ((0, aln (X2 σ) a r) :: s) loc σ)
      | _ => False) <|
    cond (Nat.beq op 28) (match stk with
      | w :: s => cond (Nat.beq w.1 1) False (nx (w :: w :: s) loc σ)
      | _ => False) <|
    cond (Nat.beq op 29) (match stk with
      | w :: u :: s => cond (Nat.beq w.1 1) False (cond (Nat.beq u.1 1) False (nx (w :: u :: w :: u :: s) loc σ))
      | _ => False) <|
    cond (Nat.beq op 30) (match stk with
      | w :: s => cond (Nat.beq w.1 1) False (nx s loc σ)
      | _ => False) <|
    cond (Nat.beq op 35) (match stk with
      | (0, n) :: (0, d0) :: (2, r1) :: (0, s0) :: (2, r0) :: s => cond (Nat.ble (szS s) 8) (cond (Nat.beq a 100 || Nat.beq a 101) (chkK r0 a (chkK r1 a (cpP s0 d0 n (sN r0) (sN r1) (nx s loc (cpy σ r0 s0 r1 d0 n))))) False) False
      | _ => False) <|
    cond (Nat.beq op 42) (match stk with
      | (0, y) :: (0, x) :: s => cond (Nat.blt b 2 && Nat.ble (szS s) 8) (cond (Nat.beq b 0) (nx ((0, maxI x y) :: s) loc σ) (nx ((0, minI x y) :: s) loc σ)) False
      | (1, y) :: (1, x) :: s => cond (Nat.ble (szS s) 8) (cond (Nat.beq b 2) (nx ((1, maxL x y) :: s) loc σ) (cond (Nat.beq b 3) (nx ((1, minI x y) :: s) loc σ) (cond (Nat.beq b 4 && Nat.ble (szS s + 2) 8) (nx ((1, absL y) :: (1, x) :: s) loc σ) False))) False
      | (1, x) :: s => cond (Nat.beq b 4 && Nat.ble (szS s) 8) (nx ((1, absL x) :: s) loc σ) False
      | _ => False) <|
    cond (Nat.beq op 36) (nx ((2, -1) :: stk) loc σ) False
/-- what must hold at a place so that K holds at the end; it stops at the cuts -/
noncomputable def wp (M : MI) (cuts : List (Nat × List Nat)) (d : Nat) (K : Int → Mem → Prop) : Nat → List AI → Nat → List AV → Lo → Mem → Prop
  | 0, _, _, _, _, _ => False
  | _ + 1, [], _, _, _, _ => False
  | n + 1, ai :: rest, pos, stk, loc, σ => stepP M d K (fun r q stk loc σ => match cuts.lookup q with
      | some is => AW2 M (d + 1) q stk (pick loc is) σ K
      | none => wp M cuts d K n r q stk loc σ) ai rest pos stk loc σ
end
section
theorem cb {n k : Nat} {P Q : Prop} (h : cond (Nat.beq n k) P Q) : (n = k ∧ P) ∨ (¬ n = k ∧ Q) := by
  cases q : Nat.beq n k with
  | true => rw [q] at h; exact Or.inl ⟨Nat.eq_of_beq_eq_true q, h⟩
  | false => rw [q] at h; exact Or.inr ⟨Nat.ne_of_beq_eq_false q, h⟩
theorem cbF {n k : Nat} {P : Prop} (h : cond (Nat.beq n k) P False) : n = k ∧ P := by
  rcases cb h with h | ⟨-, h⟩
  · exact h
  · exact h.elim
theorem cbN {n k : Nat} {P : Prop} (h : cond (Nat.beq n k) False P) : ¬ n = k ∧ P := by
  rcases cb h with ⟨-, h⟩ | h
  · exact h.elim
  · exact h
theorem cT {b : Bool} {P : Prop} (h : cond b P False) : b = true ∧ P := by
  cases b with
  | true => exact ⟨rfl, h⟩
  | false => exact h.elim
theorem aw_sub {M : MI} {d mc ms pos cells slots : Nat} {stk : List AV} {loc loc' : Lo} {X : HS} {K : Int → HS → Prop} (h : ∀ q ∈ loc', q ∈ loc) (k : AW M d mc ms pos stk loc' X cells slots K) : AW M d mc ms pos stk loc X cells slots K := by
  intro g p l e s m args below meth c0 Fz H locs ls hF hK hS hB hR hD hs hl hst hlo hc1 hc2
  refine k g p l e s m args below meth c0 Fz H locs ls hF hK hS hB hR hD hs ⟨hl.1, hl.2.1, fun q hq => ?_⟩ hst (fun q hq => hlo q (h q hq)) hc1 hc2
  obtain ⟨z, hz, rfl⟩ := List.mem_map.mp hq
  exact hl.2.2 _ (List.mem_map.mpr ⟨z, h z hz, rfl⟩)
theorem lookup_mem {l : Lo} {i : Nat} {w : AV} (q : l.lookup i = some w) : (i, w) ∈ l := by
  induction l with
  | nil => simp at q
  | cons z l ih =>
    obtain ⟨j, u⟩ := z
    rw [List.lookup_cons] at q
    by_cases e : i = j
    · subst e
      simp at q
      subst q
      exact List.mem_cons_self
    · have e2 : (i == j) = false := by simp [e]
      rw [e2] at q
      exact List.mem_cons_of_mem _ (ih q)
theorem pick_mem {l : Lo} {is : List Nat} : ∀ q ∈ pick l is, q ∈ l := by
  intro q hq
  obtain ⟨i, -, h⟩ := List.mem_filterMap.mp hq
  cases e : l.lookup i with
  | none => rw [e] at h; cases h
  | some w => rw [e] at h; cases h; exact lookup_mem e
theorem tsw_e {x : Int} {go : Nat → Prop} {dflt : Nat} : ∀ (tl : List Nat) (v : Int), tsw x v go dflt tl → go (if v ≤ x ∧ x < v + tl.length then tl.getD (x - v).toNat 0 else dflt)
  | [], v, h => by
    rw [if_neg (by simp)]
    exact h
  | t :: r, v, h => by
    obtain ⟨h1, h2⟩ := h
    by_cases e : x = v
    · subst e
      rw [if_pos (by simp; omega)]
      simpa using h1 rfl
    · have h3 := tsw_e r (v + 1) (h2 e)
      by_cases c : v + 1 ≤ x ∧ x < v + 1 + r.length
      · rw [if_pos c] at h3
        rw [if_pos (by simp; omega)]
        have e2 : (x - v).toNat = (x - (v + 1)).toNat + 1 := by omega
        rw [e2]
        exact h3
      · rw [if_neg c] at h3
        rw [if_neg (by simp; omega)]
        exact h3
theorem lswP_e {x : Int} {go : Nat → Prop} {dflt : Nat} : ∀ (tl : List Nat), lswP x go dflt tl → go (lsw tl dflt x)
  | [], h => h
  | [_], h => h
  | k :: t :: r, h => by
    obtain ⟨h1, h2⟩ := h
    unfold lsw
    by_cases e : x = (k : Int)
    · rw [if_pos e]; exact h1 e
    · rw [if_neg e]; exact lswP_e r (h2 e)
theorem sK_lt {r : Int} {a : Nat} (h : sK r = a) (ha : a < 900) : r < (NC : Int) := by
  obtain ⟨k, rfl, hk⟩ := ref_of h ha
  have := shp_lt hk ha
  omega
end
section
theorem ald_lt {r i : Int} {a : Nat} {σ : Mem} (h1 : sK r = a) (h2 : 0 ≤ i) (h3 : i < aln (X2 σ) a r) : r < ((X2 σ).2.1 : Int) := by
  cases r with
  | ofNat k =>
    have h1 : (shp k).1 = a := h1
    by_cases z : k < NC
    · show (k : Int) < (NC : Int)
      omega
    · exfalso
      rw [shp_out (by omega)] at h1
      unfold aln at h3
      rw [if_neg (by dsimp only at h1; omega)] at h3
      have : sN (Int.ofNat k) = ((shp k).2 : Int) := rfl
      rw [this, shp_out (by omega)] at h3
      dsimp only at h3
      omega
  | negSucc n => exact Int.lt_of_lt_of_le (Int.negSucc_lt_zero n) (Int.natCast_nonneg _)
theorem beq0 (c : Nat) : (c = 0 ∧ Nat.beq c 0 = true) ∨ (¬ c = 0 ∧ Nat.beq c 0 = false) := by
  cases q : Nat.beq c 0 with
  | true => exact Or.inl ⟨Nat.eq_of_beq_eq_true q, rfl⟩
  | false => exact Or.inr ⟨Nat.ne_of_beq_eq_false q, rfl⟩
theorem take_rev (n : Nat) (stk : List AV) (hs : List AV) (h : stk.drop n = hs) : stk = (stk.take n).reverse.reverse ++ hs := by
  rw [List.reverse_reverse, ← h, List.take_append_drop]
set_option maxHeartbeats 4000000 in
theorem stepP_aw {M : MI} {d : Nat} {K : Int → Mem → Prop} {go : List AI → Nat → List AV → Lo → Mem → Prop} {ai : AI} {rest : List AI} {pos : Nat} {stk : List AV} {loc : Lo} {σ : Mem} (hM : chkM M = true) (hA : ∀ a, a < 250 → okM (callee a)) (hi : (mT M)[pos]? = some ai) (hr : rest = (mT M).drop (pos + 1))
    (hgo : ∀ r q stk loc σ, r = (mT M).drop q → go r q stk loc σ → AW2 M (d + 1) q stk loc σ K) (h : stepP M d K go ai rest pos stk loc σ) : AW2 M (d + 1) pos stk loc σ K := by
  obtain ⟨op, pc, a, b, c, v, tl⟩ := ai
  have nx : ∀ {stk loc σ}, go rest (pos + 1) stk loc σ → AW2 M (d + 1) (pos + 1) stk loc σ K := fun h => hgo _ _ _ _ _ hr h
  have jp : ∀ {stk t}, go ((mT M).drop t) t stk loc σ → AW2 M (d + 1) t stk loc σ K := fun h => hgo _ _ _ _ _ rfl h
  have lt : ∀ {r : Int} {k : Nat}, sK r = k → k < 900 → r < ((X2 σ).2.1 : Int) := fun h h9 => sK_lt h h9
  unfold stepP at h
  dsimp only at h
  have h0 := cb h; clear h; rcases h0 with ⟨rfl, h⟩ | ⟨-, h⟩
  · obtain ⟨t, x, hx⟩ : ∃ t x, lkp loc a = (t, x) := ⟨_, _, rfl⟩
    rw [hx] at h
    have h0 := cbF h; clear h; obtain ⟨e, h⟩ := h0
    have e : t = b := e
    subst e
    exact aw_load hM hi hx (nx h)
  have h0 := cb h; clear h; rcases h0 with ⟨rfl, h⟩ | ⟨-, h⟩
  · exact aw_const hM hi (nx h)
  have h0 := cb h; clear h; rcases h0 with ⟨rfl, h⟩ | ⟨-, h⟩
  · split at h
    · have h0 := chkK_e h; clear h; obtain ⟨h1, h⟩ := h0
      have h0 := cT h; clear h; obtain ⟨h2, h⟩ := h0
      have h2 : a < 100 := Nat.le_of_ble_eq_true h2
      refine aw_getf hM hi h1 h2 (lt h1 (by omega)) ?_
      unfold gfv
      rcases cb h with ⟨q, h⟩ | ⟨q1, h⟩
      · rw [if_pos q]; exact nx h
      · rw [if_neg q1]
        rcases cb h with ⟨q, h⟩ | ⟨q2, h⟩
        · rw [if_pos q]; exact nx h
        · rw [if_neg q2]
          rcases cb h with ⟨q, h⟩ | ⟨q3, h⟩
          · rw [if_pos q]; exact nx h
          · rw [if_neg q3]; exact nx h
    · exact h.elim
  have h0 := cb h; clear h; rcases h0 with ⟨rfl, h⟩ | ⟨-, h⟩
  · split at h
    · have h0 := chkK_e h; clear h; obtain ⟨h1, h⟩ := h0
      have h0 := inb_e h; clear h; obtain ⟨⟨h2, h3⟩, h⟩ := h0
      have h0 := cT h; clear h; obtain ⟨h4, h⟩ := h0
      have h4 : 100 ≤ a := Nat.le_of_ble_eq_true h4
      refine aw_ald hM hi h4 h1 (ald_lt h1 h2 h3) h2 h3 ?_
      unfold alv
      rcases cb h with ⟨q, h⟩ | ⟨q1, h⟩
      · rw [if_pos q]; exact nx h
      · rw [if_neg q1]
        cases q : (Nat.ble 103 a && Nat.blt a 900) with
        | true =>
          rw [q] at h
          simp only [Bool.and_eq_true] at q
          rw [if_pos ⟨Nat.le_of_ble_eq_true q.1, Nat.le_of_ble_eq_true q.2⟩]; exact nx h
        | false =>
          rw [q] at h
          rw [if_neg (fun z => by have z1 := Nat.ble_eq_true_of_le z.1; have z2 : Nat.blt a 900 = true := Nat.ble_eq_true_of_le z.2; rw [z1, z2] at q; cases q)]; exact nx h
    · exact h.elim
  have h0 := cb h; clear h; rcases h0 with ⟨rfl, h⟩ | ⟨-, h⟩
  · split at h
    · refine aw_bin hM hi ?_
      unfold binI
      repeat (rcases cb h with ⟨q, h⟩ | ⟨q, h⟩; · rw [if_pos q]; exact nx h
              rw [if_neg q])
      exact nx h
    · exact h.elim
  have h0 := cb h; clear h; rcases h0 with ⟨rfl, h⟩ | ⟨-, h⟩
  · split at h
    · have h0 := cbF h; clear h; obtain ⟨e, h⟩ := h0
      subst e
      exact aw_store hM hi (nx (forceL_e _ _ h))
    · exact h.elim
  have h0 := cb h; clear h; rcases h0 with ⟨rfl, h⟩ | ⟨-, h⟩
  · split at h
    · exact aw_ifc hM hi (brc_mono h jp nx)
    · exact h.elim
  have h0 := cb h; clear h; rcases h0 with ⟨rfl, h⟩ | ⟨-, h⟩
  · split at h
    · exact aw_icmp hM hi (brc_mono h jp nx)
    · exact h.elim
  have h0 := cb h; clear h; rcases h0 with ⟨rfl, h⟩ | ⟨-, h⟩
  · have fin : ∀ w, (mR M = some .boolean → w = 0 ∨ w = 1) → stk = topR M w → K w σ → AW2 M (d + 1) pos stk loc σ K := by
      intro w hb hs hk
      rw [hs]
      by_cases q : mR M = some .boolean
      · refine aw_ret hM hi ?_ ⟨σ, rfl, hk⟩
        unfold rgR
        rw [q]
        exact hb q
      · exact aw_retn hM hi q ⟨σ, rfl, hk⟩
    split at h
    · rename_i q; exact fin 0 (fun z => by rw [q] at z; cases z) (by unfold topR pushR; rw [q]) h
    · rename_i q; exact fin _ (fun z => by rw [q] at z; cases z) (by unfold topR pushR; rw [q]) h
    · rename_i q; obtain ⟨h1, h⟩ := boolP_e h; exact fin _ (fun _ => h1) (by unfold topR pushR; rw [q]) h
    · rename_i q; exact fin _ (fun z => by rw [q] at z; cases z) (by unfold topR pushR; rw [q]) h
    · rename_i q; exact fin _ (fun z => by rw [q] at z; cases z) (by unfold topR pushR; rw [q]) h
    · exact h.elim
  have h0 := cb h; clear h; rcases h0 with ⟨rfl, h⟩ | ⟨-, h⟩
  · exact aw_goto hM hi (jp h)
  have h0 := cb h; clear h; rcases h0 with ⟨rfl, h⟩ | ⟨-, h⟩
  · obtain ⟨t, x, hx⟩ : ∃ t x, lkp loc a = (t, x) := ⟨_, _, rfl⟩
    rw [hx] at h
    have h0 := cbF h; clear h; obtain ⟨e, h⟩ := h0
    have e : t = 0 := e
    subst e
    exact aw_iinc hM hi hx (nx (forceL_e _ _ h))
  have h0 := cb h; clear h; rcases h0 with ⟨rfl, h⟩ | ⟨-, h⟩
  · have h0 := cT h; clear h; obtain ⟨hb, h⟩ := h0
    simp only [Bool.and_eq_true] at hb
    have hb13 : b < 13 := Nat.le_of_ble_eq_true hb.1
    have ha : a < 250 := Nat.le_of_ble_eq_true hb.2
    split at h
    · rename_i r s hdr
      have h0 := cT h; clear h; obtain ⟨hz, h⟩ := h0
      have hz : szS s ≤ 8 := Nat.le_of_ble_eq_true hz
      have h0 := cbF h; clear h; obtain ⟨hln, h⟩ := h0
      have h0 := chkK_e h; clear h; obtain ⟨hk, h⟩ := h0
      rw [take_rev _ _ _ hdr]
      refine aw_callv (mc' := 0) (ms' := 0) hM hi (hA a ha) hb13 hk (lt hk (by omega)) (by rw [List.length_reverse]; exact hln) hz (Nat.le_refl _) (Nat.le_refl _) h (fun w X' _ hX => ?_)
      obtain ⟨σ', rfl, hk2⟩ := hX
      exact nx (pushC_e hk2)
    · exact h.elim
  have h0 := cb h; clear h; rcases h0 with ⟨rfl, h⟩ | ⟨-, h⟩
  · have h0 := cT h; clear h; obtain ⟨hb, h⟩ := h0
    simp only [Bool.and_eq_true] at hb
    have hz : szS (stk.drop v.toNat) ≤ 8 := Nat.le_of_ble_eq_true hb.1
    have ha : a < 250 := Nat.le_of_ble_eq_true hb.2
    have h0 := cbF h; clear h; obtain ⟨hln, h⟩ := h0
    rw [take_rev v.toNat stk _ rfl]
    refine aw_calls (mc' := 0) (ms' := 0) hM hi (hA a ha) (by rw [List.length_reverse]; exact hln) hz (Nat.le_refl _) (Nat.le_refl _) h (fun w X' _ hX => ?_)
    obtain ⟨σ', rfl, hk2⟩ := hX
    exact nx (pushC_e hk2)
  have h0 := cb h; clear h; rcases h0 with ⟨rfl, h⟩ | ⟨-, h⟩
  · split at h
    · have h0 := cb h; clear h; rcases h0 with ⟨rfl, h⟩ | ⟨-, h⟩
      · have h0 := chkK_e h; clear h; obtain ⟨h1, h⟩ := h0
        have h0 := inb_e h; clear h; obtain ⟨⟨h2, h3⟩, h⟩ := h0
        exact aw_iast hM hi h1 (lt h1 (by omega)) h2 h3 (nx h)
      · have h0 := cbF h; clear h; obtain ⟨rfl, h⟩ := h0
        have h0 := chkK_e h; clear h; obtain ⟨h1, h⟩ := h0
        have h0 := inb_e h; clear h; obtain ⟨⟨h2, h3⟩, h⟩ := h0
        have h0 := boolP_e h; clear h; obtain ⟨h4, h⟩ := h0
        exact aw_zast hM hi h1 rfl h2 h3 h4 (nx h)
    · have h0 := cbF h; clear h; obtain ⟨rfl, h⟩ := h0
      have h0 := chkK_e h; clear h; obtain ⟨h1, h⟩ := h0
      have h0 := inb_e h; clear h; obtain ⟨⟨h2, h3⟩, h⟩ := h0
      exact aw_last hM hi h1 rfl h2 h3 (nx h)
    · exact h.elim
  have h0 := cb h; clear h; rcases h0 with ⟨rfl, h⟩ | ⟨-, h⟩
  · split at h
    · rename_i w r s
      obtain ⟨t, x⟩ := w
      have h0 := cbF h; clear h; obtain ⟨e, h⟩ := h0
      dsimp only at e
      subst e
      have h0 := cT h; clear h; obtain ⟨h2, h⟩ := h0
      have h2 : a < 100 := Nat.le_of_ble_eq_true h2
      have h0 := chkK_e h; clear h; obtain ⟨h1, h⟩ := h0
      have h0 := cbN h; clear h; obtain ⟨h3, h⟩ := h0
      have ep : pfv (X2 σ) a b r x = X2 (st σ r b x) := by unfold pfv; rw [if_neg h3]; rfl
      have h0 := cb h; clear h; rcases h0 with ⟨h4, h⟩ | ⟨h4, h⟩
      · have h0 := boolP_e h; clear h; obtain ⟨h5, h⟩ := h0
        refine aw_putf hM hi h1 h2 (lt h1 (by omega)) (fun _ => h5) ?_
        rw [ep]; exact nx h
      · refine aw_putf hM hi h1 h2 (lt h1 (by omega)) (fun z => absurd z h4) ?_
        rw [ep]; exact nx h
    · exact h.elim
  have h0 := cb h; clear h; rcases h0 with ⟨rfl, h⟩ | ⟨-, h⟩
  · exact aw_lconst hM hi (nx h)
  have h0 := cb h; clear h; rcases h0 with ⟨rfl, h⟩ | ⟨-, h⟩
  · split at h
    · have h0 := nzP_e h; clear h; obtain ⟨h1, h⟩ := h0
      refine aw_div hM hi h1 ?_
      rcases beq0 c with ⟨q, e⟩ | ⟨q, e⟩
      · rw [e] at h; rw [if_pos q]; exact nx h
      · rw [e] at h; rw [if_neg q]; exact nx h
    · exact h.elim
  have h0 := cb h; clear h; rcases h0 with ⟨rfl, h⟩ | ⟨-, h⟩
  · split at h
    · refine aw_lbin hM hi ?_
      unfold binL
      repeat (rcases cb h with ⟨q, h⟩ | ⟨q, h⟩; · rw [if_pos q]; exact nx h
              rw [if_neg q])
      exact nx h
    · exact h.elim
  have h0 := cb h; clear h; rcases h0 with ⟨rfl, h⟩ | ⟨-, h⟩
  · split at h
    · have h0 := nzP_e h; clear h; obtain ⟨h1, h⟩ := h0
      refine aw_ldiv hM hi h1 ?_
      rcases beq0 c with ⟨q, e⟩ | ⟨q, e⟩
      · rw [e] at h; rw [if_pos q]; exact nx h
      · rw [e] at h; rw [if_neg q]; exact nx h
    · exact h.elim
  have h0 := cb h; clear h; rcases h0 with ⟨rfl, h⟩ | ⟨-, h⟩
  · split at h
    · refine aw_un hM hi ?_
      unfold unI
      repeat (rcases cb h with ⟨q, h⟩ | ⟨q, h⟩; · rw [if_pos q]; exact nx h
              rw [if_neg q])
      exact nx h
    · exact h.elim
  have h0 := cb h; clear h; rcases h0 with ⟨rfl, h⟩ | ⟨-, h⟩
  · split at h
    · exact aw_i2l hM hi (nx h)
    · exact h.elim
  have h0 := cb h; clear h; rcases h0 with ⟨rfl, h⟩ | ⟨-, h⟩
  · split at h
    · exact aw_l2i hM hi (nx h)
    · exact h.elim
  have h0 := cb h; clear h; rcases h0 with ⟨rfl, h⟩ | ⟨-, h⟩
  · split at h
    · exact aw_lneg hM hi (nx h)
    · exact h.elim
  have h0 := cb h; clear h; rcases h0 with ⟨rfl, h⟩ | ⟨-, h⟩
  · split at h
    · exact aw_lci hM hi (brc_mono h jp jp)
    · exact h.elim
  have h0 := cb h; clear h; rcases h0 with ⟨rfl, h⟩ | ⟨-, h⟩
  · split at h
    · exact aw_ifnull hM hi (brc_mono h jp nx)
    · exact h.elim
  have h0 := cb h; clear h; rcases h0 with ⟨rfl, h⟩ | ⟨-, h⟩
  · split at h
    · exact aw_acmp hM hi h.1.1 h.1.2 (brc_mono h.2 jp nx)
    · exact h.elim
  have h0 := cb h; clear h; rcases h0 with ⟨rfl, h⟩ | ⟨-, h⟩
  · split at h
    · refine aw_tsw hM hi (fun t ht => ?_)
      rw [← ht]
      exact jp (tsw_e tl v h)
    · exact h.elim
  have h0 := cb h; clear h; rcases h0 with ⟨rfl, h⟩ | ⟨-, h⟩
  · split at h
    · have h0 := cbF h; clear h; obtain ⟨h1, h⟩ := h0
      refine aw_lsw hM hi h1 (fun t ht => ?_)
      rw [← ht]
      exact jp (lswP_e tl h)
    · exact h.elim
  have h0 := cb h; clear h; rcases h0 with ⟨rfl, h⟩ | ⟨-, h⟩
  · exact aw_gets hM hi (nx h)
  have h0 := cb h; clear h; rcases h0 with ⟨rfl, h⟩ | ⟨-, h⟩
  · split at h
    · have h0 := cb h; clear h; rcases h0 with ⟨rfl, h⟩ | ⟨h9, h⟩
      · obtain ⟨rfl, h⟩ := h
        exact aw_alen hM hi (Or.inr ⟨rfl, rfl⟩) (nx h)
      · exact aw_alen hM hi (Or.inl ⟨h.1.1, h.1.2, lt rfl h.1.2, h9⟩) (nx h.2)
    · exact h.elim
  have h0 := cb h; clear h; rcases h0 with ⟨rfl, h⟩ | ⟨-, h⟩
  · split at h
    · have h0 := cbN h; clear h; obtain ⟨h1, h⟩ := h0
      exact aw_dup hM hi h1 (nx h)
    · exact h.elim
  have h0 := cb h; clear h; rcases h0 with ⟨rfl, h⟩ | ⟨-, h⟩
  · split at h
    · have h0 := cbN h; clear h; obtain ⟨h1, h⟩ := h0
      have h0 := cbN h; clear h; obtain ⟨h2, h⟩ := h0
      exact aw_dup2 hM hi h1 h2 (nx h)
    · exact h.elim
  have h0 := cb h; clear h; rcases h0 with ⟨rfl, h⟩ | ⟨-, h⟩
  · split at h
    · have h0 := cbN h; clear h; obtain ⟨h1, h⟩ := h0
      exact aw_pop hM hi h1 (nx h)
    · exact h.elim
  have h0 := cb h; clear h; rcases h0 with ⟨rfl, h⟩ | ⟨-, h⟩
  · split at h
    · have h0 := cT h; clear h; obtain ⟨hz, h⟩ := h0
      have hz := Nat.le_of_ble_eq_true hz
      have h0 := cT h; clear h; obtain ⟨h1, h⟩ := h0
      have h0 := chkK_e h; clear h; obtain ⟨h2, h⟩ := h0
      have h0 := chkK_e h; clear h; obtain ⟨h3, h⟩ := h0
      obtain ⟨⟨g1, g2, g3, g4, g5⟩, h⟩ := h
      refine aw_copy hM hi ?_ rfl g1 g2 g3 g4 g5 hz (nx h)
      simp only [Bool.or_eq_true] at h1
      rcases h1 with q | q
      · have q := Nat.eq_of_beq_eq_true q
        exact Or.inl ⟨by rw [h2, q], by rw [h3, q]⟩
      · have q := Nat.eq_of_beq_eq_true q
        exact Or.inr ⟨by rw [h2, q], by rw [h3, q]⟩
    · exact h.elim
  have h0 := cb h; clear h; rcases h0 with ⟨rfl, h⟩ | ⟨-, h⟩
  · split at h
    · obtain ⟨hz, h⟩ := cT h
      simp only [Bool.and_eq_true] at hz
      have hb : b < 2 := Nat.le_of_ble_eq_true hz.1
      refine aw_math2 hM hi hb (Nat.le_of_ble_eq_true hz.2) ?_
      rcases beq0 b with ⟨q, e⟩ | ⟨q, e⟩
      · rw [e] at h; rw [if_pos q]; exact nx h
      · rw [e] at h; rw [if_neg q]; exact nx h
    · obtain ⟨hz, h⟩ := cT h
      have hz := Nat.le_of_ble_eq_true hz
      rcases cb h with ⟨q, h⟩ | ⟨h2, h⟩
      · refine aw_math3 hM hi (Or.inl q) hz ?_
        rw [if_pos q]; exact nx h
      · rcases cb h with ⟨q, h⟩ | ⟨h3, h⟩
        · refine aw_math3 hM hi (Or.inr q) hz ?_
          rw [if_neg h2]; exact nx h
        · obtain ⟨h4, h⟩ := cT h
          simp only [Bool.and_eq_true] at h4
          refine aw_math1 hM hi (Nat.eq_of_beq_eq_true h4.1) ?_ (nx h)
          have := Nat.le_of_ble_eq_true h4.2
          show (if (1 : Nat) = 1 then 2 else 1) + szS _ ≤ 8
          rw [if_pos rfl]
          omega
    · obtain ⟨h4, h⟩ := cT h
      simp only [Bool.and_eq_true] at h4
      exact aw_math1 hM hi (Nat.eq_of_beq_eq_true h4.1) (Nat.le_of_ble_eq_true h4.2) (nx h)
    · exact h.elim
  have h0 := cbF h; clear h; obtain ⟨rfl, h⟩ := h0
  exact aw_null hM hi (nx h)
theorem wp_aw {M : MI} {cuts : List (Nat × List Nat)} {d : Nat} {K : Int → Mem → Prop} (hM : chkM M = true) (hA : ∀ a, a < 250 → okM (callee a)) : ∀ (n : Nat) (rest : List AI) (pos : Nat) (stk : List AV) (loc : Lo) (σ : Mem), rest = (mT M).drop pos → wp M cuts d K n rest pos stk loc σ → AW2 M (d + 1) pos stk loc σ K
  | 0, _, _, _, _, _, _, h => h.elim
  | n + 1, [], _, _, _, _, _, h => h.elim
  | n + 1, ai :: rest, pos, stk, loc, σ, hr, h => by
    have hi : (mT M)[pos]? = some ai := by
      have e : ((mT M).drop pos)[0]? = some ai := by rw [← hr]; rfl
      rw [List.getElem?_drop] at e
      simpa using e
    have hr2 : rest = (mT M).drop (pos + 1) := by
      have e : ((mT M).drop pos).drop 1 = rest := by rw [← hr]; rfl
      rw [List.drop_drop] at e
      exact e.symm
    refine stepP_aw hM hA hi hr2 (fun r q stk loc σ hrq hg => ?_) h
    split at hg
    · exact aw_sub pick_mem hg
    · exact wp_aw hM hA n r q stk loc σ hrq hg
end
section
set_option maxRecDepth 100000 in
def k_X_compareRows : List (Nat × List Nat) := [(20, [0, 1, 2, 3, 4, 5, 6, 7, 8, 10, 12, 13, 14]), (73, [0, 1, 2, 3, 4, 5, 6, 7, 8, 10, 12, 13, 14]), (76, [0, 1, 2, 3, 4, 5, 6, 7, 8, 10, 12, 13, 14]), (91, [0, 1, 2, 3, 4, 5, 7, 8, 10, 12, 13, 14]), (94, [0, 1, 2, 3, 4, 5, 7, 8, 10, 12, 13, 14]), (107, [0, 1, 2, 3, 4, 5, 6, 8, 10, 12, 13, 14]), (110, [0, 1, 2, 3, 4, 5, 6, 8, 10, 12, 13, 14]), (111, [0, 1, 2, 3, 4, 5, 6, 7, 8, 10, 12, 13, 14]), (119, [6, 7]), (128, [])]
set_option maxRecDepth 100000 in
theorem e_X_compareRows {d : Nat} {K : Int → Mem → Prop} {σ : Mem} {l0 l1 l2 l3 l4 l5 : Int} (h : r32 l1 → r32 l3 → r32 l5 → chkK l0 3 (chkK (ptr l0 6) 106 (inb l1 (sN (ptr l0 6)) (chkK l0 3 (chkK (ptr l0 7) 106 (inb l1 (sN (ptr l0 7)) (AW2 i_X_compareRows (d + 1) 20 [] [(0, (2, l0)), (1, (0, l1)), (2, (2, l2)), (3, (0, l3)), (4, (2, l4)), (5, (0, l5)), (6, (0, 0)), (7, (0, 0)), (8, (1, 0)), (10, (1, 0)), (12, (2, ptr (ptr l0 6) l1)), (13, (2, ptr (ptr l0 7) l1)), (14, (0, 0))] σ K))))))) : AM2 i_X_compareRows (d + 1) [(2, l0), (0, l1), (2, l2), (0, l3), (2, l4), (0, l5)] σ K := am_aw (okA 138 (Nat.le_of_ble_eq_true rfl)) (Nat.le_of_ble_eq_true rfl) rfl (fun hr => wp_aw (cuts := k_X_compareRows) ck_X_compareRows okA2 21 (mT i_X_compareRows) 0 _ _ _ rfl (h (hr (0, l1) (List.mem_of_getElem? (i := 1) rfl)) (hr (0, l3) (List.mem_of_getElem? (i := 3) rfl)) (hr (0, l5) (List.mem_of_getElem? (i := 5) rfl))))
set_option maxRecDepth 100000 in
theorem s_X_compareRows_20 {d : Nat} {K : Int → Mem → Prop} {σ : Mem} {l0 l1 l2 l3 l4 l5 l6 l7 l8 l10 l12 l13 l14 : Int} (h : chkK l0 3 (chkK (ptr l0 5) 100 (inb l1 (sN (ptr l0 5)) ((l14 < (σ (ptr l0 5) l1) → chkK l2 7 (chkK l12 100 (inb l14 (sN l12) (chkK (ptr l2 0) 101 (inb (w32 ((w32 (l3 * 8)) + (σ l12 l14))) (sN (ptr l2 0)) (chkK l4 7 (chkK l12 100 (inb l14 (sN l12) (chkK (ptr l4 0) 101 (inb (w32 ((w32 (l5 * 8)) + (σ l12 l14))) (sN (ptr l4 0)) (chkK l0 3 (chkK (ptr l0 5) 100 (inb l1 (sN (ptr l0 5)) (((w32 (l14 + 1)) = (σ (ptr l0 5) l1) → AW2 i_X_compareRows (d + 1) 73 [] [(0, (2, l0)), (1, (0, l1)), (2, (2, l2)), (3, (0, l3)), (4, (2, l4)), (5, (0, l5)), (6, (0, l6)), (7, (0, l7)), (8, (1, w64 (l8 + (σ (ptr l2 0) (w32 ((w32 (l3 * 8)) + (σ l12 l14))))))), (10, (1, w64 (l10 + (σ (ptr l4 0) (w32 ((w32 (l5 * 8)) + (σ l12 l14))))))), (12, (2, l12)), (13, (2, l13)), (14, (0, l14))] σ K) ∧ (¬ (w32 (l14 + 1)) = (σ (ptr l0 5) l1) → chkK l12 100 (inb (w32 (l14 + 1)) (sN l12) (chkK l13 100 (inb (σ l12 (w32 (l14 + 1))) (sN l13) (chkK l12 100 (inb l14 (sN l12) (chkK l13 100 (inb (σ l12 l14) (sN l13) (((σ l13 (σ l12 (w32 (l14 + 1)))) = (σ l13 (σ l12 l14)) → AW2 i_X_compareRows (d + 1) 76 [(0, 0)] [(0, (2, l0)), (1, (0, l1)), (2, (2, l2)), (3, (0, l3)), (4, (2, l4)), (5, (0, l5)), (6, (0, l6)), (7, (0, l7)), (8, (1, w64 (l8 + (σ (ptr l2 0) (w32 ((w32 (l3 * 8)) + (σ l12 l14))))))), (10, (1, w64 (l10 + (σ (ptr l4 0) (w32 ((w32 (l5 * 8)) + (σ l12 l14))))))), (12, (2, l12)), (13, (2, l13)), (14, (0, l14))] σ K) ∧ (¬ (σ l13 (σ l12 (w32 (l14 + 1)))) = (σ l13 (σ l12 l14)) → AW2 i_X_compareRows (d + 1) 73 [] [(0, (2, l0)), (1, (0, l1)), (2, (2, l2)), (3, (0, l3)), (4, (2, l4)), (5, (0, l5)), (6, (0, l6)), (7, (0, l7)), (8, (1, w64 (l8 + (σ (ptr l2 0) (w32 ((w32 (l3 * 8)) + (σ l12 l14))))))), (10, (1, w64 (l10 + (σ (ptr l4 0) (w32 ((w32 (l5 * 8)) + (σ l12 l14))))))), (12, (2, l12)), (13, (2, l13)), (14, (0, l14))] σ K)))))))))))))))))))))))) ∧ (¬ l14 < (σ (ptr l0 5) l1) → (l6 = 0 → AW2 i_X_compareRows (d + 1) 119 [] [(6, (0, l6)), (7, (0, l7))] σ K) ∧ (¬ l6 = 0 → (l7 = 0 → AW2 i_X_compareRows (d + 1) 119 [] [(6, (0, l6)), (7, (0, l7))] σ K) ∧ (¬ l7 = 0 → K 2 σ))))))) : AW2 i_X_compareRows (d + 1) 20 [] [(0, (2, l0)), (1, (0, l1)), (2, (2, l2)), (3, (0, l3)), (4, (2, l4)), (5, (0, l5)), (6, (0, l6)), (7, (0, l7)), (8, (1, l8)), (10, (1, l10)), (12, (2, l12)), (13, (2, l13)), (14, (0, l14))] σ K := wp_aw (cuts := k_X_compareRows) ck_X_compareRows okA2 55 ((mT i_X_compareRows).drop 20) 20 _ _ _ rfl h
set_option maxRecDepth 100000 in
theorem s_X_compareRows_73 {d : Nat} {K : Int → Mem → Prop} {σ : Mem} {l0 l1 l2 l3 l4 l5 l6 l7 l8 l10 l12 l13 l14 : Int} (h : AW2 i_X_compareRows (d + 1) 76 [(0, 1)] [(0, (2, l0)), (1, (0, l1)), (2, (2, l2)), (3, (0, l3)), (4, (2, l4)), (5, (0, l5)), (6, (0, l6)), (7, (0, l7)), (8, (1, l8)), (10, (1, l10)), (12, (2, l12)), (13, (2, l13)), (14, (0, l14))] σ K) : AW2 i_X_compareRows (d + 1) 73 [] [(0, (2, l0)), (1, (0, l1)), (2, (2, l2)), (3, (0, l3)), (4, (2, l4)), (5, (0, l5)), (6, (0, l6)), (7, (0, l7)), (8, (1, l8)), (10, (1, l10)), (12, (2, l12)), (13, (2, l13)), (14, (0, l14))] σ K := wp_aw (cuts := k_X_compareRows) ck_X_compareRows okA2 3 ((mT i_X_compareRows).drop 73) 73 _ _ _ rfl h
set_option maxRecDepth 100000 in
theorem s_X_compareRows_76 {d : Nat} {K : Int → Mem → Prop} {σ : Mem} {l0 l1 l2 l3 l4 l5 l6 l7 l8 l10 l12 l13 l14 s0 : Int} (h : (s0 = 0 → AW2 i_X_compareRows (d + 1) 111 [] [(0, (2, l0)), (1, (0, l1)), (2, (2, l2)), (3, (0, l3)), (4, (2, l4)), (5, (0, l5)), (6, (0, l6)), (7, (0, l7)), (8, (1, l8)), (10, (1, l10)), (12, (2, l12)), (13, (2, l13)), (14, (0, l14))] σ K) ∧ (¬ s0 = 0 → (l6 = 0 → chkK l4 7 (chkK l2 7 (((w64 (l10 * (σ l2 1))) < (w64 (l8 * (σ l4 1))) → AW2 i_X_compareRows (d + 1) 91 [] [(0, (2, l0)), (1, (0, l1)), (2, (2, l2)), (3, (0, l3)), (4, (2, l4)), (5, (0, l5)), (7, (0, l7)), (8, (1, l8)), (10, (1, l10)), (12, (2, l12)), (13, (2, l13)), (14, (0, l14))] σ K) ∧ (¬ (w64 (l10 * (σ l2 1))) < (w64 (l8 * (σ l4 1))) → AW2 i_X_compareRows (d + 1) 94 [(0, 0)] [(0, (2, l0)), (1, (0, l1)), (2, (2, l2)), (3, (0, l3)), (4, (2, l4)), (5, (0, l5)), (7, (0, l7)), (8, (1, l8)), (10, (1, l10)), (12, (2, l12)), (13, (2, l13)), (14, (0, l14))] σ K)))) ∧ (¬ l6 = 0 → AW2 i_X_compareRows (d + 1) 91 [] [(0, (2, l0)), (1, (0, l1)), (2, (2, l2)), (3, (0, l3)), (4, (2, l4)), (5, (0, l5)), (7, (0, l7)), (8, (1, l8)), (10, (1, l10)), (12, (2, l12)), (13, (2, l13)), (14, (0, l14))] σ K))) : AW2 i_X_compareRows (d + 1) 76 [(0, s0)] [(0, (2, l0)), (1, (0, l1)), (2, (2, l2)), (3, (0, l3)), (4, (2, l4)), (5, (0, l5)), (6, (0, l6)), (7, (0, l7)), (8, (1, l8)), (10, (1, l10)), (12, (2, l12)), (13, (2, l13)), (14, (0, l14))] σ K := wp_aw (cuts := k_X_compareRows) ck_X_compareRows okA2 16 ((mT i_X_compareRows).drop 76) 76 _ _ _ rfl h
set_option maxRecDepth 100000 in
theorem s_X_compareRows_91 {d : Nat} {K : Int → Mem → Prop} {σ : Mem} {l0 l1 l2 l3 l4 l5 l7 l8 l10 l12 l13 l14 : Int} (h : AW2 i_X_compareRows (d + 1) 94 [(0, 1)] [(0, (2, l0)), (1, (0, l1)), (2, (2, l2)), (3, (0, l3)), (4, (2, l4)), (5, (0, l5)), (7, (0, l7)), (8, (1, l8)), (10, (1, l10)), (12, (2, l12)), (13, (2, l13)), (14, (0, l14))] σ K) : AW2 i_X_compareRows (d + 1) 91 [] [(0, (2, l0)), (1, (0, l1)), (2, (2, l2)), (3, (0, l3)), (4, (2, l4)), (5, (0, l5)), (7, (0, l7)), (8, (1, l8)), (10, (1, l10)), (12, (2, l12)), (13, (2, l13)), (14, (0, l14))] σ K := wp_aw (cuts := k_X_compareRows) ck_X_compareRows okA2 3 ((mT i_X_compareRows).drop 91) 91 _ _ _ rfl h
set_option maxRecDepth 100000 in
theorem s_X_compareRows_94 {d : Nat} {K : Int → Mem → Prop} {σ : Mem} {l0 l1 l2 l3 l4 l5 l7 l8 l10 l12 l13 l14 s0 : Int} (h : (l7 = 0 → chkK l4 7 (chkK l2 7 (((w64 (l8 * (σ l4 1))) < (w64 (l10 * (σ l2 1))) → AW2 i_X_compareRows (d + 1) 107 [] [(0, (2, l0)), (1, (0, l1)), (2, (2, l2)), (3, (0, l3)), (4, (2, l4)), (5, (0, l5)), (6, (0, s0)), (8, (1, l8)), (10, (1, l10)), (12, (2, l12)), (13, (2, l13)), (14, (0, l14))] σ K) ∧ (¬ (w64 (l8 * (σ l4 1))) < (w64 (l10 * (σ l2 1))) → AW2 i_X_compareRows (d + 1) 110 [(0, 0)] [(0, (2, l0)), (1, (0, l1)), (2, (2, l2)), (3, (0, l3)), (4, (2, l4)), (5, (0, l5)), (6, (0, s0)), (8, (1, l8)), (10, (1, l10)), (12, (2, l12)), (13, (2, l13)), (14, (0, l14))] σ K)))) ∧ (¬ l7 = 0 → AW2 i_X_compareRows (d + 1) 107 [] [(0, (2, l0)), (1, (0, l1)), (2, (2, l2)), (3, (0, l3)), (4, (2, l4)), (5, (0, l5)), (6, (0, s0)), (8, (1, l8)), (10, (1, l10)), (12, (2, l12)), (13, (2, l13)), (14, (0, l14))] σ K)) : AW2 i_X_compareRows (d + 1) 94 [(0, s0)] [(0, (2, l0)), (1, (0, l1)), (2, (2, l2)), (3, (0, l3)), (4, (2, l4)), (5, (0, l5)), (7, (0, l7)), (8, (1, l8)), (10, (1, l10)), (12, (2, l12)), (13, (2, l13)), (14, (0, l14))] σ K := wp_aw (cuts := k_X_compareRows) ck_X_compareRows okA2 14 ((mT i_X_compareRows).drop 94) 94 _ _ _ rfl h
set_option maxRecDepth 100000 in
theorem s_X_compareRows_107 {d : Nat} {K : Int → Mem → Prop} {σ : Mem} {l0 l1 l2 l3 l4 l5 l6 l8 l10 l12 l13 l14 : Int} (h : AW2 i_X_compareRows (d + 1) 110 [(0, 1)] [(0, (2, l0)), (1, (0, l1)), (2, (2, l2)), (3, (0, l3)), (4, (2, l4)), (5, (0, l5)), (6, (0, l6)), (8, (1, l8)), (10, (1, l10)), (12, (2, l12)), (13, (2, l13)), (14, (0, l14))] σ K) : AW2 i_X_compareRows (d + 1) 107 [] [(0, (2, l0)), (1, (0, l1)), (2, (2, l2)), (3, (0, l3)), (4, (2, l4)), (5, (0, l5)), (6, (0, l6)), (8, (1, l8)), (10, (1, l10)), (12, (2, l12)), (13, (2, l13)), (14, (0, l14))] σ K := wp_aw (cuts := k_X_compareRows) ck_X_compareRows okA2 3 ((mT i_X_compareRows).drop 107) 107 _ _ _ rfl h
set_option maxRecDepth 100000 in
theorem s_X_compareRows_110 {d : Nat} {K : Int → Mem → Prop} {σ : Mem} {l0 l1 l2 l3 l4 l5 l6 l8 l10 l12 l13 l14 s0 : Int} (h : AW2 i_X_compareRows (d + 1) 111 [] [(0, (2, l0)), (1, (0, l1)), (2, (2, l2)), (3, (0, l3)), (4, (2, l4)), (5, (0, l5)), (6, (0, l6)), (7, (0, s0)), (8, (1, l8)), (10, (1, l10)), (12, (2, l12)), (13, (2, l13)), (14, (0, l14))] σ K) : AW2 i_X_compareRows (d + 1) 110 [(0, s0)] [(0, (2, l0)), (1, (0, l1)), (2, (2, l2)), (3, (0, l3)), (4, (2, l4)), (5, (0, l5)), (6, (0, l6)), (8, (1, l8)), (10, (1, l10)), (12, (2, l12)), (13, (2, l13)), (14, (0, l14))] σ K := wp_aw (cuts := k_X_compareRows) ck_X_compareRows okA2 2 ((mT i_X_compareRows).drop 110) 110 _ _ _ rfl h
set_option maxRecDepth 100000 in
theorem s_X_compareRows_111 {d : Nat} {K : Int → Mem → Prop} {σ : Mem} {l0 l1 l2 l3 l4 l5 l6 l7 l8 l10 l12 l13 l14 : Int} (h : AW2 i_X_compareRows (d + 1) 20 [] [(0, (2, l0)), (1, (0, l1)), (2, (2, l2)), (3, (0, l3)), (4, (2, l4)), (5, (0, l5)), (6, (0, l6)), (7, (0, l7)), (8, (1, l8)), (10, (1, l10)), (12, (2, l12)), (13, (2, l13)), (14, (0, w32 (l14 + 1)))] σ K) : AW2 i_X_compareRows (d + 1) 111 [] [(0, (2, l0)), (1, (0, l1)), (2, (2, l2)), (3, (0, l3)), (4, (2, l4)), (5, (0, l5)), (6, (0, l6)), (7, (0, l7)), (8, (1, l8)), (10, (1, l10)), (12, (2, l12)), (13, (2, l13)), (14, (0, l14))] σ K := wp_aw (cuts := k_X_compareRows) ck_X_compareRows okA2 3 ((mT i_X_compareRows).drop 111) 111 _ _ _ rfl h
set_option maxRecDepth 100000 in
theorem s_X_compareRows_119 {d : Nat} {K : Int → Mem → Prop} {σ : Mem} {l6 l7 : Int} (h : (l6 = 0 → (l7 = 0 → AW2 i_X_compareRows (d + 1) 128 [(0, 0)] [] σ K) ∧ (¬ l7 = 0 → AW2 i_X_compareRows (d + 1) 128 [(0, (-1))] [] σ K)) ∧ (¬ l6 = 0 → AW2 i_X_compareRows (d + 1) 128 [(0, 1)] [] σ K)) : AW2 i_X_compareRows (d + 1) 119 [] [(6, (0, l6)), (7, (0, l7))] σ K := wp_aw (cuts := k_X_compareRows) ck_X_compareRows okA2 7 ((mT i_X_compareRows).drop 119) 119 _ _ _ rfl h
set_option maxRecDepth 100000 in
theorem s_X_compareRows_128 {d : Nat} {K : Int → Mem → Prop} {σ : Mem} {s0 : Int} (h : K s0 σ) : AW2 i_X_compareRows (d + 1) 128 [(0, s0)] [] σ K := wp_aw (cuts := k_X_compareRows) ck_X_compareRows okA2 2 ((mT i_X_compareRows).drop 128) 128 _ _ _ rfl h
set_option maxRecDepth 100000 in
def k_M_readsList : List (Nat × List Nat) := [(13, [0, 1, 2, 3, 4]), (102, [0, 1, 3, 4, 5])]
set_option maxRecDepth 100000 in
theorem e_M_readsList {d : Nat} {K : Int → Mem → Prop} {σ : Mem} {l1 l2 : Int} (h : r32 l1 → r32 l2 → inb (w32 ((w32 (7 * l1)) + l2)) 42 (AW2 i_M_readsList (d + 1) 13 [] [(0, (2, 356)), (1, (0, l1)), (2, (0, l2)), (3, (0, w32 ((w32 (7 * l1)) + l2))), (4, (0, 0))] (st σ 362 (w32 ((w32 (7 * l1)) + l2)) 0) K)) : AM2 i_M_readsList (d + 1) [(2, 356), (0, l1), (0, l2)] σ K := am_aw (okA 156 (Nat.le_of_ble_eq_true rfl)) (Nat.le_of_ble_eq_true rfl) rfl (fun hr => wp_aw (cuts := k_M_readsList) ck_M_readsList okA2 14 (mT i_M_readsList) 0 _ _ _ rfl (h (hr (0, l1) (List.mem_of_getElem? (i := 1) rfl)) (hr (0, l2) (List.mem_of_getElem? (i := 2) rfl))))
set_option maxRecDepth 100000 in
theorem s_M_readsList_13 {d : Nat} {K : Int → Mem → Prop} {σ : Mem} {l1 l2 l3 l4 : Int} (h : (l4 < 8 → inb (w32 ((w32 (8 * l3)) + l4)) 336 (AW2 i_M_readsList (d + 1) 13 [] [(0, (2, 356)), (1, (0, l1)), (2, (0, l2)), (3, (0, l3)), (4, (0, w32 (l4 + 1)))] (st σ 364 (w32 ((w32 (8 * l3)) + l4)) ((-1))) K)) ∧ (¬ l4 < 8 → inb l3 42 (AM2 i_M_here d [(2, 356)] (st σ 361 l3 ((-1))) (fun w1 σ1 => (w1 = 42 → AM2 i_M_here d [(2, 356)] (st σ1 356 31 (w32 ((σ1 356 31) + 1))) (fun w2 σ2 => inb l1 6 (AM2 i_M_in d [(0, w32 (w2 - 97)), (0, 0), (0, w32 ((σ2 358 l1) - 1))] σ2 (fun w3 σ3 => (w3 = 0 → K 0 σ3) ∧ (¬ w3 = 0 → AM2 i_M_heldOf d [(2, 356), (0, l1), (0, w32 (w2 - 97)), (0, l2)] σ3 (fun w4 σ4 => inb (w32 ((w32 (8 * l1)) + (w32 (w2 - 97)))) 48 ((w4 < (σ4 360 (w32 ((w32 (8 * l1)) + (w32 (w2 - 97))))) → inb l3 42 (AM2 i_M_here d [(2, 356)] (st (st σ4 361 l3 (w32 (w2 - 97))) 356 31 (w32 (((st σ4 361 l3 (w32 (w2 - 97))) 356 31) + 1))) (fun w5 σ5 => (w5 = 45 → K 1 (st σ5 356 31 (w32 ((σ5 356 31) + 1)))) ∧ (¬ w5 = 45 → AW2 i_M_readsList (d + 1) 102 [] [(0, (2, 356)), (1, (0, l1)), (3, (0, l3)), (4, (0, 0)), (5, (0, 1))] σ5 K)))) ∧ (¬ w4 < (σ4 360 (w32 ((w32 (8 * l1)) + (w32 (w2 - 97))))) → K 0 σ4)))))))) ∧ (¬ w1 = 42 → AM2 i_M_here d [(2, 356)] σ1 (fun w6 σ6 => (w6 = 45 → K 1 (st σ6 356 31 (w32 ((σ6 356 31) + 1)))) ∧ (¬ w6 = 45 → AW2 i_M_readsList (d + 1) 102 [] [(0, (2, 356)), (1, (0, l1)), (3, (0, l3)), (4, (0, 0)), (5, (0, 1))] σ6 K))))))) : AW2 i_M_readsList (d + 1) 13 [] [(0, (2, 356)), (1, (0, l1)), (2, (0, l2)), (3, (0, l3)), (4, (0, l4))] σ K := wp_aw (cuts := k_M_readsList) ck_M_readsList okA2 71 ((mT i_M_readsList).drop 13) 13 _ _ _ rfl h
set_option maxRecDepth 100000 in
theorem s_M_readsList_102 {d : Nat} {K : Int → Mem → Prop} {σ : Mem} {l1 l3 l4 l5 : Int} (h : (l5 = 0 → K 1 σ) ∧ (¬ l5 = 0 → AM2 i_M_here d [(2, 356)] σ (fun w1 σ1 => inb l1 6 (AM2 i_M_in d [(0, w32 (w1 - 97)), (0, 0), (0, w32 ((σ1 358 l1) - 1))] σ1 (fun w2 σ2 => (w2 = 0 → K 0 σ2) ∧ (¬ w2 = 0 → inb (w32 ((w32 (8 * l3)) + (w32 (w1 - 97)))) 336 (((σ2 364 (w32 ((w32 (8 * l3)) + (w32 (w1 - 97))))) < 0 → inb (w32 ((w32 (8 * l3)) + (w32 (w1 - 97)))) 336 (inb l3 42 (inb (w32 ((w32 (8 * l3)) + ((st σ2 364 (w32 ((w32 (8 * l3)) + (w32 (w1 - 97)))) l4) 362 l3))) 336 (inb l3 42 (inb l3 42 (AM2 i_M_here d [(2, 356)] (st (st (st (st σ2 364 (w32 ((w32 (8 * l3)) + (w32 (w1 - 97)))) l4) 363 (w32 ((w32 (8 * l3)) + ((st σ2 364 (w32 ((w32 (8 * l3)) + (w32 (w1 - 97)))) l4) 362 l3))) (w32 (w1 - 97))) 362 l3 (w32 (((st (st σ2 364 (w32 ((w32 (8 * l3)) + (w32 (w1 - 97)))) l4) 363 (w32 ((w32 (8 * l3)) + ((st σ2 364 (w32 ((w32 (8 * l3)) + (w32 (w1 - 97)))) l4) 362 l3))) (w32 (w1 - 97))) 362 l3) + 1))) 356 31 (w32 (((st (st (st σ2 364 (w32 ((w32 (8 * l3)) + (w32 (w1 - 97)))) l4) 363 (w32 ((w32 (8 * l3)) + ((st σ2 364 (w32 ((w32 (8 * l3)) + (w32 (w1 - 97)))) l4) 362 l3))) (w32 (w1 - 97))) 362 l3 (w32 (((st (st σ2 364 (w32 ((w32 (8 * l3)) + (w32 (w1 - 97)))) l4) 363 (w32 ((w32 (8 * l3)) + ((st σ2 364 (w32 ((w32 (8 * l3)) + (w32 (w1 - 97)))) l4) 362 l3))) (w32 (w1 - 97))) 362 l3) + 1))) 356 31) + 1))) (fun w3 σ3 => (w3 = 62 → AM2 i_M_here d [(2, 356)] σ3 (fun w4 σ4 => (w4 = 62 → (1 = 0 → AW2 i_M_readsList (d + 1) 102 [] [(0, (2, 356)), (1, (0, l1)), (3, (0, l3)), (4, (0, w32 (l4 + 1))), (5, (0, 1))] (st σ4 356 31 (w32 ((σ4 356 31) + 0))) K) ∧ (¬ 1 = 0 → AW2 i_M_readsList (d + 1) 102 [] [(0, (2, 356)), (1, (0, l1)), (3, (0, l3)), (4, (0, w32 (l4 + 1))), (5, (0, 1))] (st σ4 356 31 (w32 ((σ4 356 31) + 1))) K)) ∧ (¬ w4 = 62 → (1 = 0 → AW2 i_M_readsList (d + 1) 102 [] [(0, (2, 356)), (1, (0, l1)), (3, (0, l3)), (4, (0, w32 (l4 + 0))), (5, (0, 1))] (st σ4 356 31 (w32 ((σ4 356 31) + 0))) K) ∧ (¬ 1 = 0 → AW2 i_M_readsList (d + 1) 102 [] [(0, (2, 356)), (1, (0, l1)), (3, (0, l3)), (4, (0, w32 (l4 + 0))), (5, (0, 1))] (st σ4 356 31 (w32 ((σ4 356 31) + 1))) K)))) ∧ (¬ w3 = 62 → AM2 i_M_here d [(2, 356)] σ3 (fun w5 σ5 => (w5 = 61 → AM2 i_M_here d [(2, 356)] σ5 (fun w6 σ6 => (w6 = 62 → (1 = 0 → AW2 i_M_readsList (d + 1) 102 [] [(0, (2, 356)), (1, (0, l1)), (3, (0, l3)), (4, (0, w32 (l4 + 1))), (5, (0, 1))] (st σ6 356 31 (w32 ((σ6 356 31) + 0))) K) ∧ (¬ 1 = 0 → AW2 i_M_readsList (d + 1) 102 [] [(0, (2, 356)), (1, (0, l1)), (3, (0, l3)), (4, (0, w32 (l4 + 1))), (5, (0, 1))] (st σ6 356 31 (w32 ((σ6 356 31) + 1))) K)) ∧ (¬ w6 = 62 → (1 = 0 → AW2 i_M_readsList (d + 1) 102 [] [(0, (2, 356)), (1, (0, l1)), (3, (0, l3)), (4, (0, w32 (l4 + 0))), (5, (0, 1))] (st σ6 356 31 (w32 ((σ6 356 31) + 0))) K) ∧ (¬ 1 = 0 → AW2 i_M_readsList (d + 1) 102 [] [(0, (2, 356)), (1, (0, l1)), (3, (0, l3)), (4, (0, w32 (l4 + 0))), (5, (0, 1))] (st σ6 356 31 (w32 ((σ6 356 31) + 1))) K)))) ∧ (¬ w5 = 61 → AM2 i_M_here d [(2, 356)] σ5 (fun w7 σ7 => (w7 = 62 → (0 = 0 → AW2 i_M_readsList (d + 1) 102 [] [(0, (2, 356)), (1, (0, l1)), (3, (0, l3)), (4, (0, w32 (l4 + 1))), (5, (0, 0))] (st σ7 356 31 (w32 ((σ7 356 31) + 0))) K) ∧ (¬ 0 = 0 → AW2 i_M_readsList (d + 1) 102 [] [(0, (2, 356)), (1, (0, l1)), (3, (0, l3)), (4, (0, w32 (l4 + 1))), (5, (0, 0))] (st σ7 356 31 (w32 ((σ7 356 31) + 1))) K)) ∧ (¬ w7 = 62 → (0 = 0 → AW2 i_M_readsList (d + 1) 102 [] [(0, (2, 356)), (1, (0, l1)), (3, (0, l3)), (4, (0, w32 (l4 + 0))), (5, (0, 0))] (st σ7 356 31 (w32 ((σ7 356 31) + 0))) K) ∧ (¬ 0 = 0 → AW2 i_M_readsList (d + 1) 102 [] [(0, (2, 356)), (1, (0, l1)), (3, (0, l3)), (4, (0, w32 (l4 + 0))), (5, (0, 0))] (st σ7 356 31 (w32 ((σ7 356 31) + 1))) K))))))))))))) ∧ (¬ (σ2 364 (w32 ((w32 (8 * l3)) + (w32 (w1 - 97))))) < 0 → K 0 σ2)))))))) : AW2 i_M_readsList (d + 1) 102 [] [(0, (2, 356)), (1, (0, l1)), (3, (0, l3)), (4, (0, l4)), (5, (0, l5))] σ K := wp_aw (cuts := k_M_readsList) ck_M_readsList okA2 92 ((mT i_M_readsList).drop 102) 102 _ _ _ rfl h
set_option maxRecDepth 100000 in
def k_M_runs : List (Nat × List Nat) := [(7, [0, 1, 2, 3, 4]), (29, [0, 1, 2, 3, 4]), (43, [0, 1, 2, 3, 4]), (55, [0, 1, 2, 3, 4]), (72, [0, 1, 2, 3, 4]), (73, [0, 1, 2, 3, 4]), (89, [0, 1, 2, 3, 4]), (151, [0, 1, 2, 3, 4])]
set_option maxRecDepth 100000 in
theorem e_M_runs {d : Nat} {K : Int → Mem → Prop} {σ : Mem} {l1 l2 : Int} (h : r32 l1 → r32 l2 → inb l1 6 (AW2 i_M_runs (d + 1) 7 [] [(0, (2, 356)), (1, (0, l1)), (2, (0, l2)), (3, (0, σ 357 l1)), (4, (0, 0))] σ K)) : AM2 i_M_runs (d + 1) [(2, 356), (0, l1), (0, l2)] σ K := am_aw (okA 169 (Nat.le_of_ble_eq_true rfl)) (Nat.le_of_ble_eq_true rfl) rfl (fun hr => wp_aw (cuts := k_M_runs) ck_M_runs okA2 8 (mT i_M_runs) 0 _ _ _ rfl (h (hr (0, l1) (List.mem_of_getElem? (i := 1) rfl)) (hr (0, l2) (List.mem_of_getElem? (i := 2) rfl))))
set_option maxRecDepth 100000 in
theorem s_M_runs_7 {d : Nat} {K : Int → Mem → Prop} {σ : Mem} {l1 l2 l3 l4 : Int} (h : inb l1 6 ((l4 < (σ 358 l1) → inb (w32 ((w32 (8 * l1)) + l4)) 48 (inb l4 8 (AW2 i_M_runs (d + 1) 7 [] [(0, (2, 356)), (1, (0, l1)), (2, (0, l2)), (3, (0, l3)), (4, (0, w32 (l4 + 1)))] (st σ 381 l4 (σ 360 (w32 ((w32 (8 * l1)) + l4)))) K))) ∧ (¬ l4 < (σ 358 l1) → AW2 i_M_runs (d + 1) 29 [] [(0, (2, 356)), (1, (0, l1)), (2, (0, l2)), (3, (0, l3)), (4, (0, 0))] σ K))) : AW2 i_M_runs (d + 1) 7 [] [(0, (2, 356)), (1, (0, l1)), (2, (0, l2)), (3, (0, l3)), (4, (0, l4))] σ K := wp_aw (cuts := k_M_runs) ck_M_runs okA2 21 ((mT i_M_runs).drop 7) 7 _ _ _ rfl h
set_option maxRecDepth 100000 in
theorem s_M_runs_29 {d : Nat} {K : Int → Mem → Prop} {σ : Mem} {l1 l2 l3 l4 : Int} (h : (l4 < (w32 (8 * l3)) → inb l4 56 (AW2 i_M_runs (d + 1) 29 [] [(0, (2, 356)), (1, (0, l1)), (2, (0, l2)), (3, (0, l3)), (4, (0, w32 (l4 + 1)))] (st σ 380 l4 0) K)) ∧ (¬ l4 < (w32 (8 * l3)) → AW2 i_M_runs (d + 1) 43 [] [(0, (2, 356)), (1, (0, l1)), (2, (0, l2)), (3, (0, l3)), (4, (0, 0))] σ K)) : AW2 i_M_runs (d + 1) 29 [] [(0, (2, 356)), (1, (0, l1)), (2, (0, l2)), (3, (0, l3)), (4, (0, l4))] σ K := wp_aw (cuts := k_M_runs) ck_M_runs okA2 13 ((mT i_M_runs).drop 29) 29 _ _ _ rfl h
set_option maxRecDepth 100000 in
theorem s_M_runs_43 {d : Nat} {K : Int → Mem → Prop} {σ : Mem} {l1 l2 l3 l4 : Int} (h : (l4 < l3 → inb l4 7 (AW2 i_M_runs (d + 1) 43 [] [(0, (2, 356)), (1, (0, l1)), (2, (0, l2)), (3, (0, l3)), (4, (0, w32 (l4 + 1)))] (st σ 384 l4 0) K)) ∧ (¬ l4 < l3 → AW2 i_M_runs (d + 1) 55 [] [(0, (2, 356)), (1, (0, l1)), (2, (0, l2)), (3, (0, l3)), (4, (0, 0))] σ K)) : AW2 i_M_runs (d + 1) 43 [] [(0, (2, 356)), (1, (0, l1)), (2, (0, l2)), (3, (0, l3)), (4, (0, l4))] σ K := wp_aw (cuts := k_M_runs) ck_M_runs okA2 11 ((mT i_M_runs).drop 43) 43 _ _ _ rfl h
set_option maxRecDepth 100000 in
theorem s_M_runs_55 {d : Nat} {K : Int → Mem → Prop} {σ : Mem} {l1 l2 l3 l4 : Int} (h : inb l1 6 ((l4 < (w32 ((σ 359 l1) * l3)) → (l2 = 0 → AW2 i_M_runs (d + 1) 72 [] [(0, (2, 356)), (1, (0, l1)), (2, (0, l2)), (3, (0, l3)), (4, (0, l4))] σ K) ∧ (¬ l2 = 0 → nzP l3 (((divI l4 l3) = 1 → AW2 i_M_runs (d + 1) 73 [(0, 1)] [(0, (2, 356)), (1, (0, l1)), (2, (0, l2)), (3, (0, l3)), (4, (0, l4))] σ K) ∧ (¬ (divI l4 l3) = 1 → AW2 i_M_runs (d + 1) 72 [] [(0, (2, 356)), (1, (0, l1)), (2, (0, l2)), (3, (0, l3)), (4, (0, l4))] σ K)))) ∧ (¬ l4 < (w32 ((σ 359 l1) * l3)) → K 0 σ))) : AW2 i_M_runs (d + 1) 55 [] [(0, (2, 356)), (1, (0, l1)), (2, (0, l2)), (3, (0, l3)), (4, (0, l4))] σ K := wp_aw (cuts := k_M_runs) ck_M_runs okA2 18 ((mT i_M_runs).drop 55) 55 _ _ _ rfl h
set_option maxRecDepth 100000 in
theorem s_M_runs_72 {d : Nat} {K : Int → Mem → Prop} {σ : Mem} {l1 l2 l3 l4 : Int} (h : AW2 i_M_runs (d + 1) 73 [(0, 0)] [(0, (2, 356)), (1, (0, l1)), (2, (0, l2)), (3, (0, l3)), (4, (0, l4))] σ K) : AW2 i_M_runs (d + 1) 72 [] [(0, (2, 356)), (1, (0, l1)), (2, (0, l2)), (3, (0, l3)), (4, (0, l4))] σ K := wp_aw (cuts := k_M_runs) ck_M_runs okA2 2 ((mT i_M_runs).drop 72) 72 _ _ _ rfl h
set_option maxRecDepth 100000 in
theorem s_M_runs_73 {d : Nat} {K : Int → Mem → Prop} {σ : Mem} {l1 l2 l3 l4 s0 : Int} (h : (s0 = 0 → nzP l3 (AW2 i_M_runs (d + 1) 89 [(0, remI l4 l3), (2, 379)] [(0, (2, 356)), (1, (0, l1)), (2, (0, l2)), (3, (0, l3)), (4, (0, l4))] σ K)) ∧ (¬ s0 = 0 → nzP l3 (AW2 i_M_runs (d + 1) 89 [(0, w32 ((w32 (l3 - 1)) - (remI l4 l3))), (2, 379)] [(0, (2, 356)), (1, (0, l1)), (2, (0, l2)), (3, (0, l3)), (4, (0, l4))] σ K))) : AW2 i_M_runs (d + 1) 73 [(0, s0)] [(0, (2, 356)), (1, (0, l1)), (2, (0, l2)), (3, (0, l3)), (4, (0, l4))] σ K := wp_aw (cuts := k_M_runs) ck_M_runs okA2 14 ((mT i_M_runs).drop 73) 73 _ _ _ rfl h
set_option maxRecDepth 100000 in
theorem s_M_runs_89 {d : Nat} {K : Int → Mem → Prop} {σ : Mem} {l1 l2 l3 l4 s0 s1 : Int} (h : chkK s1 100 (inb s0 (sN s1) (AM2 i_M_firstLeft d [(2, 356), (0, l1), (0, σ s1 s0)] σ (fun w1 σ1 => (w1 = ((-2)) → AW2 i_M_runs (d + 1) 151 [] [(0, (2, 356)), (1, (0, l1)), (2, (0, l2)), (3, (0, l3)), (4, (0, l4))] σ1 K) ∧ (¬ w1 = ((-2)) → inb w1 8 (inb w1 8 (inb (w32 ((w32 (8 * (σ s1 s0))) + w1)) 56 (inb (w32 ((w32 (8 * (σ s1 s0))) + w1)) 56 (inb (σ s1 s0) 7 (inb (w32 ((w32 (3 * (σ s1 s0))) + ((st (st σ1 381 w1 (w32 ((σ1 381 w1) - 1))) 380 (w32 ((w32 (8 * (σ s1 s0))) + w1)) (w32 (((st σ1 381 w1 (w32 ((σ1 381 w1) - 1))) 380 (w32 ((w32 (8 * (σ s1 s0))) + w1))) + 1))) 384 (σ s1 s0)))) 21 (inb (σ s1 s0) 7 (inb (w32 ((w32 (3 * (σ s1 s0))) + ((st (st (st σ1 381 w1 (w32 ((σ1 381 w1) - 1))) 380 (w32 ((w32 (8 * (σ s1 s0))) + w1)) (w32 (((st σ1 381 w1 (w32 ((σ1 381 w1) - 1))) 380 (w32 ((w32 (8 * (σ s1 s0))) + w1))) + 1))) 382 (w32 ((w32 (3 * (σ s1 s0))) + ((st (st σ1 381 w1 (w32 ((σ1 381 w1) - 1))) 380 (w32 ((w32 (8 * (σ s1 s0))) + w1)) (w32 (((st σ1 381 w1 (w32 ((σ1 381 w1) - 1))) 380 (w32 ((w32 (8 * (σ s1 s0))) + w1))) + 1))) 384 (σ s1 s0)))) l4) 384 (σ s1 s0)))) 21 (inb (σ s1 s0) 7 (inb (σ s1 s0) 7 (AW2 i_M_runs (d + 1) 151 [] [(0, (2, 356)), (1, (0, l1)), (2, (0, l2)), (3, (0, l3)), (4, (0, l4))] (st (st (st (st (st σ1 381 w1 (w32 ((σ1 381 w1) - 1))) 380 (w32 ((w32 (8 * (σ s1 s0))) + w1)) (w32 (((st σ1 381 w1 (w32 ((σ1 381 w1) - 1))) 380 (w32 ((w32 (8 * (σ s1 s0))) + w1))) + 1))) 382 (w32 ((w32 (3 * (σ s1 s0))) + ((st (st σ1 381 w1 (w32 ((σ1 381 w1) - 1))) 380 (w32 ((w32 (8 * (σ s1 s0))) + w1)) (w32 (((st σ1 381 w1 (w32 ((σ1 381 w1) - 1))) 380 (w32 ((w32 (8 * (σ s1 s0))) + w1))) + 1))) 384 (σ s1 s0)))) l4) 383 (w32 ((w32 (3 * (σ s1 s0))) + ((st (st (st σ1 381 w1 (w32 ((σ1 381 w1) - 1))) 380 (w32 ((w32 (8 * (σ s1 s0))) + w1)) (w32 (((st σ1 381 w1 (w32 ((σ1 381 w1) - 1))) 380 (w32 ((w32 (8 * (σ s1 s0))) + w1))) + 1))) 382 (w32 ((w32 (3 * (σ s1 s0))) + ((st (st σ1 381 w1 (w32 ((σ1 381 w1) - 1))) 380 (w32 ((w32 (8 * (σ s1 s0))) + w1)) (w32 (((st σ1 381 w1 (w32 ((σ1 381 w1) - 1))) 380 (w32 ((w32 (8 * (σ s1 s0))) + w1))) + 1))) 384 (σ s1 s0)))) l4) 384 (σ s1 s0)))) w1) 384 (σ s1 s0) (w32 (((st (st (st (st σ1 381 w1 (w32 ((σ1 381 w1) - 1))) 380 (w32 ((w32 (8 * (σ s1 s0))) + w1)) (w32 (((st σ1 381 w1 (w32 ((σ1 381 w1) - 1))) 380 (w32 ((w32 (8 * (σ s1 s0))) + w1))) + 1))) 382 (w32 ((w32 (3 * (σ s1 s0))) + ((st (st σ1 381 w1 (w32 ((σ1 381 w1) - 1))) 380 (w32 ((w32 (8 * (σ s1 s0))) + w1)) (w32 (((st σ1 381 w1 (w32 ((σ1 381 w1) - 1))) 380 (w32 ((w32 (8 * (σ s1 s0))) + w1))) + 1))) 384 (σ s1 s0)))) l4) 383 (w32 ((w32 (3 * (σ s1 s0))) + ((st (st (st σ1 381 w1 (w32 ((σ1 381 w1) - 1))) 380 (w32 ((w32 (8 * (σ s1 s0))) + w1)) (w32 (((st σ1 381 w1 (w32 ((σ1 381 w1) - 1))) 380 (w32 ((w32 (8 * (σ s1 s0))) + w1))) + 1))) 382 (w32 ((w32 (3 * (σ s1 s0))) + ((st (st σ1 381 w1 (w32 ((σ1 381 w1) - 1))) 380 (w32 ((w32 (8 * (σ s1 s0))) + w1)) (w32 (((st σ1 381 w1 (w32 ((σ1 381 w1) - 1))) 380 (w32 ((w32 (8 * (σ s1 s0))) + w1))) + 1))) 384 (σ s1 s0)))) l4) 384 (σ s1 s0)))) w1) 384 (σ s1 s0)) + 1))) K))))))))))))))) : AW2 i_M_runs (d + 1) 89 [(0, s0), (2, s1)] [(0, (2, 356)), (1, (0, l1)), (2, (0, l2)), (3, (0, l3)), (4, (0, l4))] σ K := wp_aw (cuts := k_M_runs) ck_M_runs okA2 63 ((mT i_M_runs).drop 89) 89 _ _ _ rfl h
set_option maxRecDepth 100000 in
theorem s_M_runs_151 {d : Nat} {K : Int → Mem → Prop} {σ : Mem} {l1 l2 l3 l4 : Int} (h : AW2 i_M_runs (d + 1) 55 [] [(0, (2, 356)), (1, (0, l1)), (2, (0, l2)), (3, (0, l3)), (4, (0, w32 (l4 + 1)))] σ K) : AW2 i_M_runs (d + 1) 151 [] [(0, (2, 356)), (1, (0, l1)), (2, (0, l2)), (3, (0, l3)), (4, (0, l4))] σ K := wp_aw (cuts := k_M_runs) ck_M_runs okA2 3 ((mT i_M_runs).drop 151) 151 _ _ _ rfl h
end
