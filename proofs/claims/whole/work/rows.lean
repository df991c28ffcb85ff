section
-- ===== PART A: goes FIRST, ahead of the names: the tables' words, and 'selects' of the private methods out of them =====
/-- a private method of a class that the tables say can be made, by its rows of tables_1 -/
def lw_okq (q : MethodName × Nat) : Prop := (q.1.cls ≠ "java/lang/invoke/MethodHandle" ∧ q.1.cls ≠ "java/lang/invoke/VarHandle") ∧ Cond.instantiable q.1.cls q.2 ∈ tables_1 ∧ Cond.privateMethod q.1 ∈ tables_1 ∧ Cond.instanceMethod q.1 ∈ tables_1
theorem lw_p0 : lw_okq (⟨"LetterEnds", "refuse", "(I)I"⟩, 15) := ⟨⟨by decide +kernel, by decide +kernel⟩, List.mem_of_getElem? (i := 15) (by decide +kernel), List.mem_of_getElem? (i := 305) (by decide +kernel), List.mem_of_getElem? (i := 306) (by decide +kernel)⟩
theorem lw_p1 : lw_okq (⟨"LetterEnds", "tell", "(I)I"⟩, 15) := ⟨⟨by decide +kernel, by decide +kernel⟩, List.mem_of_getElem? (i := 15) (by decide +kernel), List.mem_of_getElem? (i := 325) (by decide +kernel), List.mem_of_getElem? (i := 326) (by decide +kernel)⟩
theorem lw_p2 : lw_okq (⟨"LetterEnds$Reader", "itemFault", "(LLetterEnds$Strip;I)I"⟩, 1) := ⟨⟨by decide +kernel, by decide +kernel⟩, List.mem_of_getElem? (i := 78) (by decide +kernel), List.mem_of_getElem? (i := 379) (by decide +kernel), List.mem_of_getElem? (i := 380) (by decide +kernel)⟩
theorem lw_p3 : lw_okq (⟨"LetterEnds$Reader", "houseFault", "(LLetterEnds$Strip;I)I"⟩, 1) := ⟨⟨by decide +kernel, by decide +kernel⟩, List.mem_of_getElem? (i := 78) (by decide +kernel), List.mem_of_getElem? (i := 383) (by decide +kernel), List.mem_of_getElem? (i := 384) (by decide +kernel)⟩
theorem lw_p4 : lw_okq (⟨"LetterEnds$Reader", "letterFault", "(LLetterEnds$Strip;I)I"⟩, 1) := ⟨⟨by decide +kernel, by decide +kernel⟩, List.mem_of_getElem? (i := 78) (by decide +kernel), List.mem_of_getElem? (i := 391) (by decide +kernel), List.mem_of_getElem? (i := 392) (by decide +kernel)⟩
theorem lw_p5 : lw_okq (⟨"LetterEnds$Reader", "postmanFault", "(LLetterEnds$Strip;I)I"⟩, 1) := ⟨⟨by decide +kernel, by decide +kernel⟩, List.mem_of_getElem? (i := 78) (by decide +kernel), List.mem_of_getElem? (i := 400) (by decide +kernel), List.mem_of_getElem? (i := 401) (by decide +kernel)⟩
theorem lw_p6 : lw_okq (⟨"LetterEnds", "isHouse", "(I)Z"⟩, 15) := ⟨⟨by decide +kernel, by decide +kernel⟩, List.mem_of_getElem? (i := 15) (by decide +kernel), List.mem_of_getElem? (i := 422) (by decide +kernel), List.mem_of_getElem? (i := 423) (by decide +kernel)⟩
theorem lw_p7 : lw_okq (⟨"LetterEnds", "ofHouse", "(II)I"⟩, 15) := ⟨⟨by decide +kernel, by decide +kernel⟩, List.mem_of_getElem? (i := 15) (by decide +kernel), List.mem_of_getElem? (i := 426) (by decide +kernel), List.mem_of_getElem? (i := 427) (by decide +kernel)⟩
theorem lw_p8 : lw_okq (⟨"LetterEnds", "isLetter", "(I)Z"⟩, 15) := ⟨⟨by decide +kernel, by decide +kernel⟩, List.mem_of_getElem? (i := 15) (by decide +kernel), List.mem_of_getElem? (i := 441) (by decide +kernel), List.mem_of_getElem? (i := 442) (by decide +kernel)⟩
theorem lw_p9 : lw_okq (⟨"LetterEnds", "ofLetter", "(II)I"⟩, 15) := ⟨⟨by decide +kernel, by decide +kernel⟩, List.mem_of_getElem? (i := 15) (by decide +kernel), List.mem_of_getElem? (i := 445) (by decide +kernel), List.mem_of_getElem? (i := 446) (by decide +kernel)⟩
theorem lw_p10 : lw_okq (⟨"LetterEnds", "arrivingWith", "(II)I"⟩, 15) := ⟨⟨by decide +kernel, by decide +kernel⟩, List.mem_of_getElem? (i := 15) (by decide +kernel), List.mem_of_getElem? (i := 453) (by decide +kernel), List.mem_of_getElem? (i := 454) (by decide +kernel)⟩
theorem lw_p11 : lw_okq (⟨"LetterEnds", "isPosted", "()Z"⟩, 15) := ⟨⟨by decide +kernel, by decide +kernel⟩, List.mem_of_getElem? (i := 15) (by decide +kernel), List.mem_of_getElem? (i := 534) (by decide +kernel), List.mem_of_getElem? (i := 535) (by decide +kernel)⟩
theorem lw_p12 : lw_okq (⟨"LetterEnds$Orders", "tryWarmer", "(IIIII)V"⟩, 7) := ⟨⟨by decide +kernel, by decide +kernel⟩, List.mem_of_getElem? (i := 152) (by decide +kernel), List.mem_of_getElem? (i := 604) (by decide +kernel), List.mem_of_getElem? (i := 605) (by decide +kernel)⟩
theorem lw_p13 : lw_okq (⟨"LetterEnds$Orders", "reaches", "(IIIIII)Z"⟩, 7) := ⟨⟨by decide +kernel, by decide +kernel⟩, List.mem_of_getElem? (i := 152) (by decide +kernel), List.mem_of_getElem? (i := 627) (by decide +kernel), List.mem_of_getElem? (i := 628) (by decide +kernel)⟩
theorem lw_p14 : lw_okq (⟨"LetterEnds", "wrongLetters", "(LLetterEnds$Strip;I)I"⟩, 15) := ⟨⟨by decide +kernel, by decide +kernel⟩, List.mem_of_getElem? (i := 15) (by decide +kernel), List.mem_of_getElem? (i := 636) (by decide +kernel), List.mem_of_getElem? (i := 637) (by decide +kernel)⟩
theorem lw_p15 : lw_okq (⟨"LetterEnds", "tellPart", "(JJ)I"⟩, 15) := ⟨⟨by decide +kernel, by decide +kernel⟩, List.mem_of_getElem? (i := 15) (by decide +kernel), List.mem_of_getElem? (i := 685) (by decide +kernel), List.mem_of_getElem? (i := 686) (by decide +kernel)⟩
def lw_privs_1 : List (MethodName × Nat) := [(⟨"LetterEnds", "refuse", "(I)I"⟩, 15), (⟨"LetterEnds", "tell", "(I)I"⟩, 15), (⟨"LetterEnds$Reader", "itemFault", "(LLetterEnds$Strip;I)I"⟩, 1), (⟨"LetterEnds$Reader", "houseFault", "(LLetterEnds$Strip;I)I"⟩, 1), (⟨"LetterEnds$Reader", "letterFault", "(LLetterEnds$Strip;I)I"⟩, 1), (⟨"LetterEnds$Reader", "postmanFault", "(LLetterEnds$Strip;I)I"⟩, 1), (⟨"LetterEnds", "isHouse", "(I)Z"⟩, 15), (⟨"LetterEnds", "ofHouse", "(II)I"⟩, 15), (⟨"LetterEnds", "isLetter", "(I)Z"⟩, 15), (⟨"LetterEnds", "ofLetter", "(II)I"⟩, 15), (⟨"LetterEnds", "arrivingWith", "(II)I"⟩, 15), (⟨"LetterEnds", "isPosted", "()Z"⟩, 15), (⟨"LetterEnds$Orders", "tryWarmer", "(IIIII)V"⟩, 7), (⟨"LetterEnds$Orders", "reaches", "(IIIIII)Z"⟩, 7), (⟨"LetterEnds", "wrongLetters", "(LLetterEnds$Strip;I)I"⟩, 15), (⟨"LetterEnds", "tellPart", "(JJ)I"⟩, 15)]
theorem lw_r1 : ∀ q ∈ lw_privs_1, lw_okq q := List.forall_mem_cons.mpr ⟨lw_p0, List.forall_mem_cons.mpr ⟨lw_p1, List.forall_mem_cons.mpr ⟨lw_p2, List.forall_mem_cons.mpr ⟨lw_p3, List.forall_mem_cons.mpr ⟨lw_p4, List.forall_mem_cons.mpr ⟨lw_p5, List.forall_mem_cons.mpr ⟨lw_p6, List.forall_mem_cons.mpr ⟨lw_p7, List.forall_mem_cons.mpr ⟨lw_p8, List.forall_mem_cons.mpr ⟨lw_p9, List.forall_mem_cons.mpr ⟨lw_p10, List.forall_mem_cons.mpr ⟨lw_p11, List.forall_mem_cons.mpr ⟨lw_p12, List.forall_mem_cons.mpr ⟨lw_p13, List.forall_mem_cons.mpr ⟨lw_p14, List.forall_mem_cons.mpr ⟨lw_p15, fun _ h => absurd h List.not_mem_nil⟩⟩⟩⟩⟩⟩⟩⟩⟩⟩⟩⟩⟩⟩⟩⟩
theorem lw_p16 : lw_okq (⟨"LetterEnds$Orders", "settled", "(IIIII)I"⟩, 7) := ⟨⟨by decide +kernel, by decide +kernel⟩, List.mem_of_getElem? (i := 152) (by decide +kernel), List.mem_of_getElem? (i := 704) (by decide +kernel), List.mem_of_getElem? (i := 705) (by decide +kernel)⟩
theorem lw_p17 : lw_okq (⟨"LetterEnds$Lifts", "weigh", "(IIIIJ)V"⟩, 9) := ⟨⟨by decide +kernel, by decide +kernel⟩, List.mem_of_getElem? (i := 182) (by decide +kernel), List.mem_of_getElem? (i := 719) (by decide +kernel), List.mem_of_getElem? (i := 720) (by decide +kernel)⟩
theorem lw_p18 : lw_okq (⟨"LetterEnds", "performLot", "(I)V"⟩, 15) := ⟨⟨by decide +kernel, by decide +kernel⟩, List.mem_of_getElem? (i := 15) (by decide +kernel), List.mem_of_getElem? (i := 737) (by decide +kernel), List.mem_of_getElem? (i := 738) (by decide +kernel)⟩
theorem lw_p19 : lw_okq (⟨"LetterEnds", "countOf", "(I)I"⟩, 15) := ⟨⟨by decide +kernel, by decide +kernel⟩, List.mem_of_getElem? (i := 15) (by decide +kernel), List.mem_of_getElem? (i := 761) (by decide +kernel), List.mem_of_getElem? (i := 762) (by decide +kernel)⟩
theorem lw_p20 : lw_okq (⟨"LetterEnds", "howManyKept", "()I"⟩, 15) := ⟨⟨by decide +kernel, by decide +kernel⟩, List.mem_of_getElem? (i := 15) (by decide +kernel), List.mem_of_getElem? (i := 773) (by decide +kernel), List.mem_of_getElem? (i := 774) (by decide +kernel)⟩
theorem lw_p21 : lw_okq (⟨"LetterEndsModel", "find", "(I)I"⟩, 27) := ⟨⟨by decide +kernel, by decide +kernel⟩, List.mem_of_getElem? (i := 796) (by decide +kernel), List.mem_of_getElem? (i := 895) (by decide +kernel), List.mem_of_getElem? (i := 896) (by decide +kernel)⟩
theorem lw_p22 : lw_okq (⟨"LetterEndsModel", "makeRow", "(II)V"⟩, 27) := ⟨⟨by decide +kernel, by decide +kernel⟩, List.mem_of_getElem? (i := 796) (by decide +kernel), List.mem_of_getElem? (i := 899) (by decide +kernel), List.mem_of_getElem? (i := 900) (by decide +kernel)⟩
theorem lw_p23 : lw_okq (⟨"LetterEndsModel", "refused", "(II)I"⟩, 27) := ⟨⟨by decide +kernel, by decide +kernel⟩, List.mem_of_getElem? (i := 796) (by decide +kernel), List.mem_of_getElem? (i := 907) (by decide +kernel), List.mem_of_getElem? (i := 908) (by decide +kernel)⟩
theorem lw_p24 : lw_okq (⟨"LetterEndsModel", "tell", "(I)I"⟩, 27) := ⟨⟨by decide +kernel, by decide +kernel⟩, List.mem_of_getElem? (i := 796) (by decide +kernel), List.mem_of_getElem? (i := 911) (by decide +kernel), List.mem_of_getElem? (i := 912) (by decide +kernel)⟩
theorem lw_p25 : lw_okq (⟨"LetterEndsModel", "isSpan", "(III)Z"⟩, 27) := ⟨⟨by decide +kernel, by decide +kernel⟩, List.mem_of_getElem? (i := 796) (by decide +kernel), List.mem_of_getElem? (i := 927) (by decide +kernel), List.mem_of_getElem? (i := 928) (by decide +kernel)⟩
theorem lw_p26 : lw_okq (⟨"LetterEndsModel", "faultOf", "(I)I"⟩, 27) := ⟨⟨by decide +kernel, by decide +kernel⟩, List.mem_of_getElem? (i := 796) (by decide +kernel), List.mem_of_getElem? (i := 951) (by decide +kernel), List.mem_of_getElem? (i := 952) (by decide +kernel)⟩
theorem lw_p27 : lw_okq (⟨"LetterEndsModel", "readsHead", "()Z"⟩, 27) := ⟨⟨by decide +kernel, by decide +kernel⟩, List.mem_of_getElem? (i := 796) (by decide +kernel), List.mem_of_getElem? (i := 955) (by decide +kernel), List.mem_of_getElem? (i := 956) (by decide +kernel)⟩
theorem lw_p28 : lw_okq (⟨"LetterEndsModel", "skip", "()V"⟩, 27) := ⟨⟨by decide +kernel, by decide +kernel⟩, List.mem_of_getElem? (i := 796) (by decide +kernel), List.mem_of_getElem? (i := 959) (by decide +kernel), List.mem_of_getElem? (i := 960) (by decide +kernel)⟩
theorem lw_p29 : lw_okq (⟨"LetterEndsModel", "here", "()I"⟩, 27) := ⟨⟨by decide +kernel, by decide +kernel⟩, List.mem_of_getElem? (i := 796) (by decide +kernel), List.mem_of_getElem? (i := 963) (by decide +kernel), List.mem_of_getElem? (i := 964) (by decide +kernel)⟩
theorem lw_p30 : lw_okq (⟨"LetterEndsModel", "figure", "(I)I"⟩, 27) := ⟨⟨by decide +kernel, by decide +kernel⟩, List.mem_of_getElem? (i := 796) (by decide +kernel), List.mem_of_getElem? (i := 967) (by decide +kernel), List.mem_of_getElem? (i := 968) (by decide +kernel)⟩
theorem lw_p31 : lw_okq (⟨"LetterEndsModel", "readsHouse", "()Z"⟩, 27) := ⟨⟨by decide +kernel, by decide +kernel⟩, List.mem_of_getElem? (i := 796) (by decide +kernel), List.mem_of_getElem? (i := 972) (by decide +kernel), List.mem_of_getElem? (i := 973) (by decide +kernel)⟩
def lw_privs_2 : List (MethodName × Nat) := [(⟨"LetterEnds$Orders", "settled", "(IIIII)I"⟩, 7), (⟨"LetterEnds$Lifts", "weigh", "(IIIIJ)V"⟩, 9), (⟨"LetterEnds", "performLot", "(I)V"⟩, 15), (⟨"LetterEnds", "countOf", "(I)I"⟩, 15), (⟨"LetterEnds", "howManyKept", "()I"⟩, 15), (⟨"LetterEndsModel", "find", "(I)I"⟩, 27), (⟨"LetterEndsModel", "makeRow", "(II)V"⟩, 27), (⟨"LetterEndsModel", "refused", "(II)I"⟩, 27), (⟨"LetterEndsModel", "tell", "(I)I"⟩, 27), (⟨"LetterEndsModel", "isSpan", "(III)Z"⟩, 27), (⟨"LetterEndsModel", "faultOf", "(I)I"⟩, 27), (⟨"LetterEndsModel", "readsHead", "()Z"⟩, 27), (⟨"LetterEndsModel", "skip", "()V"⟩, 27), (⟨"LetterEndsModel", "here", "()I"⟩, 27), (⟨"LetterEndsModel", "figure", "(I)I"⟩, 27), (⟨"LetterEndsModel", "readsHouse", "()Z"⟩, 27)]
theorem lw_r2 : ∀ q ∈ lw_privs_2, lw_okq q := List.forall_mem_cons.mpr ⟨lw_p16, List.forall_mem_cons.mpr ⟨lw_p17, List.forall_mem_cons.mpr ⟨lw_p18, List.forall_mem_cons.mpr ⟨lw_p19, List.forall_mem_cons.mpr ⟨lw_p20, List.forall_mem_cons.mpr ⟨lw_p21, List.forall_mem_cons.mpr ⟨lw_p22, List.forall_mem_cons.mpr ⟨lw_p23, List.forall_mem_cons.mpr ⟨lw_p24, List.forall_mem_cons.mpr ⟨lw_p25, List.forall_mem_cons.mpr ⟨lw_p26, List.forall_mem_cons.mpr ⟨lw_p27, List.forall_mem_cons.mpr ⟨lw_p28, List.forall_mem_cons.mpr ⟨lw_p29, List.forall_mem_cons.mpr ⟨lw_p30, List.forall_mem_cons.mpr ⟨lw_p31, fun _ h => absurd h List.not_mem_nil⟩⟩⟩⟩⟩⟩⟩⟩⟩⟩⟩⟩⟩⟩⟩⟩
theorem lw_p32 : lw_okq (⟨"LetterEndsModel", "twoFigures", "(I)I"⟩, 27) := ⟨⟨by decide +kernel, by decide +kernel⟩, List.mem_of_getElem? (i := 796) (by decide +kernel), List.mem_of_getElem? (i := 976) (by decide +kernel), List.mem_of_getElem? (i := 977) (by decide +kernel)⟩
theorem lw_p33 : lw_okq (⟨"LetterEndsModel", "readsLetter", "()Z"⟩, 27) := ⟨⟨by decide +kernel, by decide +kernel⟩, List.mem_of_getElem? (i := 796) (by decide +kernel), List.mem_of_getElem? (i := 980) (by decide +kernel), List.mem_of_getElem? (i := 981) (by decide +kernel)⟩
theorem lw_p34 : lw_okq (⟨"LetterEndsModel", "isHouse", "(I)Z"⟩, 27) := ⟨⟨by decide +kernel, by decide +kernel⟩, List.mem_of_getElem? (i := 796) (by decide +kernel), List.mem_of_getElem? (i := 995) (by decide +kernel), List.mem_of_getElem? (i := 996) (by decide +kernel)⟩
theorem lw_p35 : lw_okq (⟨"LetterEndsModel", "houseTold", "(II)I"⟩, 27) := ⟨⟨by decide +kernel, by decide +kernel⟩, List.mem_of_getElem? (i := 796) (by decide +kernel), List.mem_of_getElem? (i := 1000) (by decide +kernel), List.mem_of_getElem? (i := 1001) (by decide +kernel)⟩
theorem lw_p36 : lw_okq (⟨"LetterEndsModel", "toHouse", "(I)I"⟩, 27) := ⟨⟨by decide +kernel, by decide +kernel⟩, List.mem_of_getElem? (i := 796) (by decide +kernel), List.mem_of_getElem? (i := 1004) (by decide +kernel), List.mem_of_getElem? (i := 1005) (by decide +kernel)⟩
theorem lw_p37 : lw_okq (⟨"LetterEndsModel", "farFrom", "(II)I"⟩, 27) := ⟨⟨by decide +kernel, by decide +kernel⟩, List.mem_of_getElem? (i := 796) (by decide +kernel), List.mem_of_getElem? (i := 1008) (by decide +kernel), List.mem_of_getElem? (i := 1009) (by decide +kernel)⟩
theorem lw_p38 : lw_okq (⟨"LetterEndsModel", "isLetter", "(I)Z"⟩, 27) := ⟨⟨by decide +kernel, by decide +kernel⟩, List.mem_of_getElem? (i := 796) (by decide +kernel), List.mem_of_getElem? (i := 1016) (by decide +kernel), List.mem_of_getElem? (i := 1017) (by decide +kernel)⟩
theorem lw_p39 : lw_okq (⟨"LetterEndsModel", "letterTold", "(II)I"⟩, 27) := ⟨⟨by decide +kernel, by decide +kernel⟩, List.mem_of_getElem? (i := 796) (by decide +kernel), List.mem_of_getElem? (i := 1021) (by decide +kernel), List.mem_of_getElem? (i := 1022) (by decide +kernel)⟩
theorem lw_p40 : lw_okq (⟨"LetterEndsModel", "layTried", "()V"⟩, 27) := ⟨⟨by decide +kernel, by decide +kernel⟩, List.mem_of_getElem? (i := 796) (by decide +kernel), List.mem_of_getElem? (i := 1028) (by decide +kernel), List.mem_of_getElem? (i := 1029) (by decide +kernel)⟩
theorem lw_p41 : lw_okq (⟨"LetterEndsModel", "carries", "(II)I"⟩, 27) := ⟨⟨by decide +kernel, by decide +kernel⟩, List.mem_of_getElem? (i := 796) (by decide +kernel), List.mem_of_getElem? (i := 1032) (by decide +kernel), List.mem_of_getElem? (i := 1033) (by decide +kernel)⟩
theorem lw_p42 : lw_okq (⟨"LetterEndsModel", "isOf", "(II)Z"⟩, 27) := ⟨⟨by decide +kernel, by decide +kernel⟩, List.mem_of_getElem? (i := 796) (by decide +kernel), List.mem_of_getElem? (i := 1046) (by decide +kernel), List.mem_of_getElem? (i := 1047) (by decide +kernel)⟩
theorem lw_p43 : lw_okq (⟨"LetterEndsModel", "keepPast", "()V"⟩, 27) := ⟨⟨by decide +kernel, by decide +kernel⟩, List.mem_of_getElem? (i := 796) (by decide +kernel), List.mem_of_getElem? (i := 1054) (by decide +kernel), List.mem_of_getElem? (i := 1055) (by decide +kernel)⟩
theorem lw_p44 : lw_okq (⟨"LetterEndsModel", "beginDay", "(I)V"⟩, 27) := ⟨⟨by decide +kernel, by decide +kernel⟩, List.mem_of_getElem? (i := 796) (by decide +kernel), List.mem_of_getElem? (i := 1074) (by decide +kernel), List.mem_of_getElem? (i := 1075) (by decide +kernel)⟩
theorem lw_p45 : lw_okq (⟨"LetterEndsModel", "copyPost", "(II)V"⟩, 27) := ⟨⟨by decide +kernel, by decide +kernel⟩, List.mem_of_getElem? (i := 796) (by decide +kernel), List.mem_of_getElem? (i := 1086) (by decide +kernel), List.mem_of_getElem? (i := 1087) (by decide +kernel)⟩
theorem lw_p46 : lw_okq (⟨"LetterEndsModel", "beginLine", "()V"⟩, 27) := ⟨⟨by decide +kernel, by decide +kernel⟩, List.mem_of_getElem? (i := 796) (by decide +kernel), List.mem_of_getElem? (i := 1110) (by decide +kernel), List.mem_of_getElem? (i := 1111) (by decide +kernel)⟩
theorem lw_p47 : lw_okq (⟨"LetterEndsModel", "lettersOf", "(I)I"⟩, 27) := ⟨⟨by decide +kernel, by decide +kernel⟩, List.mem_of_getElem? (i := 796) (by decide +kernel), List.mem_of_getElem? (i := 1114) (by decide +kernel), List.mem_of_getElem? (i := 1115) (by decide +kernel)⟩
def lw_privs_3 : List (MethodName × Nat) := [(⟨"LetterEndsModel", "twoFigures", "(I)I"⟩, 27), (⟨"LetterEndsModel", "readsLetter", "()Z"⟩, 27), (⟨"LetterEndsModel", "isHouse", "(I)Z"⟩, 27), (⟨"LetterEndsModel", "houseTold", "(II)I"⟩, 27), (⟨"LetterEndsModel", "toHouse", "(I)I"⟩, 27), (⟨"LetterEndsModel", "farFrom", "(II)I"⟩, 27), (⟨"LetterEndsModel", "isLetter", "(I)Z"⟩, 27), (⟨"LetterEndsModel", "letterTold", "(II)I"⟩, 27), (⟨"LetterEndsModel", "layTried", "()V"⟩, 27), (⟨"LetterEndsModel", "carries", "(II)I"⟩, 27), (⟨"LetterEndsModel", "isOf", "(II)Z"⟩, 27), (⟨"LetterEndsModel", "keepPast", "()V"⟩, 27), (⟨"LetterEndsModel", "beginDay", "(I)V"⟩, 27), (⟨"LetterEndsModel", "copyPost", "(II)V"⟩, 27), (⟨"LetterEndsModel", "beginLine", "()V"⟩, 27), (⟨"LetterEndsModel", "lettersOf", "(I)I"⟩, 27)]
theorem lw_r3 : ∀ q ∈ lw_privs_3, lw_okq q := List.forall_mem_cons.mpr ⟨lw_p32, List.forall_mem_cons.mpr ⟨lw_p33, List.forall_mem_cons.mpr ⟨lw_p34, List.forall_mem_cons.mpr ⟨lw_p35, List.forall_mem_cons.mpr ⟨lw_p36, List.forall_mem_cons.mpr ⟨lw_p37, List.forall_mem_cons.mpr ⟨lw_p38, List.forall_mem_cons.mpr ⟨lw_p39, List.forall_mem_cons.mpr ⟨lw_p40, List.forall_mem_cons.mpr ⟨lw_p41, List.forall_mem_cons.mpr ⟨lw_p42, List.forall_mem_cons.mpr ⟨lw_p43, List.forall_mem_cons.mpr ⟨lw_p44, List.forall_mem_cons.mpr ⟨lw_p45, List.forall_mem_cons.mpr ⟨lw_p46, List.forall_mem_cons.mpr ⟨lw_p47, fun _ h => absurd h List.not_mem_nil⟩⟩⟩⟩⟩⟩⟩⟩⟩⟩⟩⟩⟩⟩⟩⟩
theorem lw_p48 : lw_okq (⟨"LetterEndsModel", "endTogether", "(I)I"⟩, 27) := ⟨⟨by decide +kernel, by decide +kernel⟩, List.mem_of_getElem? (i := 796) (by decide +kernel), List.mem_of_getElem? (i := 1118) (by decide +kernel), List.mem_of_getElem? (i := 1119) (by decide +kernel)⟩
theorem lw_p49 : lw_okq (⟨"LetterEndsModel", "keepLine", "(I)V"⟩, 27) := ⟨⟨by decide +kernel, by decide +kernel⟩, List.mem_of_getElem? (i := 796) (by decide +kernel), List.mem_of_getElem? (i := 1122) (by decide +kernel), List.mem_of_getElem? (i := 1123) (by decide +kernel)⟩
theorem lw_p50 : lw_okq (⟨"LetterEndsModel", "nextLine", "(I)Z"⟩, 27) := ⟨⟨by decide +kernel, by decide +kernel⟩, List.mem_of_getElem? (i := 796) (by decide +kernel), List.mem_of_getElem? (i := 1126) (by decide +kernel), List.mem_of_getElem? (i := 1127) (by decide +kernel)⟩
theorem lw_p51 : lw_okq (⟨"LetterEndsModel", "tellLine", "(II)V"⟩, 27) := ⟨⟨by decide +kernel, by decide +kernel⟩, List.mem_of_getElem? (i := 796) (by decide +kernel), List.mem_of_getElem? (i := 1130) (by decide +kernel), List.mem_of_getElem? (i := 1131) (by decide +kernel)⟩
theorem lw_p52 : lw_okq (⟨"LetterEndsModel", "noLetters", "(II)I"⟩, 27) := ⟨⟨by decide +kernel, by decide +kernel⟩, List.mem_of_getElem? (i := 796) (by decide +kernel), List.mem_of_getElem? (i := 1143) (by decide +kernel), List.mem_of_getElem? (i := 1144) (by decide +kernel)⟩
theorem lw_p53 : lw_okq (⟨"LetterEndsModel", "noPairs", "(I)I"⟩, 27) := ⟨⟨by decide +kernel, by decide +kernel⟩, List.mem_of_getElem? (i := 796) (by decide +kernel), List.mem_of_getElem? (i := 1151) (by decide +kernel), List.mem_of_getElem? (i := 1152) (by decide +kernel)⟩
theorem lw_p54 : lw_okq (⟨"LetterEndsModel", "wordsBy", "(II)I"⟩, 27) := ⟨⟨by decide +kernel, by decide +kernel⟩, List.mem_of_getElem? (i := 796) (by decide +kernel), List.mem_of_getElem? (i := 1155) (by decide +kernel), List.mem_of_getElem? (i := 1156) (by decide +kernel)⟩
theorem lw_p55 : lw_okq (⟨"LetterEndsModel", "isSo", "(III)Z"⟩, 27) := ⟨⟨by decide +kernel, by decide +kernel⟩, List.mem_of_getElem? (i := 796) (by decide +kernel), List.mem_of_getElem? (i := 1159) (by decide +kernel), List.mem_of_getElem? (i := 1160) (by decide +kernel)⟩
theorem lw_p56 : lw_okq (⟨"LetterEndsModel", "greatestPart", "(III)I"⟩, 27) := ⟨⟨by decide +kernel, by decide +kernel⟩, List.mem_of_getElem? (i := 796) (by decide +kernel), List.mem_of_getElem? (i := 1172) (by decide +kernel), List.mem_of_getElem? (i := 1173) (by decide +kernel)⟩
theorem lw_p57 : lw_okq (⟨"LetterEndsModel", "noSets", "(I)I"⟩, 27) := ⟨⟨by decide +kernel, by decide +kernel⟩, List.mem_of_getElem? (i := 796) (by decide +kernel), List.mem_of_getElem? (i := 1180) (by decide +kernel), List.mem_of_getElem? (i := 1181) (by decide +kernel)⟩
theorem lw_p58 : lw_okq (⟨"LetterEndsModel", "wordsOf", "(I)I"⟩, 27) := ⟨⟨by decide +kernel, by decide +kernel⟩, List.mem_of_getElem? (i := 796) (by decide +kernel), List.mem_of_getElem? (i := 1185) (by decide +kernel), List.mem_of_getElem? (i := 1186) (by decide +kernel)⟩
theorem lw_p59 : lw_okq (⟨"LetterEndsModel", "beginTurn", "(I)V"⟩, 27) := ⟨⟨by decide +kernel, by decide +kernel⟩, List.mem_of_getElem? (i := 796) (by decide +kernel), List.mem_of_getElem? (i := 1197) (by decide +kernel), List.mem_of_getElem? (i := 1198) (by decide +kernel)⟩
theorem lw_p60 : lw_okq (⟨"LetterEndsModel", "isFree", "(II)Z"⟩, 27) := ⟨⟨by decide +kernel, by decide +kernel⟩, List.mem_of_getElem? (i := 796) (by decide +kernel), List.mem_of_getElem? (i := 1201) (by decide +kernel), List.mem_of_getElem? (i := 1202) (by decide +kernel)⟩
theorem lw_p61 : lw_okq (⟨"LetterEndsModel", "tellLifts", "(IIIZ)I"⟩, 27) := ⟨⟨by decide +kernel, by decide +kernel⟩, List.mem_of_getElem? (i := 796) (by decide +kernel), List.mem_of_getElem? (i := 1213) (by decide +kernel), List.mem_of_getElem? (i := 1214) (by decide +kernel)⟩
theorem lw_p62 : lw_okq (⟨"LetterEndsModel", "endLifted", "(II)I"⟩, 27) := ⟨⟨by decide +kernel, by decide +kernel⟩, List.mem_of_getElem? (i := 796) (by decide +kernel), List.mem_of_getElem? (i := 1217) (by decide +kernel), List.mem_of_getElem? (i := 1218) (by decide +kernel)⟩
theorem lw_p63 : lw_okq (⟨"LetterEndsModel", "tellParts", "(JJ)V"⟩, 27) := ⟨⟨by decide +kernel, by decide +kernel⟩, List.mem_of_getElem? (i := 796) (by decide +kernel), List.mem_of_getElem? (i := 1221) (by decide +kernel), List.mem_of_getElem? (i := 1222) (by decide +kernel)⟩
def lw_privs_4 : List (MethodName × Nat) := [(⟨"LetterEndsModel", "endTogether", "(I)I"⟩, 27), (⟨"LetterEndsModel", "keepLine", "(I)V"⟩, 27), (⟨"LetterEndsModel", "nextLine", "(I)Z"⟩, 27), (⟨"LetterEndsModel", "tellLine", "(II)V"⟩, 27), (⟨"LetterEndsModel", "noLetters", "(II)I"⟩, 27), (⟨"LetterEndsModel", "noPairs", "(I)I"⟩, 27), (⟨"LetterEndsModel", "wordsBy", "(II)I"⟩, 27), (⟨"LetterEndsModel", "isSo", "(III)Z"⟩, 27), (⟨"LetterEndsModel", "greatestPart", "(III)I"⟩, 27), (⟨"LetterEndsModel", "noSets", "(I)I"⟩, 27), (⟨"LetterEndsModel", "wordsOf", "(I)I"⟩, 27), (⟨"LetterEndsModel", "beginTurn", "(I)V"⟩, 27), (⟨"LetterEndsModel", "isFree", "(II)Z"⟩, 27), (⟨"LetterEndsModel", "tellLifts", "(IIIZ)I"⟩, 27), (⟨"LetterEndsModel", "endLifted", "(II)I"⟩, 27), (⟨"LetterEndsModel", "tellParts", "(JJ)V"⟩, 27)]
theorem lw_r4 : ∀ q ∈ lw_privs_4, lw_okq q := List.forall_mem_cons.mpr ⟨lw_p48, List.forall_mem_cons.mpr ⟨lw_p49, List.forall_mem_cons.mpr ⟨lw_p50, List.forall_mem_cons.mpr ⟨lw_p51, List.forall_mem_cons.mpr ⟨lw_p52, List.forall_mem_cons.mpr ⟨lw_p53, List.forall_mem_cons.mpr ⟨lw_p54, List.forall_mem_cons.mpr ⟨lw_p55, List.forall_mem_cons.mpr ⟨lw_p56, List.forall_mem_cons.mpr ⟨lw_p57, List.forall_mem_cons.mpr ⟨lw_p58, List.forall_mem_cons.mpr ⟨lw_p59, List.forall_mem_cons.mpr ⟨lw_p60, List.forall_mem_cons.mpr ⟨lw_p61, List.forall_mem_cons.mpr ⟨lw_p62, List.forall_mem_cons.mpr ⟨lw_p63, fun _ h => absurd h List.not_mem_nil⟩⟩⟩⟩⟩⟩⟩⟩⟩⟩⟩⟩⟩⟩⟩⟩
theorem lw_p64 : lw_okq (⟨"LetterEndsModel", "byLot", "(J)V"⟩, 27) := ⟨⟨by decide +kernel, by decide +kernel⟩, List.mem_of_getElem? (i := 796) (by decide +kernel), List.mem_of_getElem? (i := 1236) (by decide +kernel), List.mem_of_getElem? (i := 1237) (by decide +kernel)⟩
theorem lw_p65 : lw_okq (⟨"LetterEndsModel", "allBonds", "()I"⟩, 27) := ⟨⟨by decide +kernel, by decide +kernel⟩, List.mem_of_getElem? (i := 796) (by decide +kernel), List.mem_of_getElem? (i := 1242) (by decide +kernel), List.mem_of_getElem? (i := 1243) (by decide +kernel)⟩
theorem lw_p66 : lw_okq (⟨"LetterEndsModel", "countOf", "(I)I"⟩, 27) := ⟨⟨by decide +kernel, by decide +kernel⟩, List.mem_of_getElem? (i := 796) (by decide +kernel), List.mem_of_getElem? (i := 1263) (by decide +kernel), List.mem_of_getElem? (i := 1264) (by decide +kernel)⟩
theorem lw_p67 : lw_okq (⟨"LetterEndsModel", "those", "(I)I"⟩, 27) := ⟨⟨by decide +kernel, by decide +kernel⟩, List.mem_of_getElem? (i := 796) (by decide +kernel), List.mem_of_getElem? (i := 1267) (by decide +kernel), List.mem_of_getElem? (i := 1268) (by decide +kernel)⟩
theorem lw_p68 : lw_okq (⟨"LetterEndsModel", "thereOf", "(I)I"⟩, 27) := ⟨⟨by decide +kernel, by decide +kernel⟩, List.mem_of_getElem? (i := 796) (by decide +kernel), List.mem_of_getElem? (i := 1271) (by decide +kernel), List.mem_of_getElem? (i := 1272) (by decide +kernel)⟩
def lw_privs_5 : List (MethodName × Nat) := [(⟨"LetterEndsModel", "byLot", "(J)V"⟩, 27), (⟨"LetterEndsModel", "allBonds", "()I"⟩, 27), (⟨"LetterEndsModel", "countOf", "(I)I"⟩, 27), (⟨"LetterEndsModel", "those", "(I)I"⟩, 27), (⟨"LetterEndsModel", "thereOf", "(I)I"⟩, 27)]
theorem lw_r5 : ∀ q ∈ lw_privs_5, lw_okq q := List.forall_mem_cons.mpr ⟨lw_p64, List.forall_mem_cons.mpr ⟨lw_p65, List.forall_mem_cons.mpr ⟨lw_p66, List.forall_mem_cons.mpr ⟨lw_p67, List.forall_mem_cons.mpr ⟨lw_p68, fun _ h => absurd h List.not_mem_nil⟩⟩⟩⟩⟩
def lw_privs : List (MethodName × Nat) := lw_privs_1 ++ (lw_privs_2 ++ (lw_privs_3 ++ (lw_privs_4 ++ (lw_privs_5))))
def lw_tbl : List Cond := k2_sels lw_privs ++ tables_1
theorem lw_privs_ok : ∀ q ∈ lw_privs, lw_okq q := by
  show ∀ q ∈ lw_privs_1 ++ (lw_privs_2 ++ (lw_privs_3 ++ (lw_privs_4 ++ (lw_privs_5)))), lw_okq q
  exact List.forall_mem_append.mpr ⟨lw_r1, List.forall_mem_append.mpr ⟨lw_r2, List.forall_mem_append.mpr ⟨lw_r3, List.forall_mem_append.mpr ⟨lw_r4, lw_r5⟩⟩⟩⟩
-- ===== end of PART A; then your names; then what follows =====
end
section
/-! ===== BEGIN printed: names, fields, word lists, decode rows ===== -/
def RX0 : String := "LetterEnds$Clues"
def TX0 : u_T := fun k => match k with
  | _ => ("LetterEnds$Clues", "parts", "[I", true)
def tyX0 : Nat → FieldType := fun k => match k with
  | _ => .array .int
theorem nmX0 : ∀ a, a < 1 → ∀ b, b < 1 → a ≠ b → (TX0 a).2.1 ≠ (TX0 b).2.1 := by decide +kernel
theorem tyX0_ok : ∀ k, k < 1 → parseFieldDescriptor (TX0 k).2.2.1 = some (tyX0 k) := by decide +kernel
abbrev cX0_init : ByteArray := prog_2_method_1_code
def yX0_init : MethodName := ⟨RX0, "<init>", "()V"⟩
abbrev cX0_fits : ByteArray := prog_2_method_2_code
def yX0_fits : MethodName := ⟨RX0, "fits", "(IILLetterEnds$Strip;)Z"⟩
abbrev cX0_wordsFor : ByteArray := prog_2_method_3_code
def yX0_wordsFor : MethodName := ⟨RX0, "wordsFor", "(ILLetterEnds$Strip;)I"⟩
abbrev cX0_kindsFor : ByteArray := prog_2_method_4_code
def yX0_kindsFor : MethodName := ⟨RX0, "kindsFor", "(ILLetterEnds$Strip;)I"⟩
abbrev cX0_bestMood : ByteArray := prog_2_method_5_code
def yX0_bestMood : MethodName := ⟨RX0, "bestMood", "(II)I"⟩
abbrev cX0_greatestPart : ByteArray := prog_2_method_6_code
def yX0_greatestPart : MethodName := ⟨RX0, "greatestPart", "(III)I"⟩
def RX1 : String := "LetterEnds$Kind"
def TX1 : u_T := fun k => match k with
  | _ => ("", "", "", false)
def tyX1 : Nat → FieldType := fun k => match k with
  | _ => .int
theorem nmX1 : ∀ a, a < 0 → ∀ b, b < 0 → a ≠ b → (TX1 a).2.1 ≠ (TX1 b).2.1 := by decide +kernel
theorem tyX1_ok : ∀ k, k < 0 → parseFieldDescriptor (TX1 k).2.2.1 = some (tyX1 k) := by decide +kernel
abbrev cX1_bySign : ByteArray := prog_3_method_2_code
def yX1_bySign : MethodName := ⟨RX1, "bySign", "(I)I"⟩
abbrev cX1_isOf : ByteArray := prog_3_method_3_code
def yX1_isOf : MethodName := ⟨RX1, "isOf", "(II)Z"⟩
abbrev cX1_warmth : ByteArray := prog_3_method_4_code
def yX1_warmth : MethodName := ⟨RX1, "warmth", "(III)I"⟩
abbrev cX1_turnBy : ByteArray := prog_3_method_5_code
def yX1_turnBy : MethodName := ⟨RX1, "turnBy", "(II)I"⟩
abbrev cX1_markOf : ByteArray := prog_3_method_6_code
def yX1_markOf : MethodName := ⟨RX1, "markOf", "(III)I"⟩
def RX2 : String := "LetterEnds$Lifts"
def TX2 : u_T := fun k => match k with
  | 0 => ("LetterEnds$Lifts", "road", "LLetterEnds$Road;", true)
  | 1 => ("LetterEnds$Lifts", "letters", "[I", true)
  | 2 => ("LetterEnds$Lifts", "many", "I", false)
  | 3 => ("LetterEnds$Lifts", "weather", "I", false)
  | 4 => ("LetterEnds$Lifts", "wanted", "I", false)
  | 5 => ("LetterEnds$Lifts", "chance", "I", false)
  | 6 => ("LetterEnds$Lifts", "fitting", "J", false)
  | 7 => ("LetterEnds$Lifts", "warmth", "J", false)
  | _ => ("LetterEnds$Lifts", "all", "J", false)
def tyX2 : Nat → FieldType := fun k => match k with
  | 0 => .object "LetterEnds$Road"
  | 1 => .array .int
  | 2 => .int
  | 3 => .int
  | 4 => .int
  | 5 => .int
  | 6 => .long
  | 7 => .long
  | _ => .long
theorem nmX2 : ∀ a, a < 9 → ∀ b, b < 9 → a ≠ b → (TX2 a).2.1 ≠ (TX2 b).2.1 := by decide +kernel
theorem tyX2_ok : ∀ k, k < 9 → parseFieldDescriptor (TX2 k).2.2.1 = some (tyX2 k) := by decide +kernel
abbrev cX2_init : ByteArray := prog_4_method_1_code
def yX2_init : MethodName := ⟨RX2, "<init>", "(LLetterEnds$Road;)V"⟩
abbrev cX2_follow : ByteArray := prog_4_method_2_code
def yX2_follow : MethodName := ⟨RX2, "follow", "(LLetterEnds$Post;LLetterEnds$Strip;II)V"⟩
abbrev cX2_weigh : ByteArray := prog_4_method_3_code
def yX2_weigh : MethodName := ⟨RX2, "weigh", "(IIIIJ)V"⟩
def RX3 : String := "LetterEnds$Orders"
def TX3 : u_T := fun k => match k with
  | 0 => ("LetterEnds$Orders", "road", "LLetterEnds$Road;", true)
  | 1 => ("LetterEnds$Orders", "order", "[I", true)
  | 2 => ("LetterEnds$Orders", "best", "[I", true)
  | 3 => ("LetterEnds$Orders", "weather", "I", false)
  | 4 => ("LetterEnds$Orders", "most", "I", false)
  | 5 => ("LetterEnds$Orders", "goalHouse", "I", false)
  | _ => ("LetterEnds$Orders", "goalBond", "I", false)
def tyX3 : Nat → FieldType := fun k => match k with
  | 0 => .object "LetterEnds$Road"
  | 1 => .array .int
  | 2 => .array .int
  | 3 => .int
  | 4 => .int
  | 5 => .int
  | _ => .int
theorem nmX3 : ∀ a, a < 7 → ∀ b, b < 7 → a ≠ b → (TX3 a).2.1 ≠ (TX3 b).2.1 := by decide +kernel
theorem tyX3_ok : ∀ k, k < 7 → parseFieldDescriptor (TX3 k).2.2.1 = some (tyX3 k) := by decide +kernel
abbrev cX3_init : ByteArray := prog_5_method_1_code
def yX3_init : MethodName := ⟨RX3, "<init>", "(LLetterEnds$Road;)V"⟩
abbrev cX3_warmest : ByteArray := prog_5_method_2_code
def yX3_warmest : MethodName := ⟨RX3, "warmest", "(LLetterEnds$Post;I)I"⟩
abbrev cX3_tryWarmer : ByteArray := prog_5_method_3_code
def yX3_tryWarmer : MethodName := ⟨RX3, "tryWarmer", "(IIIII)V"⟩
abbrev cX3_fewest : ByteArray := prog_5_method_4_code
def yX3_fewest : MethodName := ⟨RX3, "fewest", "(LLetterEnds$Post;II)I"⟩
abbrev cX3_reaches : ByteArray := prog_5_method_5_code
def yX3_reaches : MethodName := ⟨RX3, "reaches", "(IIIIII)Z"⟩
abbrev cX3_byTurns : ByteArray := prog_5_method_6_code
def yX3_byTurns : MethodName := ⟨RX3, "byTurns", "(LLetterEnds$Post;I)I"⟩
abbrev cX3_settled : ByteArray := prog_5_method_7_code
def yX3_settled : MethodName := ⟨RX3, "settled", "(IIIII)I"⟩
def RX4 : String := "LetterEnds$Post"
def TX4 : u_T := fun k => match k with
  | 0 => ("LetterEnds$Post", "road", "LLetterEnds$Road;", true)
  | 1 => ("LetterEnds$Post", "bonds", "[I", true)
  | 2 => ("LetterEnds$Post", "ended", "[I", true)
  | 3 => ("LetterEnds$Post", "deedKind", "[I", true)
  | 4 => ("LetterEnds$Post", "deedNumber", "[I", true)
  | 5 => ("LetterEnds$Post", "there", "Z", false)
  | 6 => ("LetterEnds$Post", "deeds", "I", false)
  | 7 => ("LetterEnds$Post", "days", "I", false)
  | 8 => ("LetterEnds$Post", "mood", "I", false)
  | 9 => ("LetterEnds$Post", "weather", "I", false)
  | 10 => ("LetterEnds$Post", "stand", "I", false)
  | _ => ("LetterEnds$Post", "carried", "I", false)
def tyX4 : Nat → FieldType := fun k => match k with
  | 0 => .object "LetterEnds$Road"
  | 1 => .array .int
  | 2 => .array .int
  | 3 => .array .int
  | 4 => .array .int
  | 5 => .boolean
  | 6 => .int
  | 7 => .int
  | 8 => .int
  | 9 => .int
  | 10 => .int
  | _ => .int
theorem nmX4 : ∀ a, a < 12 → ∀ b, b < 12 → a ≠ b → (TX4 a).2.1 ≠ (TX4 b).2.1 := by decide +kernel
theorem tyX4_ok : ∀ k, k < 12 → parseFieldDescriptor (TX4 k).2.2.1 = some (tyX4 k) := by decide +kernel
abbrev cX4_init : ByteArray := prog_6_method_1_code
def yX4_init : MethodName := ⟨RX4, "<init>", "(LLetterEnds$Road;)V"⟩
abbrev cX4_begin : ByteArray := prog_6_method_2_code
def yX4_begin : MethodName := ⟨RX4, "begin", "()V"⟩
abbrev cX4_become : ByteArray := prog_6_method_3_code
def yX4_become : MethodName := ⟨RX4, "become", "(LLetterEnds$Post;)V"⟩
abbrev cX4_spareDeeds : ByteArray := prog_6_method_4_code
def yX4_spareDeeds : MethodName := ⟨RX4, "spareDeeds", "()I"⟩
abbrev cX4_wasCarried : ByteArray := prog_6_method_5_code
def yX4_wasCarried : MethodName := ⟨RX4, "wasCarried", "(I)Z"⟩
abbrev cX4_allBonds : ByteArray := prog_6_method_6_code
def yX4_allBonds : MethodName := ⟨RX4, "allBonds", "()I"⟩
abbrev cX4_perform : ByteArray := prog_6_method_7_code
def yX4_perform : MethodName := ⟨RX4, "perform", "(II)V"⟩
abbrev cX4_goBackTo : ByteArray := prog_6_method_8_code
def yX4_goBackTo : MethodName := ⟨RX4, "goBackTo", "(I)V"⟩
abbrev cX4_beginDay : ByteArray := prog_6_method_9_code
def yX4_beginDay : MethodName := ⟨RX4, "beginDay", "()V"⟩
abbrev cX4_deliver : ByteArray := prog_6_method_10_code
def yX4_deliver : MethodName := ⟨RX4, "deliver", "(I)V"⟩
def RX5 : String := "LetterEnds$Reader"
def TX5 : u_T := fun k => match k with
  | _ => ("LetterEnds$Reader", "draft", "LLetterEnds$Road;", true)
def tyX5 : Nat → FieldType := fun k => match k with
  | _ => .object "LetterEnds$Road"
theorem nmX5 : ∀ a, a < 1 → ∀ b, b < 1 → a ≠ b → (TX5 a).2.1 ≠ (TX5 b).2.1 := by decide +kernel
theorem tyX5_ok : ∀ k, k < 1 → parseFieldDescriptor (TX5 k).2.2.1 = some (tyX5 k) := by decide +kernel
abbrev cX5_init : ByteArray := prog_7_method_1_code
def yX5_init : MethodName := ⟨RX5, "<init>", "()V"⟩
abbrev cX5_faultOf : ByteArray := prog_7_method_2_code
def yX5_faultOf : MethodName := ⟨RX5, "faultOf", "(LLetterEnds$Strip;)I"⟩
abbrev cX5_figureAt : ByteArray := prog_7_method_3_code
def yX5_figureAt : MethodName := ⟨RX5, "figureAt", "(LLetterEnds$Strip;I)I"⟩
abbrev cX5_postmanFault : ByteArray := prog_7_method_4_code
def yX5_postmanFault : MethodName := ⟨RX5, "postmanFault", "(LLetterEnds$Strip;I)I"⟩
abbrev cX5_itemFault : ByteArray := prog_7_method_5_code
def yX5_itemFault : MethodName := ⟨RX5, "itemFault", "(LLetterEnds$Strip;I)I"⟩
abbrev cX5_houseFault : ByteArray := prog_7_method_6_code
def yX5_houseFault : MethodName := ⟨RX5, "houseFault", "(LLetterEnds$Strip;I)I"⟩
abbrev cX5_letterFault : ByteArray := prog_7_method_7_code
def yX5_letterFault : MethodName := ⟨RX5, "letterFault", "(LLetterEnds$Strip;I)I"⟩
def RX6 : String := "LetterEnds$Road"
def TX6 : u_T := fun k => match k with
  | 0 => ("LetterEnds$Road", "firstBonds", "[I", true)
  | 1 => ("LetterEnds$Road", "kind", "[I", true)
  | 2 => ("LetterEnds$Road", "home", "[I", true)
  | 3 => ("LetterEnds$Road", "words", "[I", true)
  | 4 => ("LetterEnds$Road", "houses", "I", false)
  | 5 => ("LetterEnds$Road", "letters", "I", false)
  | 6 => ("LetterEnds$Road", "firstMood", "I", false)
  | _ => ("LetterEnds$Road", "firstWeather", "I", false)
def tyX6 : Nat → FieldType := fun k => match k with
  | 0 => .array .int
  | 1 => .array .int
  | 2 => .array .int
  | 3 => .array .int
  | 4 => .int
  | 5 => .int
  | 6 => .int
  | _ => .int
theorem nmX6 : ∀ a, a < 8 → ∀ b, b < 8 → a ≠ b → (TX6 a).2.1 ≠ (TX6 b).2.1 := by decide +kernel
theorem tyX6_ok : ∀ k, k < 8 → parseFieldDescriptor (TX6 k).2.2.1 = some (tyX6 k) := by decide +kernel
abbrev cX6_init : ByteArray := prog_8_method_1_code
def yX6_init : MethodName := ⟨RX6, "<init>", "()V"⟩
abbrev cX6_become : ByteArray := prog_8_method_2_code
def yX6_become : MethodName := ⟨RX6, "become", "(LLetterEnds$Road;)V"⟩
abbrev cX6_allLetters : ByteArray := prog_8_method_3_code
def yX6_allLetters : MethodName := ⟨RX6, "allLetters", "()I"⟩
abbrev cX6_lettersTo : ByteArray := prog_8_method_4_code
def yX6_lettersTo : MethodName := ⟨RX6, "lettersTo", "(I)I"⟩
abbrev cX6_lettersOf : ByteArray := prog_8_method_5_code
def yX6_lettersOf : MethodName := ⟨RX6, "lettersOf", "(I)I"⟩
abbrev cX6_wordsOf : ByteArray := prog_8_method_6_code
def yX6_wordsOf : MethodName := ⟨RX6, "wordsOf", "(I)I"⟩
abbrev cX6_moodAtDoor : ByteArray := prog_8_method_7_code
def yX6_moodAtDoor : MethodName := ⟨RX6, "moodAtDoor", "(IIII)I"⟩
abbrev cX6_warmth : ByteArray := prog_8_method_8_code
def yX6_warmth : MethodName := ⟨RX6, "warmth", "(II)I"⟩
abbrev cX6_moodBehind : ByteArray := prog_8_method_9_code
def yX6_moodBehind : MethodName := ⟨RX6, "moodBehind", "(III)I"⟩
abbrev cX6_moodWithin : ByteArray := prog_8_method_10_code
def yX6_moodWithin : MethodName := ⟨RX6, "moodWithin", "(I)I"⟩
abbrev cX6_bondBehind : ByteArray := prog_8_method_11_code
def yX6_bondBehind : MethodName := ⟨RX6, "bondBehind", "(II)I"⟩
def RX7 : String := "LetterEnds$Strip"
def TX7 : u_T := fun k => match k with
  | 0 => ("LetterEnds$Strip", "places", "[I", true)
  | _ => ("LetterEnds$Strip", "size", "I", false)
def tyX7 : Nat → FieldType := fun k => match k with
  | 0 => .array .int
  | _ => .int
theorem nmX7 : ∀ a, a < 2 → ∀ b, b < 2 → a ≠ b → (TX7 a).2.1 ≠ (TX7 b).2.1 := by decide +kernel
theorem tyX7_ok : ∀ k, k < 2 → parseFieldDescriptor (TX7 k).2.2.1 = some (tyX7 k) := by decide +kernel
abbrev cX7_init : ByteArray := prog_9_method_1_code
def yX7_init : MethodName := ⟨RX7, "<init>", "(I)V"⟩
abbrev cX7_isThere : ByteArray := prog_9_method_2_code
def yX7_isThere : MethodName := ⟨RX7, "isThere", "()Z"⟩
abbrev cX7_has : ByteArray := prog_9_method_3_code
def yX7_has : MethodName := ⟨RX7, "has", "(I)Z"⟩
abbrev cX7_hasSpan : ByteArray := prog_9_method_4_code
def yX7_hasSpan : MethodName := ⟨RX7, "hasSpan", "(II)Z"⟩
abbrev cX7_lieAnew : ByteArray := prog_9_method_5_code
def yX7_lieAnew : MethodName := ⟨RX7, "lieAnew", "(II)V"⟩
abbrev cX7_lieAs : ByteArray := prog_9_method_6_code
def yX7_lieAs : MethodName := ⟨RX7, "lieAs", "([II)V"⟩
abbrev cX7_goMissing : ByteArray := prog_9_method_7_code
def yX7_goMissing : MethodName := ⟨RX7, "goMissing", "()V"⟩
abbrev cX7_sum : ByteArray := prog_9_method_8_code
def yX7_sum : MethodName := ⟨RX7, "sum", "()J"⟩
abbrev cX7_mixedInto : ByteArray := prog_9_method_9_code
def yX7_mixedInto : MethodName := ⟨RX7, "mixedInto", "(J)J"⟩
def RX8 : String := "LetterEnds"
def TX8 : u_T := fun k => match k with
  | 0 => ("LetterEnds", "rows", "[LLetterEnds$Strip;", true)
  | 1 => ("LetterEnds", "texts", "[LLetterEnds$Strip;", true)
  | 2 => ("LetterEnds", "road", "LLetterEnds$Road;", true)
  | 3 => ("LetterEnds", "reader", "LLetterEnds$Reader;", true)
  | 4 => ("LetterEnds", "now", "LLetterEnds$Post;", true)
  | 5 => ("LetterEnds", "aside", "LLetterEnds$Post;", true)
  | 6 => ("LetterEnds", "kept", "[LLetterEnds$Post;", true)
  | 7 => ("LetterEnds", "orders", "LLetterEnds$Orders;", true)
  | 8 => ("LetterEnds", "lifts", "LLetterEnds$Lifts;", true)
  | 9 => ("LetterEnds", "clues", "LLetterEnds$Clues;", true)
  | 10 => ("LetterEnds", "found", "[I", true)
  | 11 => ("LetterEnds", "finding", "I", false)
  | 12 => ("LetterEnds", "asked", "I", false)
  | 13 => ("LetterEnds", "upper", "J", false)
  | _ => ("LetterEnds", "lower", "J", false)
def tyX8 : Nat → FieldType := fun k => match k with
  | 0 => .array (.object "LetterEnds$Strip")
  | 1 => .array (.object "LetterEnds$Strip")
  | 2 => .object "LetterEnds$Road"
  | 3 => .object "LetterEnds$Reader"
  | 4 => .object "LetterEnds$Post"
  | 5 => .object "LetterEnds$Post"
  | 6 => .array (.object "LetterEnds$Post")
  | 7 => .object "LetterEnds$Orders"
  | 8 => .object "LetterEnds$Lifts"
  | 9 => .object "LetterEnds$Clues"
  | 10 => .array .int
  | 11 => .int
  | 12 => .int
  | 13 => .long
  | _ => .long
theorem nmX8 : ∀ a, a < 15 → ∀ b, b < 15 → a ≠ b → (TX8 a).2.1 ≠ (TX8 b).2.1 := by decide +kernel
theorem tyX8_ok : ∀ k, k < 15 → parseFieldDescriptor (TX8 k).2.2.1 = some (tyX8 k) := by decide +kernel
abbrev cX8_init : ByteArray := prog_1_method_1_code
def yX8_init : MethodName := ⟨RX8, "<init>", "()V"⟩
abbrev cX8_row : ByteArray := prog_1_method_2_code
def yX8_row : MethodName := ⟨RX8, "row", "(II)I"⟩
abbrev cX8_lay : ByteArray := prog_1_method_3_code
def yX8_lay : MethodName := ⟨RX8, "lay", "(III)I"⟩
abbrev cX8_at : ByteArray := prog_1_method_4_code
def yX8_at : MethodName := ⟨RX8, "at", "(II)I"⟩
abbrev cX8_tear : ByteArray := prog_1_method_5_code
def yX8_tear : MethodName := ⟨RX8, "tear", "(I)I"⟩
abbrev cX8_copy : ByteArray := prog_1_method_6_code
def yX8_copy : MethodName := ⟨RX8, "copy", "(IIIII)I"⟩
abbrev cX8_mean : ByteArray := prog_1_method_7_code
def yX8_mean : MethodName := ⟨RX8, "mean", "(I)I"⟩
abbrev cX8_text : ByteArray := prog_1_method_8_code
def yX8_text : MethodName := ⟨RX8, "text", "(II)I"⟩
abbrev cX8_put : ByteArray := prog_1_method_9_code
def yX8_put : MethodName := ⟨RX8, "put", "(III)I"⟩
abbrev cX8_fault : ByteArray := prog_1_method_10_code
def yX8_fault : MethodName := ⟨RX8, "fault", "(I)I"⟩
abbrev cX8_post : ByteArray := prog_1_method_11_code
def yX8_post : MethodName := ⟨RX8, "post", "(I)I"⟩
abbrev cX8_house : ByteArray := prog_1_method_12_code
def yX8_house : MethodName := ⟨RX8, "house", "(II)I"⟩
abbrev cX8_letter : ByteArray := prog_1_method_13_code
def yX8_letter : MethodName := ⟨RX8, "letter", "(II)I"⟩
abbrev cX8_mark : ByteArray := prog_1_method_14_code
def yX8_mark : MethodName := ⟨RX8, "mark", "(II)I"⟩
abbrev cX8_carry : ByteArray := prog_1_method_15_code
def yX8_carry : MethodName := ⟨RX8, "carry", "(I)I"⟩
abbrev cX8_bribe : ByteArray := prog_1_method_16_code
def yX8_bribe : MethodName := ⟨RX8, "bribe", "(I)I"⟩
abbrev cX8_weather : ByteArray := prog_1_method_17_code
def yX8_weather : MethodName := ⟨RX8, "weather", "(I)I"⟩
abbrev cX8_day : ByteArray := prog_1_method_18_code
def yX8_day : MethodName := ⟨RX8, "day", "()I"⟩
abbrev cX8_undo : ByteArray := prog_1_method_19_code
def yX8_undo : MethodName := ⟨RX8, "undo", "(I)I"⟩
abbrev cX8_keep : ByteArray := prog_1_method_20_code
def yX8_keep : MethodName := ⟨RX8, "keep", "(I)I"⟩
abbrev cX8_on : ByteArray := prog_1_method_21_code
def yX8_on : MethodName := ⟨RX8, "on", "(I)I"⟩
abbrev cX8_ends : ByteArray := prog_1_method_22_code
def yX8_ends : MethodName := ⟨RX8, "ends", "(III)I"⟩
abbrev cX8_bond : ByteArray := prog_1_method_23_code
def yX8_bond : MethodName := ⟨RX8, "bond", "(I)I"⟩
abbrev cX8_least : ByteArray := prog_1_method_24_code
def yX8_least : MethodName := ⟨RX8, "least", "(II)I"⟩
abbrev cX8_round : ByteArray := prog_1_method_25_code
def yX8_round : MethodName := ⟨RX8, "round", "(II)I"⟩
abbrev cX8_plan : ByteArray := prog_1_method_26_code
def yX8_plan : MethodName := ⟨RX8, "plan", "(III)I"⟩
abbrev cX8_rest : ByteArray := prog_1_method_27_code
def yX8_rest : MethodName := ⟨RX8, "rest", "(III)I"⟩
abbrev cX8_meant : ByteArray := prog_1_method_28_code
def yX8_meant : MethodName := ⟨RX8, "meant", "(II)I"⟩
abbrev cX8_kinds : ByteArray := prog_1_method_29_code
def yX8_kinds : MethodName := ⟨RX8, "kinds", "(II)I"⟩
abbrev cX8_test : ByteArray := prog_1_method_30_code
def yX8_test : MethodName := ⟨RX8, "test", "(II)I"⟩
abbrev cX8_sets : ByteArray := prog_1_method_31_code
def yX8_sets : MethodName := ⟨RX8, "sets", "(I)I"⟩
abbrev cX8_sure : ByteArray := prog_1_method_32_code
def yX8_sure : MethodName := ⟨RX8, "sure", "(I)I"⟩
abbrev cX8_duel : ByteArray := prog_1_method_33_code
def yX8_duel : MethodName := ⟨RX8, "duel", "(I)I"⟩
abbrev cX8_odds : ByteArray := prog_1_method_34_code
def yX8_odds : MethodName := ⟨RX8, "odds", "(III)I"⟩
abbrev cX8_mid : ByteArray := prog_1_method_35_code
def yX8_mid : MethodName := ⟨RX8, "mid", "(II)I"⟩
abbrev cX8_lots : ByteArray := prog_1_method_36_code
def yX8_lots : MethodName := ⟨RX8, "lots", "(II)I"⟩
abbrev cX8_asked : ByteArray := prog_1_method_37_code
def yX8_asked : MethodName := ⟨RX8, "asked", "()I"⟩
abbrev cX8_upper : ByteArray := prog_1_method_38_code
def yX8_upper : MethodName := ⟨RX8, "upper", "()J"⟩
abbrev cX8_lower : ByteArray := prog_1_method_39_code
def yX8_lower : MethodName := ⟨RX8, "lower", "()J"⟩
abbrev cX8_count : ByteArray := prog_1_method_40_code
def yX8_count : MethodName := ⟨RX8, "count", "(I)I"⟩
abbrev cX8_finding : ByteArray := prog_1_method_41_code
def yX8_finding : MethodName := ⟨RX8, "finding", "()I"⟩
abbrev cX8_findings : ByteArray := prog_1_method_42_code
def yX8_findings : MethodName := ⟨RX8, "findings", "(I)I"⟩
abbrev cX8_digest : ByteArray := prog_1_method_43_code
def yX8_digest : MethodName := ⟨RX8, "digest", "()J"⟩
abbrev cX8_within : ByteArray := prog_1_method_44_code
def yX8_within : MethodName := ⟨RX8, "within", "(II)Z"⟩
abbrev cX8_isRow : ByteArray := prog_1_method_45_code
def yX8_isRow : MethodName := ⟨RX8, "isRow", "(I)Z"⟩
abbrev cX8_isText : ByteArray := prog_1_method_46_code
def yX8_isText : MethodName := ⟨RX8, "isText", "(I)Z"⟩
abbrev cX8_isPlace : ByteArray := prog_1_method_47_code
def yX8_isPlace : MethodName := ⟨RX8, "isPlace", "(I)Z"⟩
abbrev cX8_isHouse : ByteArray := prog_1_method_48_code
def yX8_isHouse : MethodName := ⟨RX8, "isHouse", "(I)Z"⟩
abbrev cX8_isLetter : ByteArray := prog_1_method_49_code
def yX8_isLetter : MethodName := ⟨RX8, "isLetter", "(I)Z"⟩
abbrev cX8_isPosted : ByteArray := prog_1_method_50_code
def yX8_isPosted : MethodName := ⟨RX8, "isPosted", "()Z"⟩
abbrev cX8_refuse : ByteArray := prog_1_method_51_code
def yX8_refuse : MethodName := ⟨RX8, "refuse", "(I)I"⟩
abbrev cX8_tell : ByteArray := prog_1_method_52_code
def yX8_tell : MethodName := ⟨RX8, "tell", "(I)I"⟩
abbrev cX8_tellPart : ByteArray := prog_1_method_53_code
def yX8_tellPart : MethodName := ⟨RX8, "tellPart", "(JJ)I"⟩
abbrev cX8_commonDivisor : ByteArray := prog_1_method_54_code
def yX8_commonDivisor : MethodName := ⟨RX8, "commonDivisor", "(JJ)J"⟩
abbrev cX8_wrongLetters : ByteArray := prog_1_method_55_code
def yX8_wrongLetters : MethodName := ⟨RX8, "wrongLetters", "(LLetterEnds$Strip;I)I"⟩
abbrev cX8_wrongPairs : ByteArray := prog_1_method_56_code
def yX8_wrongPairs : MethodName := ⟨RX8, "wrongPairs", "(LLetterEnds$Strip;)I"⟩
abbrev cX8_arrivingWith : ByteArray := prog_1_method_57_code
def yX8_arrivingWith : MethodName := ⟨RX8, "arrivingWith", "(II)I"⟩
abbrev cX8_performLot : ByteArray := prog_1_method_58_code
def yX8_performLot : MethodName := ⟨RX8, "performLot", "(I)V"⟩
abbrev cX8_ofHouse : ByteArray := prog_1_method_59_code
def yX8_ofHouse : MethodName := ⟨RX8, "ofHouse", "(II)I"⟩
abbrev cX8_ofLetter : ByteArray := prog_1_method_60_code
def yX8_ofLetter : MethodName := ⟨RX8, "ofLetter", "(II)I"⟩
abbrev cX8_countOf : ByteArray := prog_1_method_61_code
def yX8_countOf : MethodName := ⟨RX8, "countOf", "(I)I"⟩
abbrev cX8_howManyThere : ByteArray := prog_1_method_62_code
def yX8_howManyThere : MethodName := ⟨RX8, "howManyThere", "([LLetterEnds$Strip;)I"⟩
abbrev cX8_howManyKept : ByteArray := prog_1_method_63_code
def yX8_howManyKept : MethodName := ⟨RX8, "howManyKept", "()I"⟩
def RX9 : String := "LetterEndsModel"
def TX9 : u_T := fun k => match k with
  | 0 => ("LetterEndsModel", "row", "[I", true)
  | 1 => ("LetterEndsModel", "houses", "I", false)
  | 2 => ("LetterEndsModel", "letters", "I", false)
  | 3 => ("LetterEndsModel", "kinds", "[I", true)
  | 4 => ("LetterEndsModel", "to", "[I", true)
  | 5 => ("LetterEndsModel", "words", "[I", true)
  | 6 => ("LetterEndsModel", "sizes", "[I", true)
  | 7 => ("LetterEndsModel", "items", "[I", true)
  | 8 => ("LetterEndsModel", "lengths", "[I", true)
  | 9 => ("LetterEndsModel", "bytes", "[I", true)
  | 10 => ("LetterEndsModel", "asked", "I", false)
  | 11 => ("LetterEndsModel", "upper", "J", false)
  | 12 => ("LetterEndsModel", "lower", "J", false)
  | 13 => ("LetterEndsModel", "finding", "I", false)
  | 14 => ("LetterEndsModel", "findings", "[I", true)
  | 15 => ("LetterEndsModel", "from", "I", false)
  | 16 => ("LetterEndsModel", "place", "I", false)
  | 17 => ("LetterEndsModel", "end", "I", false)
  | 18 => ("LetterEndsModel", "readMood", "I", false)
  | 19 => ("LetterEndsModel", "readWeather", "I", false)
  | 20 => ("LetterEndsModel", "readHouses", "I", false)
  | 21 => ("LetterEndsModel", "readBonds", "[I", true)
  | 22 => ("LetterEndsModel", "readMany", "I", false)
  | 23 => ("LetterEndsModel", "readLetters", "[I", true)
  | 24 => ("LetterEndsModel", "line", "[I", true)
  | 25 => ("LetterEndsModel", "bestLine", "[I", true)
  | _ => ("LetterEndsModel", "bests", "[I", true)
def tyX9 : Nat → FieldType := fun k => match k with
  | 0 => .array .int
  | 1 => .int
  | 2 => .int
  | 3 => .array .int
  | 4 => .array .int
  | 5 => .array .int
  | 6 => .array .int
  | 7 => .array .int
  | 8 => .array .int
  | 9 => .array .int
  | 10 => .int
  | 11 => .long
  | 12 => .long
  | 13 => .int
  | 14 => .array .int
  | 15 => .int
  | 16 => .int
  | 17 => .int
  | 18 => .int
  | 19 => .int
  | 20 => .int
  | 21 => .array .int
  | 22 => .int
  | 23 => .array .int
  | 24 => .array .int
  | 25 => .array .int
  | _ => .array .int
theorem nmX9 : ∀ a, a < 27 → ∀ b, b < 27 → a ≠ b → (TX9 a).2.1 ≠ (TX9 b).2.1 := by decide +kernel
theorem tyX9_ok : ∀ k, k < 27 → parseFieldDescriptor (TX9 k).2.2.1 = some (tyX9 k) := by decide +kernel
abbrev cX9_init : ByteArray := prog_11_method_1_code
def yX9_init : MethodName := ⟨RX9, "<init>", "()V"⟩
abbrev cX9_in : ByteArray := prog_11_method_2_code
def yX9_in : MethodName := ⟨RX9, "in", "(JJJ)Z"⟩
abbrev cX9_has : ByteArray := prog_11_method_3_code
def yX9_has : MethodName := ⟨RX9, "has", "(II)Z"⟩
abbrev cX9_find : ByteArray := prog_11_method_4_code
def yX9_find : MethodName := ⟨RX9, "find", "(I)I"⟩
abbrev cX9_tell : ByteArray := prog_11_method_5_code
def yX9_tell : MethodName := ⟨RX9, "tell", "(I)I"⟩
abbrev cX9_isRow : ByteArray := prog_11_method_6_code
def yX9_isRow : MethodName := ⟨RX9, "isRow", "(I)Z"⟩
abbrev cX9_isText : ByteArray := prog_11_method_7_code
def yX9_isText : MethodName := ⟨RX9, "isText", "(I)Z"⟩
abbrev cX9_row : ByteArray := prog_11_method_8_code
def yX9_row : MethodName := ⟨RX9, "row", "(II)I"⟩
abbrev cX9_makeRow : ByteArray := prog_11_method_9_code
def yX9_makeRow : MethodName := ⟨RX9, "makeRow", "(II)V"⟩
abbrev cX9_refused : ByteArray := prog_11_method_10_code
def yX9_refused : MethodName := ⟨RX9, "refused", "(II)I"⟩
abbrev cX9_lay : ByteArray := prog_11_method_11_code
def yX9_lay : MethodName := ⟨RX9, "lay", "(III)I"⟩
abbrev cX9_at : ByteArray := prog_11_method_12_code
def yX9_at : MethodName := ⟨RX9, "at", "(II)I"⟩
abbrev cX9_tear : ByteArray := prog_11_method_13_code
def yX9_tear : MethodName := ⟨RX9, "tear", "(I)I"⟩
abbrev cX9_isSpan : ByteArray := prog_11_method_14_code
def yX9_isSpan : MethodName := ⟨RX9, "isSpan", "(III)Z"⟩
abbrev cX9_copy : ByteArray := prog_11_method_15_code
def yX9_copy : MethodName := ⟨RX9, "copy", "(IIIII)I"⟩
abbrev cX9_mean : ByteArray := prog_11_method_16_code
def yX9_mean : MethodName := ⟨RX9, "mean", "(I)I"⟩
abbrev cX9_text : ByteArray := prog_11_method_17_code
def yX9_text : MethodName := ⟨RX9, "text", "(II)I"⟩
abbrev cX9_put : ByteArray := prog_11_method_18_code
def yX9_put : MethodName := ⟨RX9, "put", "(III)I"⟩
abbrev cX9_here : ByteArray := prog_11_method_19_code
def yX9_here : MethodName := ⟨RX9, "here", "()I"⟩
abbrev cX9_skip : ByteArray := prog_11_method_20_code
def yX9_skip : MethodName := ⟨RX9, "skip", "()V"⟩
abbrev cX9_figure : ByteArray := prog_11_method_21_code
def yX9_figure : MethodName := ⟨RX9, "figure", "(I)I"⟩
abbrev cX9_twoFigures : ByteArray := prog_11_method_22_code
def yX9_twoFigures : MethodName := ⟨RX9, "twoFigures", "(I)I"⟩
abbrev cX9_readsHead : ByteArray := prog_11_method_23_code
def yX9_readsHead : MethodName := ⟨RX9, "readsHead", "()Z"⟩
abbrev cX9_kindOfLetter : ByteArray := prog_11_method_24_code
def yX9_kindOfLetter : MethodName := ⟨RX9, "kindOfLetter", "(I)I"⟩
abbrev cX9_readsHouse : ByteArray := prog_11_method_25_code
def yX9_readsHouse : MethodName := ⟨RX9, "readsHouse", "()Z"⟩
abbrev cX9_readsLetter : ByteArray := prog_11_method_26_code
def yX9_readsLetter : MethodName := ⟨RX9, "readsLetter", "()Z"⟩
abbrev cX9_faultOf : ByteArray := prog_11_method_27_code
def yX9_faultOf : MethodName := ⟨RX9, "faultOf", "(I)I"⟩
abbrev cX9_fault : ByteArray := prog_11_method_28_code
def yX9_fault : MethodName := ⟨RX9, "fault", "(I)I"⟩
abbrev cX9_post : ByteArray := prog_11_method_29_code
def yX9_post : MethodName := ⟨RX9, "post", "(I)I"⟩
abbrev cX9_isHouse : ByteArray := prog_11_method_30_code
def yX9_isHouse : MethodName := ⟨RX9, "isHouse", "(I)Z"⟩
abbrev cX9_isLetter : ByteArray := prog_11_method_31_code
def yX9_isLetter : MethodName := ⟨RX9, "isLetter", "(I)Z"⟩
abbrev cX9_kept : ByteArray := prog_11_method_32_code
def yX9_kept : MethodName := ⟨RX9, "kept", "(II)I"⟩
abbrev cX9_endsBy : ByteArray := prog_11_method_33_code
def yX9_endsBy : MethodName := ⟨RX9, "endsBy", "(III)I"⟩
abbrev cX9_farFrom : ByteArray := prog_11_method_34_code
def yX9_farFrom : MethodName := ⟨RX9, "farFrom", "(II)I"⟩
abbrev cX9_carries : ByteArray := prog_11_method_35_code
def yX9_carries : MethodName := ⟨RX9, "carries", "(II)I"⟩
abbrev cX9_layTried : ByteArray := prog_11_method_36_code
def yX9_layTried : MethodName := ⟨RX9, "layTried", "()V"⟩
abbrev cX9_toHouse : ByteArray := prog_11_method_37_code
def yX9_toHouse : MethodName := ⟨RX9, "toHouse", "(I)I"⟩
abbrev cX9_houseTold : ByteArray := prog_11_method_38_code
def yX9_houseTold : MethodName := ⟨RX9, "houseTold", "(II)I"⟩
abbrev cX9_house : ByteArray := prog_11_method_39_code
def yX9_house : MethodName := ⟨RX9, "house", "(II)I"⟩
abbrev cX9_letterTold : ByteArray := prog_11_method_40_code
def yX9_letterTold : MethodName := ⟨RX9, "letterTold", "(II)I"⟩
abbrev cX9_letter : ByteArray := prog_11_method_41_code
def yX9_letter : MethodName := ⟨RX9, "letter", "(II)I"⟩
abbrev cX9_isOf : ByteArray := prog_11_method_42_code
def yX9_isOf : MethodName := ⟨RX9, "isOf", "(II)Z"⟩
abbrev cX9_mark : ByteArray := prog_11_method_43_code
def yX9_mark : MethodName := ⟨RX9, "mark", "(II)I"⟩
abbrev cX9_keepPast : ByteArray := prog_11_method_44_code
def yX9_keepPast : MethodName := ⟨RX9, "keepPast", "()V"⟩
abbrev cX9_carry : ByteArray := prog_11_method_45_code
def yX9_carry : MethodName := ⟨RX9, "carry", "(I)I"⟩
abbrev cX9_bribe : ByteArray := prog_11_method_46_code
def yX9_bribe : MethodName := ⟨RX9, "bribe", "(I)I"⟩
abbrev cX9_weather : ByteArray := prog_11_method_47_code
def yX9_weather : MethodName := ⟨RX9, "weather", "(I)I"⟩
abbrev cX9_bits : ByteArray := prog_11_method_48_code
def yX9_bits : MethodName := ⟨RX9, "bits", "(I)I"⟩
abbrev cX9_beginDay : ByteArray := prog_11_method_49_code
def yX9_beginDay : MethodName := ⟨RX9, "beginDay", "(I)V"⟩
abbrev cX9_day : ByteArray := prog_11_method_50_code
def yX9_day : MethodName := ⟨RX9, "day", "()I"⟩
abbrev cX9_undo : ByteArray := prog_11_method_51_code
def yX9_undo : MethodName := ⟨RX9, "undo", "(I)I"⟩
abbrev cX9_copyPost : ByteArray := prog_11_method_52_code
def yX9_copyPost : MethodName := ⟨RX9, "copyPost", "(II)V"⟩
abbrev cX9_keep : ByteArray := prog_11_method_53_code
def yX9_keep : MethodName := ⟨RX9, "keep", "(I)I"⟩
abbrev cX9_on : ByteArray := prog_11_method_54_code
def yX9_on : MethodName := ⟨RX9, "on", "(I)I"⟩
abbrev cX9_ends : ByteArray := prog_11_method_55_code
def yX9_ends : MethodName := ⟨RX9, "ends", "(III)I"⟩
abbrev cX9_bond : ByteArray := prog_11_method_56_code
def yX9_bond : MethodName := ⟨RX9, "bond", "(I)I"⟩
abbrev cX9_least : ByteArray := prog_11_method_57_code
def yX9_least : MethodName := ⟨RX9, "least", "(II)I"⟩
abbrev cX9_nextLine : ByteArray := prog_11_method_58_code
def yX9_nextLine : MethodName := ⟨RX9, "nextLine", "(I)Z"⟩
abbrev cX9_beginLine : ByteArray := prog_11_method_59_code
def yX9_beginLine : MethodName := ⟨RX9, "beginLine", "()V"⟩
abbrev cX9_lettersOf : ByteArray := prog_11_method_60_code
def yX9_lettersOf : MethodName := ⟨RX9, "lettersOf", "(I)I"⟩
abbrev cX9_endTogether : ByteArray := prog_11_method_61_code
def yX9_endTogether : MethodName := ⟨RX9, "endTogether", "(I)I"⟩
abbrev cX9_keepLine : ByteArray := prog_11_method_62_code
def yX9_keepLine : MethodName := ⟨RX9, "keepLine", "(I)V"⟩
abbrev cX9_tellLine : ByteArray := prog_11_method_63_code
def yX9_tellLine : MethodName := ⟨RX9, "tellLine", "(II)V"⟩
abbrev cX9_round : ByteArray := prog_11_method_64_code
def yX9_round : MethodName := ⟨RX9, "round", "(II)I"⟩
abbrev cX9_plan : ByteArray := prog_11_method_65_code
def yX9_plan : MethodName := ⟨RX9, "plan", "(III)I"⟩
abbrev cX9_noLetters : ByteArray := prog_11_method_66_code
def yX9_noLetters : MethodName := ⟨RX9, "noLetters", "(II)I"⟩
abbrev cX9_rest : ByteArray := prog_11_method_67_code
def yX9_rest : MethodName := ⟨RX9, "rest", "(III)I"⟩
abbrev cX9_noPairs : ByteArray := prog_11_method_68_code
def yX9_noPairs : MethodName := ⟨RX9, "noPairs", "(I)I"⟩
abbrev cX9_isSo : ByteArray := prog_11_method_69_code
def yX9_isSo : MethodName := ⟨RX9, "isSo", "(III)Z"⟩
abbrev cX9_wordsBy : ByteArray := prog_11_method_70_code
def yX9_wordsBy : MethodName := ⟨RX9, "wordsBy", "(II)I"⟩
abbrev cX9_meant : ByteArray := prog_11_method_71_code
def yX9_meant : MethodName := ⟨RX9, "meant", "(II)I"⟩
abbrev cX9_kinds : ByteArray := prog_11_method_72_code
def yX9_kinds : MethodName := ⟨RX9, "kinds", "(II)I"⟩
abbrev cX9_greatestPart : ByteArray := prog_11_method_73_code
def yX9_greatestPart : MethodName := ⟨RX9, "greatestPart", "(III)I"⟩
abbrev cX9_test : ByteArray := prog_11_method_74_code
def yX9_test : MethodName := ⟨RX9, "test", "(II)I"⟩
abbrev cX9_wordsOf : ByteArray := prog_11_method_75_code
def yX9_wordsOf : MethodName := ⟨RX9, "wordsOf", "(I)I"⟩
abbrev cX9_noSets : ByteArray := prog_11_method_76_code
def yX9_noSets : MethodName := ⟨RX9, "noSets", "(I)I"⟩
abbrev cX9_sets : ByteArray := prog_11_method_77_code
def yX9_sets : MethodName := ⟨RX9, "sets", "(I)I"⟩
abbrev cX9_sure : ByteArray := prog_11_method_78_code
def yX9_sure : MethodName := ⟨RX9, "sure", "(I)I"⟩
abbrev cX9_better : ByteArray := prog_11_method_79_code
def yX9_better : MethodName := ⟨RX9, "better", "(III)I"⟩
abbrev cX9_beginTurn : ByteArray := prog_11_method_80_code
def yX9_beginTurn : MethodName := ⟨RX9, "beginTurn", "(I)V"⟩
abbrev cX9_isFree : ByteArray := prog_11_method_81_code
def yX9_isFree : MethodName := ⟨RX9, "isFree", "(II)Z"⟩
abbrev cX9_duel : ByteArray := prog_11_method_82_code
def yX9_duel : MethodName := ⟨RX9, "duel", "(I)I"⟩
abbrev cX9_tellParts : ByteArray := prog_11_method_83_code
def yX9_tellParts : MethodName := ⟨RX9, "tellParts", "(JJ)V"⟩
abbrev cX9_endLifted : ByteArray := prog_11_method_84_code
def yX9_endLifted : MethodName := ⟨RX9, "endLifted", "(II)I"⟩
abbrev cX9_tellLifts : ByteArray := prog_11_method_85_code
def yX9_tellLifts : MethodName := ⟨RX9, "tellLifts", "(IIIZ)I"⟩
abbrev cX9_odds : ByteArray := prog_11_method_86_code
def yX9_odds : MethodName := ⟨RX9, "odds", "(III)I"⟩
abbrev cX9_mid : ByteArray := prog_11_method_87_code
def yX9_mid : MethodName := ⟨RX9, "mid", "(II)I"⟩
abbrev cX9_allBonds : ByteArray := prog_11_method_88_code
def yX9_allBonds : MethodName := ⟨RX9, "allBonds", "()I"⟩
abbrev cX9_byLot : ByteArray := prog_11_method_89_code
def yX9_byLot : MethodName := ⟨RX9, "byLot", "(J)V"⟩
abbrev cX9_lots : ByteArray := prog_11_method_90_code
def yX9_lots : MethodName := ⟨RX9, "lots", "(II)I"⟩
abbrev cX9_asked : ByteArray := prog_11_method_91_code
def yX9_asked : MethodName := ⟨RX9, "asked", "()I"⟩
abbrev cX9_upper : ByteArray := prog_11_method_92_code
def yX9_upper : MethodName := ⟨RX9, "upper", "()J"⟩
abbrev cX9_lower : ByteArray := prog_11_method_93_code
def yX9_lower : MethodName := ⟨RX9, "lower", "()J"⟩
abbrev cX9_those : ByteArray := prog_11_method_94_code
def yX9_those : MethodName := ⟨RX9, "those", "(I)I"⟩
abbrev cX9_thereOf : ByteArray := prog_11_method_95_code
def yX9_thereOf : MethodName := ⟨RX9, "thereOf", "(I)I"⟩
abbrev cX9_countOf : ByteArray := prog_11_method_96_code
def yX9_countOf : MethodName := ⟨RX9, "countOf", "(I)I"⟩
abbrev cX9_count : ByteArray := prog_11_method_97_code
def yX9_count : MethodName := ⟨RX9, "count", "(I)I"⟩
abbrev cX9_finding : ByteArray := prog_11_method_98_code
def yX9_finding : MethodName := ⟨RX9, "finding", "()I"⟩
abbrev cX9_findings : ByteArray := prog_11_method_99_code
def yX9_findings : MethodName := ⟨RX9, "findings", "(I)I"⟩
abbrev cX9_digest : ByteArray := prog_11_method_100_code
def yX9_digest : MethodName := ⟨RX9, "digest", "()J"⟩
def RJ6 : String := "java/lang/Integer"
def TJ6 : u_T := fun k => match k with
  | _ => ("", "", "", false)
def tyJ6 : Nat → FieldType := fun k => match k with
  | _ => .int
theorem nmJ6 : ∀ a, a < 0 → ∀ b, b < 0 → a ≠ b → (TJ6 a).2.1 ≠ (TJ6 b).2.1 := by decide +kernel
theorem tyJ6_ok : ∀ k, k < 0 → parseFieldDescriptor (TJ6 k).2.2.1 = some (tyJ6 k) := by decide +kernel
abbrev cJ6_bitCount_0f7a4 : ByteArray := prog_12_method_49_code
def yJ6_bitCount_0f7a4 : MethodName := ⟨RJ6, "bitCount", "(I)I"⟩
def RJ9 : String := "java/lang/Math"
def TJ9 : u_T := fun k => match k with
  | _ => ("", "", "", false)
def tyJ9 : Nat → FieldType := fun k => match k with
  | _ => .int
theorem nmJ9 : ∀ a, a < 0 → ∀ b, b < 0 → a ≠ b → (TJ9 a).2.1 ≠ (TJ9 b).2.1 := by decide +kernel
theorem tyJ9_ok : ∀ k, k < 0 → parseFieldDescriptor (TJ9 k).2.2.1 = some (tyJ9 k) := by decide +kernel
abbrev cJ9_abs_0f7a4 : ByteArray := prog_13_method_59_code
def yJ9_abs_0f7a4 : MethodName := ⟨RJ9, "abs", "(I)I"⟩
abbrev cJ9_max_7cf53 : ByteArray := prog_13_method_65_code
def yJ9_max_7cf53 : MethodName := ⟨RJ9, "max", "(II)I"⟩
abbrev cJ9_min_7cf53 : ByteArray := prog_13_method_69_code
def yJ9_min_7cf53 : MethodName := ⟨RJ9, "min", "(II)I"⟩
def RJ10 : String := "java/lang/System"
def TJ10 : u_T := fun k => match k with
  | _ => ("", "", "", false)
def tyJ10 : Nat → FieldType := fun k => match k with
  | _ => .int
theorem nmJ10 : ∀ a, a < 0 → ∀ b, b < 0 → a ≠ b → (TJ10 a).2.1 ≠ (TJ10 b).2.1 := by decide +kernel
theorem tyJ10_ok : ∀ k, k < 0 → parseFieldDescriptor (TJ10 k).2.2.1 = some (tyJ10 k) := by decide +kernel
def RL : String := "LetterEndsLaw"
abbrev cL_law : ByteArray := code
def yL_law : MethodName := ⟨RL, "law", "([I)Z"⟩
end
section
/-! THE FIXED WORLD: cells in a layout, contents in a memory; the judgement zV over it -/
/-- the words of the tables that stay true as the machine goes on -/
def zT : List Cond := lw_tbl.filter goodWord
theorem zT_of {q : Cond} (h : q ∈ lw_tbl) (hg : goodWord q = true) : q ∈ zT := List.mem_filter.mpr ⟨h, hg⟩
theorem zT_in {q : Cond} (h : q ∈ zT) : q ∈ lw_tbl := (List.mem_filter.mp h).1
abbrev zMem : Type := (Nat → Nat → Int32) × (Nat → Nat → Int64)
/-- the words of the functions: a named value, a check, a call -/
def zl {α β : Type} (a : α) (k : α → β) : β := k a
def zc {ρ : Type} (b : Bool) (k : Option ρ) : Option ρ := match b with
  | true => k
  | false => none
def zb {α ρ : Type} (a : Option (α × zMem)) (k : α → zMem → Option ρ) : Option ρ := match a with
  | some (r, S) => k r S
  | none => none
def zi (i : Int32) (n : Nat) : Bool := !(decide (i < 0) || decide (n ≤ i.toNatClampNeg))
def zbo (x : Int32) : Bool := decide (x = 0) || decide (x = 1)
def zp (S : zMem) (c : Nat) (f : Nat → Int32) : zMem := (fun q => if q = c then f else S.1 q, S.2)
def zq (S : zMem) (c : Nat) (f : Nat → Int64) : zMem := (S.1, fun q => if q = c then f else S.2 q)
theorem zc_e {ρ : Type} {b : Bool} {k : Option ρ} {r : ρ} (h : zc b k = some r) : b = true ∧ k = some r := by
  cases b
  · cases h
  · exact ⟨rfl, h⟩
theorem zb_e {α ρ : Type} {a : Option (α × zMem)} {k : α → zMem → Option ρ} {r : ρ} (h : zb a k = some r) : ∃ x S, a = some (x, S) ∧ k x S = some r := by
  cases a with
  | none => cases h
  | some q => exact ⟨q.1, q.2, rfl, h⟩
theorem zi_in {i : Int32} {n : Nat} (h : zi i n = true) : vp_in i n := by
  simp only [zi, Bool.not_eq_true', Bool.or_eq_false_iff, decide_eq_false_iff_not] at h
  exact fun q => q.elim h.1 h.2
/-- the classes whose objects the worlds hold -/
abbrev zcl : List vw_C := [(RX0, TX0, 1), (RX2, TX2, 9), (RX3, TX3, 7), (RX4, TX4, 12), (RX5, TX5, 1), (RX6, TX6, 8), (RX7, TX7, 2), (RX8, TX8, 15), (RX9, TX9, 27)]
/-- how many fields; what a field is: 0 an int, 1 a long, 2 a reference -/
def znf : Nat → Nat
  | 0 => 1 | 1 => 9 | 2 => 7 | 3 => 12 | 4 => 1 | 5 => 8 | 6 => 2 | 7 => 15 | 8 => 27 | _ => 0
def zfts : Nat → List Nat
  | 0 => [2] | 1 => [2, 2, 0, 0, 0, 0, 1, 1, 1] | 2 => [2, 2, 2, 0, 0, 0, 0] | 3 => [2, 2, 2, 2, 2, 0, 0, 0, 0, 0, 0, 0] | 4 => [2]
  | 5 => [2, 2, 2, 2, 0, 0, 0, 0] | 6 => [2, 0] | 7 => [2, 2, 2, 2, 2, 2, 2, 2, 2, 2, 2, 0, 0, 1, 1]
  | 8 => [2, 0, 0, 2, 2, 2, 2, 2, 2, 2, 0, 1, 1, 0, 2, 0, 0, 0, 0, 0, 0, 2, 0, 2, 2, 2, 2] | _ => []
def zft (ci k : Nat) : Nat := (zfts ci).getD k 0
/-- a layout: how many cells; of which kind (0 ints, 1 Strips, 2 Posts, 3 + ci an object); how long; where a reference goes to -/
abbrev zLay : Type := Nat × (Nat → Nat) × (Nat → Nat) × (Nat → Nat → Nat)
/-- a world's addresses: class numbers and slots, array classes, cells, statics -/
abbrev zWd : Type := va_G × (Nat → ClassId) × (Nat → Nat) × (Nat → Nat)
def zfv (L : zLay) (w : zWd) (S : zMem) (ci c k : Nat) : Value := if zft ci k = 0 then .int (S.1 c k) else if zft ci k = 1 then .long (S.2 c k) else .ref (w.2.2.1 (L.2.2.2 c k))
def zce (L : zLay) (w : zWd) (S : zMem) (c : Nat) : va_E :=
  if L.2.1 c = 0 then .inl (w.2.1 0, L.2.2.1 c, .inl (S.1 c))
  else if L.2.1 c ≤ 2 then .inl (w.2.1 (L.2.1 c), L.2.2.1 c, .inr (.inr (.inr (.inr fun i => some (w.2.2.1 (L.2.2.2 c i))))))
  else .inr (L.2.1 c - 3, (List.range (znf (L.2.1 c - 3))).map (zfv L w S (L.2.1 c - 3) c))
def zcs (L : zLay) (w : zWd) (S : zMem) : va_W := (List.range L.1).map fun c => (w.2.2.1 c, zce L w S c)
abbrev zty (w : zWd) : List (ClassId × FieldType) := [(w.2.1 0, .int), (w.2.1 1, .object RX7), (w.2.1 2, .object RX4)]
def zA (L : zLay) (w : zWd) : Nat → Prop := fun q => ∃ c, c < L.1 ∧ q = w.2.2.1 c
def zinj (L : zLay) (w : zWd) : Prop := ∀ a b, a < L.1 → b < L.1 → w.2.2.1 a = w.2.2.1 b → a = b
def zsig (j : Nat) : Int32 := ([108, 116, 98, 118, 107, 102] : List Int32).getD j 0
def zpar (j : Nat) : Int32 := ([-9, 0, 0, 0, 1, 3] : List Int32).getD j 0
def zst (L : zLay) (w : zWd) (U : State) (H : Heap) : Prop :=
  (va_Z RX1 "SIGNS" "[C" (.ref (w.2.2.2 0)) (zA L w) U H ∧ va_T .char (w.2.2.2 0) 6 (fun j => .int (zsig j)) (zA L w) U H) ∧
  (va_Z RX1 "PARENTS" "[I" (.ref (w.2.2.2 1)) (zA L w) U H ∧ va_T .int (w.2.2.2 1) 6 (fun j => .int (zpar j)) (zA L w) U H)
theorem zst.moved {L : zLay} {w : zWd} {u U : State} {H : Heap} (hvm : u.vm.Alike U.vm) (h : zst L w u H) : zst L w U H := ⟨⟨h.1.1.moved hvm, h.1.2.moved hvm⟩, ⟨h.2.1.moved hvm, h.2.2.moved hvm⟩⟩
theorem zst.kept {L : zLay} {w : zWd} {U : State} {H H1 : Heap} (h : zst L w U H) (hq : ∀ a : Nat, a < H.size → ¬ zA L w a → H1[a]? = H[a]?) : zst L w U H1 := ⟨⟨h.1.1.kept hq, h.1.2.kept hq⟩, ⟨h.2.1.kept hq, h.2.2.kept hq⟩⟩
/-- the world: its cells with the memory's contents, the tables, the statics -/
def zWo (L : zLay) (w : zWd) (S : zMem) (U : State) : Prop := va_P w.1 zcl (zcs L w S) U.heap ∧ va_K w.1 zcl (zty w) U ∧ zinj L w ∧ zst L w U U.heap
theorem zcs_at {L : zLay} {w : zWd} {S : zMem} {c : Nat} (h : c < L.1) : (zcs L w S)[c]? = some (w.2.2.1 c, zce L w S c) := by simp [zcs, h]
theorem zcs_of {L : zLay} {w : zWd} {S : zMem} {k : Nat} {q : Nat × va_E} (h : (zcs L w S)[k]? = some q) : k < L.1 ∧ q = (w.2.2.1 k, zce L w S k) := by
  have hl : k < (zcs L w S).length := (List.getElem?_eq_some_iff.mp h).1
  have hk : k < L.1 := by simpa [zcs] using hl
  rw [zcs_at hk] at h
  exact ⟨hk, (Option.some.inj h).symm⟩
theorem zcs_D {L : zLay} {w : zWd} {S : zMem} (h : zinj L w) : va_D (zA L w) (zcs L w S) := by
  refine ⟨fun i j x y hi hj hxy => ?_, fun k q hk => ?_⟩
  · obtain ⟨h1, rfl⟩ := zcs_of hi
    obtain ⟨h2, rfl⟩ := zcs_of hj
    exact h i j h1 h2 hxy
  · obtain ⟨h1, rfl⟩ := zcs_of hk
    exact ⟨k, h1, rfl⟩
theorem zcs_set {L : zLay} {w : zWd} {S S1 : zMem} {c : Nat} {e : va_E} (h : c < L.1) (he : zce L w S1 c = e) (ho : ∀ q, q ≠ c → zce L w S1 q = zce L w S q) : (zcs L w S).set c (w.2.2.1 c, e) = zcs L w S1 := by
  refine List.ext_getElem? fun k => ?_
  by_cases hk : k = c
  · subst hk
    rw [List.getElem?_set_self (by simpa [zcs] using h), zcs_at h, he]
  · rw [List.getElem?_set_ne (fun q => hk q.symm)]
    by_cases hn : k < L.1
    · rw [zcs_at hn, zcs_at hn, ho k hk]
    · rw [List.getElem?_eq_none (by simp [zcs]; omega), List.getElem?_eq_none (by simp [zcs]; omega)]
theorem zce_i {L : zLay} {w : zWd} {S : zMem} {c : Nat} (h : L.2.1 c = 0) : zce L w S c = .inl (w.2.1 0, L.2.2.1 c, .inl (S.1 c)) := by simp [zce, h]
theorem zce_o {L : zLay} {w : zWd} {S : zMem} {c ci : Nat} (h : L.2.1 c = 3 + ci) : zce L w S c = .inr (ci, (List.range (znf ci)).map (zfv L w S ci c)) := by
  have h1 : ¬ 3 + ci = 0 := by omega
  have h2 : ¬ 3 + ci ≤ 2 := by omega
  have h3 : 3 + ci - 3 = ci := by omega
  simp only [zce, h, h1, h2, h3, if_false]
theorem zce_r {L : zLay} {w : zWd} {S : zMem} {c t : Nat} (h : L.2.1 c = t) (h1 : t = 1 ∨ t = 2) : zce L w S c = .inl (w.2.1 t, L.2.2.1 c, .inr (.inr (.inr (.inr fun i => some (w.2.2.1 (L.2.2.2 c i)))))) := by
  have h2 : ¬ t = 0 := by omega
  have h3 : t ≤ 2 := by omega
  simp only [zce, h, h2, h3, if_false, if_true]
theorem zp_ne {S : zMem} {c q : Nat} {f : Nat → Int32} (h : q ≠ c) : (zp S c f).1 q = S.1 q := by simp [zp, h]
theorem zp_eq {S : zMem} {c : Nat} {f : Nat → Int32} : (zp S c f).1 c = f := by simp [zp]
theorem zp_2 {S : zMem} {c : Nat} {f : Nat → Int32} : (zp S c f).2 = S.2 := rfl
theorem zq_ne {S : zMem} {c q : Nat} {f : Nat → Int64} (h : q ≠ c) : (zq S c f).2 q = S.2 q := by simp [zq, h]
theorem zq_eq {S : zMem} {c : Nat} {f : Nat → Int64} : (zq S c f).2 c = f := by simp [zq]
theorem zq_1 {S : zMem} {c : Nat} {f : Nat → Int64} : (zq S c f).1 = S.1 := rfl
theorem zce_pn {L : zLay} {w : zWd} {S : zMem} {c q : Nat} {f : Nat → Int32} (h : q ≠ c) : zce L w (zp S c f) q = zce L w S q := by
  have e : zfv L w (zp S c f) (L.2.1 q - 3) q = zfv L w S (L.2.1 q - 3) q := by
    funext k
    simp only [zfv, zp_ne h, zp_2]
  simp only [zce, zp_ne h, e]
theorem zce_qn {L : zLay} {w : zWd} {S : zMem} {c q : Nat} {f : Nat → Int64} (h : q ≠ c) : zce L w (zq S c f) q = zce L w S q := by
  have e : zfv L w (zq S c f) (L.2.1 q - 3) q = zfv L w S (L.2.1 q - 3) q := by
    funext k
    simp only [zfv, zq_ne h, zq_1]
  simp only [zce, zq_1, e]
theorem zcs_pi {L : zLay} {w : zWd} {S : zMem} {c : Nat} {f : Nat → Int32} (h : c < L.1) (hk : L.2.1 c = 0) : (zcs L w S).set c (w.2.2.1 c, .inl (w.2.1 0, L.2.2.1 c, .inl f)) = zcs L w (zp S c f) :=
  zcs_set h (by rw [zce_i hk, zp_eq]) (fun q hq => zce_pn hq)
theorem zset_map {N k : Nat} {f g : Nat → Value} {v : Value} (hk : g k = v) (ho : ∀ j, j ≠ k → g j = f j) : ((List.range N).map f).set k v = (List.range N).map g := by
  refine List.ext_getElem? fun j => ?_
  by_cases hj : j = k
  · subst hj
    by_cases hn : j < N
    · rw [List.getElem?_set_self (by simpa using hn)]
      simp [hn, hk]
    · rw [List.getElem?_eq_none (by simp; omega), List.getElem?_eq_none (by simp; omega)]
  · rw [List.getElem?_set_ne (fun q => hj q.symm)]
    by_cases hn : j < N
    · simp [hn, ho j hj]
    · rw [List.getElem?_eq_none (by simp; omega), List.getElem?_eq_none (by simp; omega)]
theorem zcs_po {L : zLay} {w : zWd} {S : zMem} {c ci k : Nat} {v : Int32} (h : c < L.1) (hk : L.2.1 c = 3 + ci) (ht : zft ci k = 0) : (zcs L w S).set c (w.2.2.1 c, .inr (ci, ((List.range (znf ci)).map (zfv L w S ci c)).set k (.int v))) = zcs L w (zp S c (upd (S.1 c) k v)) := by
  refine zcs_set h ?_ (fun q hq => zce_pn hq)
  rw [zce_o hk]
  rw [zset_map (g := zfv L w (zp S c (upd (S.1 c) k v)) ci c)]
  · simp [zfv, ht, zp_eq, upd]
  · intro j hj
    simp [zfv, zp_eq, zp_2, upd, hj]
theorem zcs_ql {L : zLay} {w : zWd} {S : zMem} {c ci k : Nat} {v : Int64} (h : c < L.1) (hk : L.2.1 c = 3 + ci) (ht : zft ci k = 1) : (zcs L w S).set c (w.2.2.1 c, .inr (ci, ((List.range (znf ci)).map (zfv L w S ci c)).set k (.long v))) = zcs L w (zq S c (vp_updL (S.2 c) k v)) := by
  refine zcs_set h ?_ (fun q hq => zce_qn hq)
  rw [zce_o hk]
  rw [zset_map (g := zfv L w (zq S c (vp_updL (S.2 c) k v)) ci c)]
  · simp [zfv, ht, zq_eq, vp_updL]
  · intro j hj
    simp [zfv, zq_eq, zq_1, vp_updL, hj]
theorem zmap_at {N k : Nat} {f : Nat → Value} (h : k < N) : ((List.range N).map f)[k]? = some (f k) := by simp [h]
end
section
/-! the judgement zV: the machine at a pc, over the world with memory S, comes to its end with the answer r and the memory S1 -/
abbrev zX : Type := Program × Launch × Env × Room × State × MethodId × Array Value × List Frame × Method × Code
def zrm (lev : Nat) : Room := { frames := lev, cells := 0, slots := 0, locals := 64 * lev }
def zQ (L : zLay) (w : zWd) (r : Option Value) (S1 : zMem) : Array Value → State → Outcome → State → Prop := fun _ st oc t => oc = .returned r ∧ zWo L w S1 t ∧ va_F (zA L w) st t
def zMet (L : zLay) (w : zWd) (l : Launch) (y : MethodName) (bytes : ByteArray) (maxL : Nat) (ret : Option FieldType) (lev : Nat) (As : List Value) (S : zMem) (r : Option Value) (S1 : zMem) : Prop :=
  Met l y (.code y bytes maxL ret :: zT) (zrm lev) (va_Pc As (zWo L w S)) (zQ L w r S1) 0 0 (zA L w)
def zV (L : zLay) (w : zWd) (X : zX) (r : Option Value) (S1 S : zMem) (pc : Nat) (ls : Array Slot) (st : List Value) : Prop := match X with
  | (p, l, e, R, s, m, args, below, meth, c) => ∀ (H : Heap) (locs : List Loc), va_P w.1 zcl (zcs L w S) H → va_S (zA L w) s.heap H locs → W p l e R s m args below meth c H locs 0 0 (MQ below (zQ L w r S1) args s 0 0 (zA L w)) (F0 m pc ls st)
def zC (L : zLay) (w : zWd) (X : zX) (l0 : Launch) (cc : ByteArray) (own : String) (nL lev : Nat) (ret : Option FieldType) : Prop := match X with
  | (p, l, _, R, s, m, args, _, meth, c) => (l = l0 ∧ p.tables.exec = Jvm.exec ∧ c.code = cc ∧ c.maxLocals = nL ∧ s.vm.findClass own = some m.cls ∧ (∀ q ∈ zT, q.before args s = true)) ∧ (va_K w.1 zcl (zty w) s ∧ zinj L w ∧ zst L w s s.heap) ∧ meth.locks = false ∧ meth.sig.returnType = ret ∧ R = zrm lev
section ZR
variable {L : zLay} {w : zWd} {X : zX} {r : Option Value} {S1 S : zMem} {ls : Array Slot} {st : List Value} {cc : ByteArray} {own : String} {nL lev : Nat} {ret : Option FieldType} {ρ : Type} {res : ρ} {lv : List (Nat × Value)} {l0 : Launch}
theorem v_iconst (pc : Nat) (C : zC L w X l0 cc own nL lev ret) {n : Int} {v : Int32} (hd : decode cc pc = .ok (.iconst n, 1)) (hv : Int32.ofInt n = v) (k : zV L w X r S1 S (pc + 1) ls (.int v :: st)) : zV L w X r S1 S pc ls st := by
  obtain ⟨p, l, e, R, s, m, args, below, meth, c⟩ := X
  intro H locs hP hS
  exact lv_iconst C.1.2.1 C.1.2.2.1 hd hv (k H locs hP hS)
theorem v_bipush (pc : Nat) (C : zC L w X l0 cc own nL lev ret) {n : Int} {v : Int32} (hd : decode cc pc = .ok (.bipush n, 2)) (hv : (Int8.ofInt n).toInt32 = v) (k : zV L w X r S1 S (pc + 2) ls (.int v :: st)) : zV L w X r S1 S pc ls st := by
  obtain ⟨p, l, e, R, s, m, args, below, meth, c⟩ := X
  intro H locs hP hS
  exact lv_bipush C.1.2.1 C.1.2.2.1 hd hv (k H locs hP hS)
theorem v_sipush (pc : Nat) (C : zC L w X l0 cc own nL lev ret) {n : Int} {v : Int32} (hd : decode cc pc = .ok (.sipush n, 3)) (hv : (Int16.ofInt n).toInt32 = v) (k : zV L w X r S1 S (pc + 3) ls (.int v :: st)) : zV L w X r S1 S pc ls st := by
  obtain ⟨p, l, e, R, s, m, args, below, meth, c⟩ := X
  intro H locs hP hS
  exact lv_sipush C.1.2.1 C.1.2.2.1 hd hv (k H locs hP hS)
theorem v_lconst (pc : Nat) (C : zC L w X l0 cc own nL lev ret) {n : Fin 2} {v : Int64} (hd : decode cc pc = .ok (.lconst n, 1)) (hv : Int64.ofNat (n : Nat) = v) (k : zV L w X r S1 S (pc + 1) ls (.long v :: st)) : zV L w X r S1 S pc ls st := by
  obtain ⟨p, l, e, R, s, m, args, below, meth, c⟩ := X
  intro H locs hP hS
  exact lv_lconst C.1.2.1 C.1.2.2.1 hd hv (k H locs hP hS)
theorem v_ldc (pc : Nat) (C : zC L w X l0 cc own nL lev ret) {idx : Nat} {v : Int32} (hd : decode cc pc = .ok (.ldc idx, 2)) (hw : Cond.constant own idx v ∈ zT) (k : zV L w X r S1 S (pc + 2) ls (.int v :: st)) : zV L w X r S1 S pc ls st := by
  obtain ⟨p, l, e, R, s, m, args, below, meth, c⟩ := X
  intro H locs hP hS
  exact lv_ldc C.1.2.1 C.1.2.2.1 C.1.2.2.2.2.1 (C.1.2.2.2.2.2 _ hw) hd (k H locs hP hS)
theorem v_ldc2 (pc : Nat) (C : zC L w X l0 cc own nL lev ret) {idx : Nat} {v : Int64} (hd : decode cc pc = .ok (.ldc2_w idx, 3)) (hw : Cond.constantLong own idx v ∈ zT) (k : zV L w X r S1 S (pc + 3) ls (.long v :: st)) : zV L w X r S1 S pc ls st := by
  obtain ⟨p, l, e, R, s, m, args, below, meth, c⟩ := X
  intro H locs hP hS
  exact lv_ldc2 C.1.2.1 C.1.2.2.1 C.1.2.2.2.2.1 (C.1.2.2.2.2.2 _ hw) hd (k H locs hP hS)
theorem v_iload_n (pc : Nat) (C : zC L w X l0 cc own nL lev ret) {k : Fin 4} {i : Nat} {x : Int32} (hd : decode cc pc = .ok (.iload_n k, 1)) (hi : (k : Nat) = i) (hl : ls[i]? = some (.val (.int x))) (kk : zV L w X r S1 S (pc + 1) ls (.int x :: st)) : zV L w X r S1 S pc ls st := by
  obtain ⟨p, l, e, R, s, m, args, below, meth, c⟩ := X
  intro H locs hP hS
  exact lv_iload_n C.1.2.1 C.1.2.2.1 hd hi hl (kk H locs hP hS)
theorem v_iload (pc : Nat) (C : zC L w X l0 cc own nL lev ret) {i : Nat} {x : Int32} (hd : decode cc pc = .ok (.iload i, 2)) (hl : ls[i]? = some (.val (.int x))) (kk : zV L w X r S1 S (pc + 2) ls (.int x :: st)) : zV L w X r S1 S pc ls st := by
  obtain ⟨p, l, e, R, s, m, args, below, meth, c⟩ := X
  intro H locs hP hS
  exact lv_iload C.1.2.1 C.1.2.2.1 hd hl (kk H locs hP hS)
theorem v_lload_n (pc : Nat) (C : zC L w X l0 cc own nL lev ret) {k : Fin 4} {i : Nat} {x : Int64} (hd : decode cc pc = .ok (.lload_n k, 1)) (hi : (k : Nat) = i) (hl : ls[i]? = some (.val (.long x))) (kk : zV L w X r S1 S (pc + 1) ls (.long x :: st)) : zV L w X r S1 S pc ls st := by
  obtain ⟨p, l, e, R, s, m, args, below, meth, c⟩ := X
  intro H locs hP hS
  exact lv_lload_n C.1.2.1 C.1.2.2.1 hd hi hl (kk H locs hP hS)
theorem v_lload (pc : Nat) (C : zC L w X l0 cc own nL lev ret) {i : Nat} {x : Int64} (hd : decode cc pc = .ok (.lload i, 2)) (hl : ls[i]? = some (.val (.long x))) (kk : zV L w X r S1 S (pc + 2) ls (.long x :: st)) : zV L w X r S1 S pc ls st := by
  obtain ⟨p, l, e, R, s, m, args, below, meth, c⟩ := X
  intro H locs hP hS
  exact lv_lload C.1.2.1 C.1.2.2.1 hd hl (kk H locs hP hS)
theorem v_aload_n (pc : Nat) (C : zC L w X l0 cc own nL lev ret) {k : Fin 4} {i x : Nat} (hd : decode cc pc = .ok (.aload_n k, 1)) (hi : (k : Nat) = i) (hl : ls[i]? = some (.val (.ref x))) (kk : zV L w X r S1 S (pc + 1) ls (.ref x :: st)) : zV L w X r S1 S pc ls st := by
  obtain ⟨p, l, e, R, s, m, args, below, meth, c⟩ := X
  intro H locs hP hS
  exact lv_aload_n C.1.2.1 C.1.2.2.1 hd hi hl (kk H locs hP hS)
theorem v_aload (pc : Nat) (C : zC L w X l0 cc own nL lev ret) {i x : Nat} (hd : decode cc pc = .ok (.aload i, 2)) (hl : ls[i]? = some (.val (.ref x))) (kk : zV L w X r S1 S (pc + 2) ls (.ref x :: st)) : zV L w X r S1 S pc ls st := by
  obtain ⟨p, l, e, R, s, m, args, below, meth, c⟩ := X
  intro H locs hP hS
  exact lv_aload C.1.2.1 C.1.2.2.1 hd hl (kk H locs hP hS)
theorem v_istore_n (pc : Nat) (C : zC L w X l0 cc own nL lev ret) {k : Fin 4} {i : Nat} {x : Int32} (lv' : List (Nat × Value)) (hd : decode cc pc = .ok (.istore_n k, 1)) (hi : (k : Nat) = i) (h : lv_has ls nL lv) (hn : i < nL) (hl : (i, Value.int x) :: lv.filter (fun q => !(q.1 == i) && !(q.1 + 1 == i && q.2.category == 2)) = lv') (kk : ∀ ls' : Array Slot, lv_has ls' nL lv' → zV L w X r S1 S (pc + 1) ls' st) : zV L w X r S1 S pc ls (.int x :: st) := by
  obtain ⟨p, l, e, R, s, m, args, below, meth, c⟩ := X
  intro H locs hP hS
  exact lv_istore_n C.1.2.1 C.1.2.2.1 hd hi h hn hl (fun ls' h' => kk ls' h' H locs hP hS)
theorem v_istore (pc : Nat) (C : zC L w X l0 cc own nL lev ret) {i : Nat} {x : Int32} (lv' : List (Nat × Value)) (hd : decode cc pc = .ok (.istore i, 2)) (h : lv_has ls nL lv) (hn : i < nL) (hl : (i, Value.int x) :: lv.filter (fun q => !(q.1 == i) && !(q.1 + 1 == i && q.2.category == 2)) = lv') (kk : ∀ ls' : Array Slot, lv_has ls' nL lv' → zV L w X r S1 S (pc + 2) ls' st) : zV L w X r S1 S pc ls (.int x :: st) := by
  obtain ⟨p, l, e, R, s, m, args, below, meth, c⟩ := X
  intro H locs hP hS
  exact lv_istore C.1.2.1 C.1.2.2.1 hd h hn hl (fun ls' h' => kk ls' h' H locs hP hS)
theorem v_lstore_n (pc : Nat) (C : zC L w X l0 cc own nL lev ret) {k : Fin 4} {i : Nat} {x : Int64} (lv' : List (Nat × Value)) (hd : decode cc pc = .ok (.lstore_n k, 1)) (hi : (k : Nat) = i) (h : lv_has ls nL lv) (hn : i + 1 < nL) (hl : (i, Value.long x) :: lv.filter (fun q => !(q.1 == i) && (!(q.1 == i + 1) && !(q.1 + 1 == i && q.2.category == 2))) = lv') (kk : ∀ ls' : Array Slot, lv_has ls' nL lv' → zV L w X r S1 S (pc + 1) ls' st) : zV L w X r S1 S pc ls (.long x :: st) := by
  obtain ⟨p, l, e, R, s, m, args, below, meth, c⟩ := X
  intro H locs hP hS
  exact lv_lstore_n C.1.2.1 C.1.2.2.1 hd hi h hn hl (fun ls' h' => kk ls' h' H locs hP hS)
theorem v_lstore (pc : Nat) (C : zC L w X l0 cc own nL lev ret) {i : Nat} {x : Int64} (lv' : List (Nat × Value)) (hd : decode cc pc = .ok (.lstore i, 2)) (h : lv_has ls nL lv) (hn : i + 1 < nL) (hl : (i, Value.long x) :: lv.filter (fun q => !(q.1 == i) && (!(q.1 == i + 1) && !(q.1 + 1 == i && q.2.category == 2))) = lv') (kk : ∀ ls' : Array Slot, lv_has ls' nL lv' → zV L w X r S1 S (pc + 2) ls' st) : zV L w X r S1 S pc ls (.long x :: st) := by
  obtain ⟨p, l, e, R, s, m, args, below, meth, c⟩ := X
  intro H locs hP hS
  exact lv_lstore C.1.2.1 C.1.2.2.1 hd h hn hl (fun ls' h' => kk ls' h' H locs hP hS)
theorem v_astore_n (pc : Nat) (C : zC L w X l0 cc own nL lev ret) {k : Fin 4} {i x : Nat} (lv' : List (Nat × Value)) (hd : decode cc pc = .ok (.astore_n k, 1)) (hi : (k : Nat) = i) (h : lv_has ls nL lv) (hn : i < nL) (hl : (i, Value.ref x) :: lv.filter (fun q => !(q.1 == i) && !(q.1 + 1 == i && q.2.category == 2)) = lv') (kk : ∀ ls' : Array Slot, lv_has ls' nL lv' → zV L w X r S1 S (pc + 1) ls' st) : zV L w X r S1 S pc ls (.ref x :: st) := by
  obtain ⟨p, l, e, R, s, m, args, below, meth, c⟩ := X
  intro H locs hP hS
  exact lv_astore_n C.1.2.1 C.1.2.2.1 hd hi h hn hl (fun ls' h' => kk ls' h' H locs hP hS)
theorem v_astore (pc : Nat) (C : zC L w X l0 cc own nL lev ret) {i x : Nat} (lv' : List (Nat × Value)) (hd : decode cc pc = .ok (.astore i, 2)) (h : lv_has ls nL lv) (hn : i < nL) (hl : (i, Value.ref x) :: lv.filter (fun q => !(q.1 == i) && !(q.1 + 1 == i && q.2.category == 2)) = lv') (kk : ∀ ls' : Array Slot, lv_has ls' nL lv' → zV L w X r S1 S (pc + 2) ls' st) : zV L w X r S1 S pc ls (.ref x :: st) := by
  obtain ⟨p, l, e, R, s, m, args, below, meth, c⟩ := X
  intro H locs hP hS
  exact lv_astore C.1.2.1 C.1.2.2.1 hd h hn hl (fun ls' h' => kk ls' h' H locs hP hS)
theorem v_iinc (pc : Nat) (C : zC L w X l0 cc own nL lev ret) {i k : Nat} {n : Int} {x nn : Int32} (lv' : Int32 → List (Nat × Value)) (hd : decode cc pc = .ok (.iinc i n, 3)) (h : lv_has ls nL lv) (hk : lv[k]? = some (i, .int x)) (hnn : Int32.ofInt n = nn) (hn : i < nL) (hl : ∀ v, (i, Value.int v) :: lv.filter (fun q => !(q.1 == i) && !(q.1 + 1 == i && q.2.category == 2)) = lv' v) {K : Int32 → Option ρ} (hK : zl (x + nn) K = some res) (kk : ∀ (v : Int32) (ls' : Array Slot), lv_has ls' nL (lv' v) → K v = some res → zV L w X r S1 S (pc + 3) ls' st) : zV L w X r S1 S pc ls st := by
  obtain ⟨p, l, e, R, s, m, args, below, meth, c⟩ := X
  intro H locs hP hS
  exact lv_iinc (v := x + nn) C.1.2.1 C.1.2.2.1 hd h hk (by rw [hnn]) hn (hl _) (fun ls' h' => kk _ ls' h' hK H locs hP hS)
end ZR
end
section
section ZS
variable {L : zLay} {w : zWd} {X : zX} {r : Option Value} {S1 S : zMem} {ls : Array Slot} {st : List Value} {cc : ByteArray} {own : String} {nL lev : Nat} {ret : Option FieldType} {ρ : Type} {res : ρ} {lv : List (Nat × Value)} {l0 : Launch}
theorem v_iadd (pc : Nat) (C : zC L w X l0 cc own nL lev ret) {x : Int32} {y : Int32} (hd : decode cc pc = .ok (.iadd, 1)) {K : Int32 → Option ρ} (h : zl (x + y) K = some res) (kk : ∀ z, K z = some res → zV L w X r S1 S (pc + 1) ls (.int z :: st)) : zV L w X r S1 S pc ls (.int y :: .int x :: st) := by
  obtain ⟨p, l, e, R, s, m, args, below, meth, c⟩ := X
  intro H locs hP hS
  exact lv_iadd C.1.2.1 C.1.2.2.1 hd (kk _ h H locs hP hS)
theorem v_isub (pc : Nat) (C : zC L w X l0 cc own nL lev ret) {x : Int32} {y : Int32} (hd : decode cc pc = .ok (.isub, 1)) {K : Int32 → Option ρ} (h : zl (x - y) K = some res) (kk : ∀ z, K z = some res → zV L w X r S1 S (pc + 1) ls (.int z :: st)) : zV L w X r S1 S pc ls (.int y :: .int x :: st) := by
  obtain ⟨p, l, e, R, s, m, args, below, meth, c⟩ := X
  intro H locs hP hS
  exact lv_isub C.1.2.1 C.1.2.2.1 hd (kk _ h H locs hP hS)
theorem v_imul (pc : Nat) (C : zC L w X l0 cc own nL lev ret) {x : Int32} {y : Int32} (hd : decode cc pc = .ok (.imul, 1)) {K : Int32 → Option ρ} (h : zl (x * y) K = some res) (kk : ∀ z, K z = some res → zV L w X r S1 S (pc + 1) ls (.int z :: st)) : zV L w X r S1 S pc ls (.int y :: .int x :: st) := by
  obtain ⟨p, l, e, R, s, m, args, below, meth, c⟩ := X
  intro H locs hP hS
  exact lv_imul C.1.2.1 C.1.2.2.1 hd (kk _ h H locs hP hS)
theorem v_iand (pc : Nat) (C : zC L w X l0 cc own nL lev ret) {x : Int32} {y : Int32} (hd : decode cc pc = .ok (.iand, 1)) {K : Int32 → Option ρ} (h : zl (x &&& y) K = some res) (kk : ∀ z, K z = some res → zV L w X r S1 S (pc + 1) ls (.int z :: st)) : zV L w X r S1 S pc ls (.int y :: .int x :: st) := by
  obtain ⟨p, l, e, R, s, m, args, below, meth, c⟩ := X
  intro H locs hP hS
  exact lv_iand C.1.2.1 C.1.2.2.1 hd (kk _ h H locs hP hS)
theorem v_ior (pc : Nat) (C : zC L w X l0 cc own nL lev ret) {x : Int32} {y : Int32} (hd : decode cc pc = .ok (.ior, 1)) {K : Int32 → Option ρ} (h : zl (x ||| y) K = some res) (kk : ∀ z, K z = some res → zV L w X r S1 S (pc + 1) ls (.int z :: st)) : zV L w X r S1 S pc ls (.int y :: .int x :: st) := by
  obtain ⟨p, l, e, R, s, m, args, below, meth, c⟩ := X
  intro H locs hP hS
  exact lv_ior C.1.2.1 C.1.2.2.1 hd (kk _ h H locs hP hS)
theorem v_ixor (pc : Nat) (C : zC L w X l0 cc own nL lev ret) {x : Int32} {y : Int32} (hd : decode cc pc = .ok (.ixor, 1)) {K : Int32 → Option ρ} (h : zl (x ^^^ y) K = some res) (kk : ∀ z, K z = some res → zV L w X r S1 S (pc + 1) ls (.int z :: st)) : zV L w X r S1 S pc ls (.int y :: .int x :: st) := by
  obtain ⟨p, l, e, R, s, m, args, below, meth, c⟩ := X
  intro H locs hP hS
  exact lv_ixor C.1.2.1 C.1.2.2.1 hd (kk _ h H locs hP hS)
theorem v_ishl (pc : Nat) (C : zC L w X l0 cc own nL lev ret) {x : Int32} {y : Int32} (hd : decode cc pc = .ok (.ishl, 1)) {K : Int32 → Option ρ} (h : zl (x <<< (y &&& 31)) K = some res) (kk : ∀ z, K z = some res → zV L w X r S1 S (pc + 1) ls (.int z :: st)) : zV L w X r S1 S pc ls (.int y :: .int x :: st) := by
  obtain ⟨p, l, e, R, s, m, args, below, meth, c⟩ := X
  intro H locs hP hS
  exact lv_ishl C.1.2.1 C.1.2.2.1 hd (kk _ h H locs hP hS)
theorem v_ishr (pc : Nat) (C : zC L w X l0 cc own nL lev ret) {x : Int32} {y : Int32} (hd : decode cc pc = .ok (.ishr, 1)) {K : Int32 → Option ρ} (h : zl (x >>> (y &&& 31)) K = some res) (kk : ∀ z, K z = some res → zV L w X r S1 S (pc + 1) ls (.int z :: st)) : zV L w X r S1 S pc ls (.int y :: .int x :: st) := by
  obtain ⟨p, l, e, R, s, m, args, below, meth, c⟩ := X
  intro H locs hP hS
  exact lv_ishr C.1.2.1 C.1.2.2.1 hd (kk _ h H locs hP hS)
theorem v_iushr (pc : Nat) (C : zC L w X l0 cc own nL lev ret) {x : Int32} {y : Int32} (hd : decode cc pc = .ok (.iushr, 1)) {K : Int32 → Option ρ} (h : zl ((x.toUInt32 >>> (y.toUInt32 &&& Int32.toUInt32 31)).toInt32) K = some res) (kk : ∀ z, K z = some res → zV L w X r S1 S (pc + 1) ls (.int z :: st)) : zV L w X r S1 S pc ls (.int y :: .int x :: st) := by
  obtain ⟨p, l, e, R, s, m, args, below, meth, c⟩ := X
  intro H locs hP hS
  exact lv_iushr C.1.2.1 C.1.2.2.1 hd rfl (kk _ h H locs hP hS)
theorem v_ladd (pc : Nat) (C : zC L w X l0 cc own nL lev ret) {x : Int64} {y : Int64} (hd : decode cc pc = .ok (.ladd, 1)) {K : Int64 → Option ρ} (h : zl (x + y) K = some res) (kk : ∀ z, K z = some res → zV L w X r S1 S (pc + 1) ls (.long z :: st)) : zV L w X r S1 S pc ls (.long y :: .long x :: st) := by
  obtain ⟨p, l, e, R, s, m, args, below, meth, c⟩ := X
  intro H locs hP hS
  exact lv_ladd C.1.2.1 C.1.2.2.1 hd (kk _ h H locs hP hS)
theorem v_lsub (pc : Nat) (C : zC L w X l0 cc own nL lev ret) {x : Int64} {y : Int64} (hd : decode cc pc = .ok (.lsub, 1)) {K : Int64 → Option ρ} (h : zl (x - y) K = some res) (kk : ∀ z, K z = some res → zV L w X r S1 S (pc + 1) ls (.long z :: st)) : zV L w X r S1 S pc ls (.long y :: .long x :: st) := by
  obtain ⟨p, l, e, R, s, m, args, below, meth, c⟩ := X
  intro H locs hP hS
  exact lv_lsub C.1.2.1 C.1.2.2.1 hd (kk _ h H locs hP hS)
theorem v_lmul (pc : Nat) (C : zC L w X l0 cc own nL lev ret) {x : Int64} {y : Int64} (hd : decode cc pc = .ok (.lmul, 1)) {K : Int64 → Option ρ} (h : zl (x * y) K = some res) (kk : ∀ z, K z = some res → zV L w X r S1 S (pc + 1) ls (.long z :: st)) : zV L w X r S1 S pc ls (.long y :: .long x :: st) := by
  obtain ⟨p, l, e, R, s, m, args, below, meth, c⟩ := X
  intro H locs hP hS
  exact lv_lmul C.1.2.1 C.1.2.2.1 hd (kk _ h H locs hP hS)
theorem v_ineg (pc : Nat) (C : zC L w X l0 cc own nL lev ret) {x : Int32} (hd : decode cc pc = .ok (.ineg, 1)) {K : Int32 → Option ρ} (h : zl (-x) K = some res) (kk : ∀ z, K z = some res → zV L w X r S1 S (pc + 1) ls (.int z :: st)) : zV L w X r S1 S pc ls (.int x :: st) := by
  obtain ⟨p, l, e, R, s, m, args, below, meth, c⟩ := X
  intro H locs hP hS
  exact lv_ineg C.1.2.1 C.1.2.2.1 hd (kk _ h H locs hP hS)
theorem v_i2l (pc : Nat) (C : zC L w X l0 cc own nL lev ret) {x : Int32} (hd : decode cc pc = .ok (.i2l, 1)) {K : Int64 → Option ρ} (h : zl (x.toInt64) K = some res) (kk : ∀ z, K z = some res → zV L w X r S1 S (pc + 1) ls (.long z :: st)) : zV L w X r S1 S pc ls (.int x :: st) := by
  obtain ⟨p, l, e, R, s, m, args, below, meth, c⟩ := X
  intro H locs hP hS
  exact lv_i2l C.1.2.1 C.1.2.2.1 hd rfl (kk _ h H locs hP hS)
theorem v_l2i (pc : Nat) (C : zC L w X l0 cc own nL lev ret) {x : Int64} (hd : decode cc pc = .ok (.l2i, 1)) {K : Int32 → Option ρ} (h : zl (x.toInt32) K = some res) (kk : ∀ z, K z = some res → zV L w X r S1 S (pc + 1) ls (.int z :: st)) : zV L w X r S1 S pc ls (.long x :: st) := by
  obtain ⟨p, l, e, R, s, m, args, below, meth, c⟩ := X
  intro H locs hP hS
  exact lv_l2i C.1.2.1 C.1.2.2.1 hd rfl (kk _ h H locs hP hS)
theorem v_i2b (pc : Nat) (C : zC L w X l0 cc own nL lev ret) {x : Int32} (hd : decode cc pc = .ok (.i2b, 1)) {K : Int32 → Option ρ} (h : zl (x.toInt8.toInt32) K = some res) (kk : ∀ z, K z = some res → zV L w X r S1 S (pc + 1) ls (.int z :: st)) : zV L w X r S1 S pc ls (.int x :: st) := by
  obtain ⟨p, l, e, R, s, m, args, below, meth, c⟩ := X
  intro H locs hP hS
  exact lv_i2b C.1.2.1 C.1.2.2.1 hd rfl (kk _ h H locs hP hS)
theorem v_lcmp (pc : Nat) (C : zC L w X l0 cc own nL lev ret) {x : Int64} {y : Int64} (hd : decode cc pc = .ok (.lcmp, 1)) {K : Int32 → Option ρ} (h : zl (lg_cmp x y) K = some res) (kk : ∀ z, K z = some res → zV L w X r S1 S (pc + 1) ls (.int z :: st)) : zV L w X r S1 S pc ls (.long y :: .long x :: st) := by
  obtain ⟨p, l, e, R, s, m, args, below, meth, c⟩ := X
  intro H locs hP hS
  exact W.lcmp C.1.2.1 C.1.2.2.1 hd (kk _ h H locs hP hS)
theorem v_idiv (pc : Nat) (C : zC L w X l0 cc own nL lev ret) {x : Int32} {y : Int32} (hd : decode cc pc = .ok (.idiv, 1)) (hne : ¬ y = 0) {K : Int32 → Option ρ} (h : zl (x / y) K = some res) (kk : ∀ z, K z = some res → zV L w X r S1 S (pc + 1) ls (.int z :: st)) : zV L w X r S1 S pc ls (.int y :: .int x :: st) := by
  obtain ⟨p, l, e, R, s, m, args, below, meth, c⟩ := X
  intro H locs hP hS
  exact lv_idiv C.1.2.1 C.1.2.2.1 hd hne (kk _ h H locs hP hS)
theorem v_idivc (pc : Nat) (C : zC L w X l0 cc own nL lev ret) {x y : Int32} (hd : decode cc pc = .ok (.idiv, 1)) {K : Int32 → Option ρ} (h : zc (decide (¬ y = 0)) (zl (x / y) K) = some res) (kk : ∀ z, K z = some res → zV L w X r S1 S (pc + 1) ls (.int z :: st)) : zV L w X r S1 S pc ls (.int y :: .int x :: st) := v_idiv pc C hd (of_decide_eq_true (zc_e h).1) (zc_e h).2 kk
theorem v_irem (pc : Nat) (C : zC L w X l0 cc own nL lev ret) {x : Int32} {y : Int32} (hd : decode cc pc = .ok (.irem, 1)) (hne : ¬ y = 0) {K : Int32 → Option ρ} (h : zl (x - x / y * y) K = some res) (kk : ∀ z, K z = some res → zV L w X r S1 S (pc + 1) ls (.int z :: st)) : zV L w X r S1 S pc ls (.int y :: .int x :: st) := by
  obtain ⟨p, l, e, R, s, m, args, below, meth, c⟩ := X
  intro H locs hP hS
  exact lv_irem C.1.2.1 C.1.2.2.1 hd hne (kk _ h H locs hP hS)
theorem v_iremc (pc : Nat) (C : zC L w X l0 cc own nL lev ret) {x y : Int32} (hd : decode cc pc = .ok (.irem, 1)) {K : Int32 → Option ρ} (h : zc (decide (¬ y = 0)) (zl (x - x / y * y) K) = some res) (kk : ∀ z, K z = some res → zV L w X r S1 S (pc + 1) ls (.int z :: st)) : zV L w X r S1 S pc ls (.int y :: .int x :: st) := v_irem pc C hd (of_decide_eq_true (zc_e h).1) (zc_e h).2 kk
theorem v_ldiv (pc : Nat) (C : zC L w X l0 cc own nL lev ret) {x : Int64} {y : Int64} (hd : decode cc pc = .ok (.ldiv, 1)) (hne : ¬ y = 0) {K : Int64 → Option ρ} (h : zl (x / y) K = some res) (kk : ∀ z, K z = some res → zV L w X r S1 S (pc + 1) ls (.long z :: st)) : zV L w X r S1 S pc ls (.long y :: .long x :: st) := by
  obtain ⟨p, l, e, R, s, m, args, below, meth, c⟩ := X
  intro H locs hP hS
  exact lv_ldiv C.1.2.1 C.1.2.2.1 hd hne (kk _ h H locs hP hS)
theorem v_ldivc (pc : Nat) (C : zC L w X l0 cc own nL lev ret) {x y : Int64} (hd : decode cc pc = .ok (.ldiv, 1)) {K : Int64 → Option ρ} (h : zc (decide (¬ y = 0)) (zl (x / y) K) = some res) (kk : ∀ z, K z = some res → zV L w X r S1 S (pc + 1) ls (.long z :: st)) : zV L w X r S1 S pc ls (.long y :: .long x :: st) := v_ldiv pc C hd (of_decide_eq_true (zc_e h).1) (zc_e h).2 kk
theorem v_lrem (pc : Nat) (C : zC L w X l0 cc own nL lev ret) {x : Int64} {y : Int64} (hd : decode cc pc = .ok (.lrem, 1)) (hne : ¬ y = 0) {K : Int64 → Option ρ} (h : zl (x - x / y * y) K = some res) (kk : ∀ z, K z = some res → zV L w X r S1 S (pc + 1) ls (.long z :: st)) : zV L w X r S1 S pc ls (.long y :: .long x :: st) := by
  obtain ⟨p, l, e, R, s, m, args, below, meth, c⟩ := X
  intro H locs hP hS
  exact lv_lrem C.1.2.1 C.1.2.2.1 hd hne (kk _ h H locs hP hS)
theorem v_lremc (pc : Nat) (C : zC L w X l0 cc own nL lev ret) {x y : Int64} (hd : decode cc pc = .ok (.lrem, 1)) {K : Int64 → Option ρ} (h : zc (decide (¬ y = 0)) (zl (x - x / y * y) K) = some res) (kk : ∀ z, K z = some res → zV L w X r S1 S (pc + 1) ls (.long z :: st)) : zV L w X r S1 S pc ls (.long y :: .long x :: st) := v_lrem pc C hd (of_decide_eq_true (zc_e h).1) (zc_e h).2 kk
theorem v_if_eq (pc tgt : Nat) (C : zC L w X l0 cc own nL lev ret) {x : Int32} {off : Int} (hd : decode cc pc = .ok (.ifCond .eq off, 3)) (ht : (pc : Int) + off = (tgt : Int)) {A B : Option ρ} {inst : Decidable (x = 0)} (h : (if x = 0 then A else B) = some res) (kt : A = some res → zV L w X r S1 S tgt ls st) (kf : B = some res → zV L w X r S1 S (pc + 3) ls st) : zV L w X r S1 S pc ls (.int x :: st) := by
  obtain ⟨p, l, e, R, s, m, args, below, meth, c⟩ := X
  intro H locs hP hS
  exact lv_if_eq C.1.2.1 C.1.2.2.1 hd ht (fun q => kt (by rw [if_pos q] at h; exact h) H locs hP hS) (fun q => kf (by rw [if_neg q] at h; exact h) H locs hP hS)
theorem v_if_ne (pc tgt : Nat) (C : zC L w X l0 cc own nL lev ret) {x : Int32} {off : Int} (hd : decode cc pc = .ok (.ifCond .ne off, 3)) (ht : (pc : Int) + off = (tgt : Int)) {A B : Option ρ} {inst : Decidable (x = 0)} (h : (if x = 0 then A else B) = some res) (kt : B = some res → zV L w X r S1 S tgt ls st) (kf : A = some res → zV L w X r S1 S (pc + 3) ls st) : zV L w X r S1 S pc ls (.int x :: st) := by
  obtain ⟨p, l, e, R, s, m, args, below, meth, c⟩ := X
  intro H locs hP hS
  exact lv_if_ne C.1.2.1 C.1.2.2.1 hd ht (fun q => kt (by rw [if_neg q] at h; exact h) H locs hP hS) (fun q => kf (by rw [if_pos q] at h; exact h) H locs hP hS)
theorem v_if_lt (pc tgt : Nat) (C : zC L w X l0 cc own nL lev ret) {x : Int32} {off : Int} (hd : decode cc pc = .ok (.ifCond .lt off, 3)) (ht : (pc : Int) + off = (tgt : Int)) {A B : Option ρ} {inst : Decidable (x < 0)} (h : (if x < 0 then A else B) = some res) (kt : A = some res → zV L w X r S1 S tgt ls st) (kf : B = some res → zV L w X r S1 S (pc + 3) ls st) : zV L w X r S1 S pc ls (.int x :: st) := by
  obtain ⟨p, l, e, R, s, m, args, below, meth, c⟩ := X
  intro H locs hP hS
  exact lv_if_lt C.1.2.1 C.1.2.2.1 hd ht (fun q => kt (by rw [if_pos q] at h; exact h) H locs hP hS) (fun q => kf (by rw [if_neg q] at h; exact h) H locs hP hS)
theorem v_if_ge (pc tgt : Nat) (C : zC L w X l0 cc own nL lev ret) {x : Int32} {off : Int} (hd : decode cc pc = .ok (.ifCond .ge off, 3)) (ht : (pc : Int) + off = (tgt : Int)) {A B : Option ρ} {inst : Decidable (0 ≤ x)} (h : (if 0 ≤ x then A else B) = some res) (kt : A = some res → zV L w X r S1 S tgt ls st) (kf : B = some res → zV L w X r S1 S (pc + 3) ls st) : zV L w X r S1 S pc ls (.int x :: st) := by
  obtain ⟨p, l, e, R, s, m, args, below, meth, c⟩ := X
  intro H locs hP hS
  exact lv_if_ge C.1.2.1 C.1.2.2.1 hd ht (fun q => kt (by rw [if_pos q] at h; exact h) H locs hP hS) (fun q => kf (by rw [if_neg q] at h; exact h) H locs hP hS)
theorem v_if_gt (pc tgt : Nat) (C : zC L w X l0 cc own nL lev ret) {x : Int32} {off : Int} (hd : decode cc pc = .ok (.ifCond .gt off, 3)) (ht : (pc : Int) + off = (tgt : Int)) {A B : Option ρ} {inst : Decidable (0 < x)} (h : (if 0 < x then A else B) = some res) (kt : A = some res → zV L w X r S1 S tgt ls st) (kf : B = some res → zV L w X r S1 S (pc + 3) ls st) : zV L w X r S1 S pc ls (.int x :: st) := by
  obtain ⟨p, l, e, R, s, m, args, below, meth, c⟩ := X
  intro H locs hP hS
  exact lv_if_gt C.1.2.1 C.1.2.2.1 hd ht (fun q => kt (by rw [if_pos q] at h; exact h) H locs hP hS) (fun q => kf (by rw [if_neg q] at h; exact h) H locs hP hS)
theorem v_if_le (pc tgt : Nat) (C : zC L w X l0 cc own nL lev ret) {x : Int32} {off : Int} (hd : decode cc pc = .ok (.ifCond .le off, 3)) (ht : (pc : Int) + off = (tgt : Int)) {A B : Option ρ} {inst : Decidable (x ≤ 0)} (h : (if x ≤ 0 then A else B) = some res) (kt : A = some res → zV L w X r S1 S tgt ls st) (kf : B = some res → zV L w X r S1 S (pc + 3) ls st) : zV L w X r S1 S pc ls (.int x :: st) := by
  obtain ⟨p, l, e, R, s, m, args, below, meth, c⟩ := X
  intro H locs hP hS
  exact lv_if_le C.1.2.1 C.1.2.2.1 hd ht (fun q => kt (by rw [if_pos q] at h; exact h) H locs hP hS) (fun q => kf (by rw [if_neg q] at h; exact h) H locs hP hS)
theorem v_icmp_eq (pc tgt : Nat) (C : zC L w X l0 cc own nL lev ret) {x y : Int32} {off : Int} (hd : decode cc pc = .ok (.if_icmp .eq off, 3)) (ht : (pc : Int) + off = (tgt : Int)) {A B : Option ρ} {inst : Decidable (x = y)} (h : (if x = y then A else B) = some res) (kt : A = some res → zV L w X r S1 S tgt ls st) (kf : B = some res → zV L w X r S1 S (pc + 3) ls st) : zV L w X r S1 S pc ls (.int y :: .int x :: st) := by
  obtain ⟨p, l, e, R, s, m, args, below, meth, c⟩ := X
  intro H locs hP hS
  exact lv_icmp_eq C.1.2.1 C.1.2.2.1 hd ht (fun q => kt (by rw [if_pos q] at h; exact h) H locs hP hS) (fun q => kf (by rw [if_neg q] at h; exact h) H locs hP hS)
theorem v_icmp_ne (pc tgt : Nat) (C : zC L w X l0 cc own nL lev ret) {x y : Int32} {off : Int} (hd : decode cc pc = .ok (.if_icmp .ne off, 3)) (ht : (pc : Int) + off = (tgt : Int)) {A B : Option ρ} {inst : Decidable (x = y)} (h : (if x = y then A else B) = some res) (kt : B = some res → zV L w X r S1 S tgt ls st) (kf : A = some res → zV L w X r S1 S (pc + 3) ls st) : zV L w X r S1 S pc ls (.int y :: .int x :: st) := by
  obtain ⟨p, l, e, R, s, m, args, below, meth, c⟩ := X
  intro H locs hP hS
  exact lv_icmp_ne C.1.2.1 C.1.2.2.1 hd ht (fun q => kt (by rw [if_neg q] at h; exact h) H locs hP hS) (fun q => kf (by rw [if_pos q] at h; exact h) H locs hP hS)
theorem v_icmp_lt (pc tgt : Nat) (C : zC L w X l0 cc own nL lev ret) {x y : Int32} {off : Int} (hd : decode cc pc = .ok (.if_icmp .lt off, 3)) (ht : (pc : Int) + off = (tgt : Int)) {A B : Option ρ} {inst : Decidable (x < y)} (h : (if x < y then A else B) = some res) (kt : A = some res → zV L w X r S1 S tgt ls st) (kf : B = some res → zV L w X r S1 S (pc + 3) ls st) : zV L w X r S1 S pc ls (.int y :: .int x :: st) := by
  obtain ⟨p, l, e, R, s, m, args, below, meth, c⟩ := X
  intro H locs hP hS
  exact lv_icmp_lt C.1.2.1 C.1.2.2.1 hd ht (fun q => kt (by rw [if_pos q] at h; exact h) H locs hP hS) (fun q => kf (by rw [if_neg q] at h; exact h) H locs hP hS)
theorem v_icmp_ge (pc tgt : Nat) (C : zC L w X l0 cc own nL lev ret) {x y : Int32} {off : Int} (hd : decode cc pc = .ok (.if_icmp .ge off, 3)) (ht : (pc : Int) + off = (tgt : Int)) {A B : Option ρ} {inst : Decidable (y ≤ x)} (h : (if y ≤ x then A else B) = some res) (kt : A = some res → zV L w X r S1 S tgt ls st) (kf : B = some res → zV L w X r S1 S (pc + 3) ls st) : zV L w X r S1 S pc ls (.int y :: .int x :: st) := by
  obtain ⟨p, l, e, R, s, m, args, below, meth, c⟩ := X
  intro H locs hP hS
  exact lv_icmp_ge C.1.2.1 C.1.2.2.1 hd ht (fun q => kt (by rw [if_pos q] at h; exact h) H locs hP hS) (fun q => kf (by rw [if_neg q] at h; exact h) H locs hP hS)
theorem v_icmp_gt (pc tgt : Nat) (C : zC L w X l0 cc own nL lev ret) {x y : Int32} {off : Int} (hd : decode cc pc = .ok (.if_icmp .gt off, 3)) (ht : (pc : Int) + off = (tgt : Int)) {A B : Option ρ} {inst : Decidable (y < x)} (h : (if y < x then A else B) = some res) (kt : A = some res → zV L w X r S1 S tgt ls st) (kf : B = some res → zV L w X r S1 S (pc + 3) ls st) : zV L w X r S1 S pc ls (.int y :: .int x :: st) := by
  obtain ⟨p, l, e, R, s, m, args, below, meth, c⟩ := X
  intro H locs hP hS
  exact lv_icmp_gt C.1.2.1 C.1.2.2.1 hd ht (fun q => kt (by rw [if_pos q] at h; exact h) H locs hP hS) (fun q => kf (by rw [if_neg q] at h; exact h) H locs hP hS)
theorem v_icmp_le (pc tgt : Nat) (C : zC L w X l0 cc own nL lev ret) {x y : Int32} {off : Int} (hd : decode cc pc = .ok (.if_icmp .le off, 3)) (ht : (pc : Int) + off = (tgt : Int)) {A B : Option ρ} {inst : Decidable (x ≤ y)} (h : (if x ≤ y then A else B) = some res) (kt : A = some res → zV L w X r S1 S tgt ls st) (kf : B = some res → zV L w X r S1 S (pc + 3) ls st) : zV L w X r S1 S pc ls (.int y :: .int x :: st) := by
  obtain ⟨p, l, e, R, s, m, args, below, meth, c⟩ := X
  intro H locs hP hS
  exact lv_icmp_le C.1.2.1 C.1.2.2.1 hd ht (fun q => kt (by rw [if_pos q] at h; exact h) H locs hP hS) (fun q => kf (by rw [if_neg q] at h; exact h) H locs hP hS)
theorem v_goto (pc tgt : Nat) (C : zC L w X l0 cc own nL lev ret) {off : Int} (hd : decode cc pc = .ok (.goto off, 3)) (ht : (pc : Int) + off = (tgt : Int)) (kk : zV L w X r S1 S tgt ls st) : zV L w X r S1 S pc ls st := by
  obtain ⟨p, l, e, R, s, m, args, below, meth, c⟩ := X
  intro H locs hP hS
  exact lv_goto C.1.2.1 C.1.2.2.1 hd ht (kk H locs hP hS)
theorem v_tab (pc tgt : Nat) (C : zC L w X l0 cc own nL lev ret) {dflt lo hi off : Int} {offs : Array Int} {len : Nat} {x : Int32} (hd : decode cc pc = .ok (.tableswitch dflt lo hi offs, len)) (h1 : ¬ x.toInt < lo) (h2 : ¬ hi < x.toInt) (ho : offs[(x.toInt - lo).toNat]? = some off) (ht : (pc : Int) + off = (tgt : Int)) (kk : zV L w X r S1 S tgt ls st) : zV L w X r S1 S pc ls (.int x :: st) := by
  obtain ⟨p, l, e, R, s, m, args, below, meth, c⟩ := X
  intro H locs hP hS
  exact lv_tableIn C.1.2.1 C.1.2.2.1 hd h1 h2 ho ht (kk H locs hP hS)
theorem v_tabo (pc tgt : Nat) (C : zC L w X l0 cc own nL lev ret) {dflt lo hi : Int} {offs : Array Int} {len : Nat} {x : Int32} (hd : decode cc pc = .ok (.tableswitch dflt lo hi offs, len)) (h1 : x.toInt < lo ∨ hi < x.toInt) (ht : (pc : Int) + dflt = (tgt : Int)) (kk : zV L w X r S1 S tgt ls st) : zV L w X r S1 S pc ls (.int x :: st) := by
  obtain ⟨p, l, e, R, s, m, args, below, meth, c⟩ := X
  intro H locs hP hS
  exact lv_tableOut C.1.2.1 C.1.2.2.1 hd h1 ht (kk H locs hP hS)
theorem v_look (pc tgt : Nat) (C : zC L w X l0 cc own nL lev ret) {dflt off : Int} {ps : Array (Int × Int)} {len : Nat} {x : Int32} (hd : decode cc pc = .ok (.lookupswitch dflt ps, len)) (hp : (ps.toList.zip (ps.toList.drop 1)).all (fun (a, next) => a.1 < next.1) = true) (ho : Op.lookupswitch.offset ps.toList dflt x.toInt = off) (ht : (pc : Int) + off = (tgt : Int)) (kk : zV L w X r S1 S tgt ls st) : zV L w X r S1 S pc ls (.int x :: st) := by
  obtain ⟨p, l, e, R, s, m, args, below, meth, c⟩ := X
  intro H locs hP hS
  exact lv_lookup C.1.2.1 C.1.2.2.1 hd hp ho ht (kk H locs hP hS)
theorem v_ite {c : Prop} {inst : Decidable c} {A B : Option ρ} {G : Prop} (h : (if c then A else B) = some res) (kt : c → A = some res → G) (kf : ¬ c → B = some res → G) : G := by
  by_cases q : c
  · rw [if_pos q] at h
    exact kt q h
  · rw [if_neg q] at h
    exact kf q h
theorem v_dup (pc : Nat) (C : zC L w X l0 cc own nL lev ret) {va : Value} (hd : decode cc pc = .ok (.dup, 1)) (hva : va.category = 1) (kk : zV L w X r S1 S (pc + 1) ls (va :: va :: st)) : zV L w X r S1 S pc ls (va :: st) := by
  obtain ⟨p, l, e, R, s, m, args, below, meth, c⟩ := X
  intro H locs hP hS
  exact lv_dup C.1.2.1 C.1.2.2.1 hd hva (kk H locs hP hS)
theorem v_dup2 (pc : Nat) (C : zC L w X l0 cc own nL lev ret) {va vb : Value} (hd : decode cc pc = .ok (.dup2, 1)) (hva : va.category = 1) (hvb : vb.category = 1) (kk : zV L w X r S1 S (pc + 1) ls (va :: vb :: va :: vb :: st)) : zV L w X r S1 S pc ls (va :: vb :: st) := by
  obtain ⟨p, l, e, R, s, m, args, below, meth, c⟩ := X
  intro H locs hP hS
  exact lv_dup2_11 C.1.2.1 C.1.2.2.1 hd hva hvb (kk H locs hP hS)
theorem v_pop (pc : Nat) (C : zC L w X l0 cc own nL lev ret) {va : Value} (hd : decode cc pc = .ok (.pop, 1)) (hva : va.category = 1) (kk : zV L w X r S1 S (pc + 1) ls st) : zV L w X r S1 S pc ls (va :: st) := by
  obtain ⟨p, l, e, R, s, m, args, below, meth, c⟩ := X
  intro H locs hP hS
  exact lv_pop C.1.2.1 C.1.2.2.1 hd hva (kk H locs hP hS)
end ZS
end
section
/-! the class tables; rows of the heap, of calls, of the ends -/
theorem zin_0 : ∀ q ∈ u_ws RX0 TX0 1, q ∈ zT := by decide +kernel
theorem zin_1 : ∀ q ∈ u_ws RX2 TX2 9, q ∈ zT := by decide +kernel
theorem zin_2 : ∀ q ∈ u_ws RX3 TX3 7, q ∈ zT := by decide +kernel
theorem zin_3 : ∀ q ∈ u_ws RX4 TX4 12, q ∈ zT := by decide +kernel
theorem zin_4 : ∀ q ∈ u_ws RX5 TX5 1, q ∈ zT := by decide +kernel
theorem zin_5 : ∀ q ∈ u_ws RX6 TX6 8, q ∈ zT := by decide +kernel
theorem zin_6 : ∀ q ∈ u_ws RX7 TX7 2, q ∈ zT := by decide +kernel
theorem zin_7 : ∀ q ∈ u_ws RX8 TX8 15, q ∈ zT := by decide +kernel
theorem zin_8 : ∀ q ∈ u_ws RX9 TX9 27, q ∈ zT := by decide +kernel
def zok1 (q : vw_C) (ci : Nat) : Prop := (∀ x ∈ u_ws q.1 q.2.1 q.2.2, x ∈ zT) ∧ znf ci = q.2.2 ∧ (∃ ty0 : Nat → FieldType, ∀ k, k < q.2.2 → parseFieldDescriptor (q.2.1 k).2.2.1 = some (ty0 k)) ∧ (∀ a, a < q.2.2 → ∀ b, b < q.2.2 → a ≠ b → (q.2.1 a).2.1 ≠ (q.2.1 b).2.1)
theorem zok : ∀ (ci : Nat) (q : vw_C), zcl[ci]? = some q → zok1 q ci := by
  intro ci q h
  match ci, h with
  | 0, h => cases h; exact ⟨zin_0, rfl, ⟨_, tyX0_ok⟩, nmX0⟩
  | 1, h => cases h; exact ⟨zin_1, rfl, ⟨_, tyX2_ok⟩, nmX2⟩
  | 2, h => cases h; exact ⟨zin_2, rfl, ⟨_, tyX3_ok⟩, nmX3⟩
  | 3, h => cases h; exact ⟨zin_3, rfl, ⟨_, tyX4_ok⟩, nmX4⟩
  | 4, h => cases h; exact ⟨zin_4, rfl, ⟨_, tyX5_ok⟩, nmX5⟩
  | 5, h => cases h; exact ⟨zin_5, rfl, ⟨_, tyX6_ok⟩, nmX6⟩
  | 6, h => cases h; exact ⟨zin_6, rfl, ⟨_, tyX7_ok⟩, nmX7⟩
  | 7, h => cases h; exact ⟨zin_7, rfl, ⟨_, tyX8_ok⟩, nmX8⟩
  | 8, h => cases h; exact ⟨zin_8, rfl, ⟨_, tyX9_ok⟩, nmX9⟩
  | n + 9, h => simp [zcl] at h
/-- a place of the tables that links a field; one that may be written -/
def zFL (own : String) (idx ci k : Nat) : Prop := ∃ q : vw_C, zcl[ci]? = some q ∧ k < q.2.2 ∧ Cond.fieldLink own idx (q.2.1 k).1 (q.2.1 k).2.1 (q.2.1 k).2.2.1 ∈ zT
def zFP (ci k : Nat) (ty : FieldType) : Prop := ∀ q : vw_C, zcl[ci]? = some q → (q.2.1 k).2.2.2 = false ∧ parseFieldDescriptor (q.2.1 k).2.2.1 = some ty
section ZT
variable {L : zLay} {w : zWd} {X : zX} {r : Option Value} {S1 S : zMem} {ls : Array Slot} {st : List Value} {cc : ByteArray} {own : String} {nL lev : Nat} {ret : Option FieldType} {ρ : Type} {res : ρ} {l0 : Launch}
theorem v_get (pc : Nat) (C : zC L w X l0 cc own nL lev ret) {idx ci k c : Nat} (hd : decode cc pc = .ok (.getfield idx, 3)) (fl : zFL own idx ci k) (hk : c < L.1 ∧ L.2.1 c = 3 + ci) {v : Value} (hv : zfv L w S ci c k = v) (kk : zV L w X r S1 S (pc + 3) ls (v :: st)) : zV L w X r S1 S pc ls (.ref (w.2.2.1 c) :: st) := by
  obtain ⟨p, l, e, R, s, m, args, below, meth, cd⟩ := X
  intro H locs hP hS
  obtain ⟨⟨CN, T, N⟩, h1, h2, h3⟩ := fl
  obtain ⟨g1, g2, -⟩ := zok ci _ h1
  exact va_get (ci := ci) (T := T) (N := N) (C := CN) C.1.2.1 C.1.2.2.1 C.1.2.2.2.2.2 g1 C.1.2.2.2.2.1 C.2.1.1 hP c (by rw [zcs_at hk.1, zce_o hk.2]) h1 k h2 (C.1.2.2.2.2.2 _ h3) (fun _ h9 => h9) (by rw [g2]; rw [zmap_at h2, hv]) hd (kk H locs hP hS)
theorem v_geti (pc : Nat) (C : zC L w X l0 cc own nL lev ret) {idx ci k c : Nat} (hd : decode cc pc = .ok (.getfield idx, 3)) (fl : zFL own idx ci k) (ht : zft ci k = 0) (hk : c < L.1 ∧ L.2.1 c = 3 + ci) {K : Int32 → Option ρ} (h : zl (S.1 c k) K = some res) (kk : ∀ x, K x = some res → zV L w X r S1 S (pc + 3) ls (.int x :: st)) : zV L w X r S1 S pc ls (.ref (w.2.2.1 c) :: st) :=
  v_get pc C hd fl hk (by simp [zfv, ht]) (kk _ h)
theorem v_getl (pc : Nat) (C : zC L w X l0 cc own nL lev ret) {idx ci k c : Nat} (hd : decode cc pc = .ok (.getfield idx, 3)) (fl : zFL own idx ci k) (ht : zft ci k = 1) (hk : c < L.1 ∧ L.2.1 c = 3 + ci) {K : Int64 → Option ρ} (h : zl (S.2 c k) K = some res) (kk : ∀ x, K x = some res → zV L w X r S1 S (pc + 3) ls (.long x :: st)) : zV L w X r S1 S pc ls (.ref (w.2.2.1 c) :: st) :=
  v_get pc C hd fl hk (by simp [zfv, ht]) (kk _ h)
theorem v_getr (pc c1 : Nat) (C : zC L w X l0 cc own nL lev ret) {idx ci k c : Nat} (hd : decode cc pc = .ok (.getfield idx, 3)) (fl : zFL own idx ci k) (ht : zft ci k = 2) (hk : c < L.1 ∧ L.2.1 c = 3 + ci) (hr : L.2.2.2 c k = c1) (kk : zV L w X r S1 S (pc + 3) ls (.ref (w.2.2.1 c1) :: st)) : zV L w X r S1 S pc ls (.ref (w.2.2.1 c) :: st) :=
  v_get pc C hd fl hk (by simp [zfv, ht, hr]) kk
theorem v_puti (pc : Nat) (C : zC L w X l0 cc own nL lev ret) {idx ci k c : Nat} (hd : decode cc pc = .ok (.putfield idx, 3)) (fl : zFL own idx ci k) (fp : zFP ci k .int) (ht : zft ci k = 0) (hk : c < L.1 ∧ L.2.1 c = 3 + ci) {x : Int32} {K : zMem → Option ρ} (h : zl (zp S c (upd (S.1 c) k x)) K = some res) (kk : ∀ S, K S = some res → zV L w X r S1 S (pc + 3) ls st) : zV L w X r S1 S pc ls (.int x :: .ref (w.2.2.1 c) :: st) := by
  obtain ⟨p, l, e, R, s, m, args, below, meth, cd⟩ := X
  intro H locs hP hS
  obtain ⟨⟨CN, T, N⟩, h1, h2, h3⟩ := fl
  obtain ⟨g1, g2, ⟨ty0, g3⟩, g4⟩ := zok ci _ h1
  obtain ⟨f1, f2⟩ := fp _ h1
  have hat : (zcs L w S)[c]? = some (w.2.2.1 c, .inr (ci, (List.range (znf ci)).map (zfv L w S ci c))) := by rw [zcs_at hk.1, zce_o hk.2]
  refine va_put (ci := ci) (T := T) (N := N) (C := CN) (ty := .int) (v := .int x) C.1.2.1 C.1.2.2.1 C.1.2.2.2.2.2 g1 ty0 g3 g4 C.1.2.2.2.2.1 C.2.1.1 hP (zcs_D C.2.1.2.1) hS c hat h1 k h2 (C.1.2.2.2.2.2 _ h3) (fun _ h9 => h9) f1 f2 rfl rfl (by rw [List.length_map, List.length_range, g2]; exact h2) hd (fun H1 locs1 hP1 hD1 hS1 => ?_)
  rw [zcs_po hk.1 hk.2 ht] at hP1
  exact kk _ h H1 locs1 hP1 hS1
theorem v_putz (pc : Nat) (C : zC L w X l0 cc own nL lev ret) {idx ci k c : Nat} (hd : decode cc pc = .ok (.putfield idx, 3)) (fl : zFL own idx ci k) (fp : zFP ci k .boolean) (ht : zft ci k = 0) (hk : c < L.1 ∧ L.2.1 c = 3 + ci) {x : Int32} {K : zMem → Option ρ} (h : zc (zbo x) (zl (zp S c (upd (S.1 c) k x)) K) = some res) (kk : ∀ S, K S = some res → zV L w X r S1 S (pc + 3) ls st) : zV L w X r S1 S pc ls (.int x :: .ref (w.2.2.1 c) :: st) := by
  obtain ⟨p, l, e, R, s, m, args, below, meth, cd⟩ := X
  intro H locs hP hS
  obtain ⟨⟨CN, T, N⟩, h1, h2, h3⟩ := fl
  obtain ⟨g1, g2, ⟨ty0, g3⟩, g4⟩ := zok ci _ h1
  obtain ⟨f1, f2⟩ := fp _ h1
  obtain ⟨hz, h⟩ := zc_e h
  have hat : (zcs L w S)[c]? = some (w.2.2.1 c, .inr (ci, (List.range (znf ci)).map (zfv L w S ci c))) := by rw [zcs_at hk.1, zce_o hk.2]
  have hx : x = 0 ∨ x = 1 := by simpa [zbo] using hz
  refine va_put (ci := ci) (T := T) (N := N) (C := CN) (ty := .boolean) (v := .int x) C.1.2.1 C.1.2.2.1 C.1.2.2.2.2.2 g1 ty0 g3 g4 C.1.2.2.2.2.1 C.2.1.1 hP (zcs_D C.2.1.2.1) hS c hat h1 k h2 (C.1.2.2.2.2.2 _ h3) (fun _ h9 => h9) f1 f2 (by rcases hx with rfl | rfl <;> decide) (by rcases hx with rfl | rfl <;> decide) (by rw [List.length_map, List.length_range, g2]; exact h2) hd (fun H1 locs1 hP1 hD1 hS1 => ?_)
  rw [zcs_po hk.1 hk.2 ht] at hP1
  exact kk _ h H1 locs1 hP1 hS1
theorem v_putl (pc : Nat) (C : zC L w X l0 cc own nL lev ret) {idx ci k c : Nat} (hd : decode cc pc = .ok (.putfield idx, 3)) (fl : zFL own idx ci k) (fp : zFP ci k .long) (ht : zft ci k = 1) (hk : c < L.1 ∧ L.2.1 c = 3 + ci) {x : Int64} {K : zMem → Option ρ} (h : zl (zq S c (vp_updL (S.2 c) k x)) K = some res) (kk : ∀ S, K S = some res → zV L w X r S1 S (pc + 3) ls st) : zV L w X r S1 S pc ls (.long x :: .ref (w.2.2.1 c) :: st) := by
  obtain ⟨p, l, e, R, s, m, args, below, meth, cd⟩ := X
  intro H locs hP hS
  obtain ⟨⟨CN, T, N⟩, h1, h2, h3⟩ := fl
  obtain ⟨g1, g2, ⟨ty0, g3⟩, g4⟩ := zok ci _ h1
  obtain ⟨f1, f2⟩ := fp _ h1
  have hat : (zcs L w S)[c]? = some (w.2.2.1 c, .inr (ci, (List.range (znf ci)).map (zfv L w S ci c))) := by rw [zcs_at hk.1, zce_o hk.2]
  refine va_put (ci := ci) (T := T) (N := N) (C := CN) (ty := .long) (v := .long x) C.1.2.1 C.1.2.2.1 C.1.2.2.2.2.2 g1 ty0 g3 g4 C.1.2.2.2.2.1 C.2.1.1 hP (zcs_D C.2.1.2.1) hS c hat h1 k h2 (C.1.2.2.2.2.2 _ h3) (fun _ h9 => h9) f1 f2 rfl rfl (by rw [List.length_map, List.length_range, g2]; exact h2) hd (fun H1 locs1 hP1 hD1 hS1 => ?_)
  rw [zcs_ql hk.1 hk.2 ht] at hP1
  exact kk _ h H1 locs1 hP1 hS1
theorem v_iald (pc : Nat) (C : zC L w X l0 cc own nL lev ret) {c n : Nat} {i : Int32} (hd : decode cc pc = .ok (.iaload, 1)) (hk : c < L.1 ∧ L.2.1 c = 0) (hn : L.2.2.1 c = n) {K : Int32 → Option ρ} (h : zc (zi i n) (zl (S.1 c i.toNatClampNeg) K) = some res) (kk : ∀ x, K x = some res → zV L w X r S1 S (pc + 1) ls (.int x :: st)) : zV L w X r S1 S pc ls (.int i :: .ref (w.2.2.1 c) :: st) := by
  obtain ⟨p, l, e, R, s, m, args, below, meth, cd⟩ := X
  intro H locs hP hS
  subst hn
  obtain ⟨hi, h⟩ := zc_e h
  exact va_iald C.1.2.1 C.1.2.2.1 C.2.1.1 hP c 0 (by rw [zcs_at hk.1, zce_i hk.2]) rfl (zi_in hi) hd (kk _ h H locs hP hS)
theorem v_iast (pc : Nat) (C : zC L w X l0 cc own nL lev ret) {c n : Nat} {i x : Int32} (hd : decode cc pc = .ok (.iastore, 1)) (hk : c < L.1 ∧ L.2.1 c = 0) (hn : L.2.2.1 c = n) {K : zMem → Option ρ} (h : zc (zi i n) (zl (zp S c (upd (S.1 c) i.toNatClampNeg x)) K) = some res) (kk : ∀ S, K S = some res → zV L w X r S1 S (pc + 1) ls st) : zV L w X r S1 S pc ls (.int x :: .int i :: .ref (w.2.2.1 c) :: st) := by
  obtain ⟨p, l, e, R, s, m, args, below, meth, cd⟩ := X
  intro H locs hP hS
  subst hn
  obtain ⟨hi, h⟩ := zc_e h
  refine va_iast C.1.2.1 C.1.2.2.1 C.2.1.1 hP (zcs_D C.2.1.2.1) hS c 0 (by rw [zcs_at hk.1, zce_i hk.2]) rfl (zi_in hi) hd (fun H1 locs1 hP1 hD1 hS1 => ?_)
  rw [zcs_pi hk.1 hk.2] at hP1
  exact kk _ h H1 locs1 hP1 hS1
theorem v_ilen (pc : Nat) (C : zC L w X l0 cc own nL lev ret) {c : Nat} {v : Int32} (hd : decode cc pc = .ok (.arraylength, 1)) (hk : c < L.1 ∧ L.2.1 c = 0) (hv : Int32.ofNat (L.2.2.1 c) = v) (kk : zV L w X r S1 S (pc + 1) ls (.int v :: st)) : zV L w X r S1 S pc ls (.ref (w.2.2.1 c) :: st) := by
  obtain ⟨p, l, e, R, s, m, args, below, meth, cd⟩ := X
  intro H locs hP hS
  exact va_alen C.1.2.1 C.1.2.2.1 C.2.1.1 hP c 0 (by rw [zcs_at hk.1, zce_i hk.2]) rfl hv hd (kk H locs hP hS)
theorem v_rlen (pc : Nat) (C : zC L w X l0 cc own nL lev ret) {c t : Nat} {v : Int32} (hd : decode cc pc = .ok (.arraylength, 1)) (hk : c < L.1 ∧ L.2.1 c = t) (ht : t = 1 ∨ t = 2) (hv : Int32.ofNat (L.2.2.1 c) = v) (kk : zV L w X r S1 S (pc + 1) ls (.int v :: st)) : zV L w X r S1 S pc ls (.ref (w.2.2.1 c) :: st) := by
  obtain ⟨p, l, e, R, s, m, args, below, meth, cd⟩ := X
  intro H locs hP hS
  rcases ht with rfl | rfl
  · exact va_alen C.1.2.1 C.1.2.2.1 C.2.1.1 hP c 1 (by rw [zcs_at hk.1, zce_r hk.2 (Or.inl rfl)]) rfl hv hd (kk H locs hP hS)
  · exact va_alen C.1.2.1 C.1.2.2.1 C.2.1.1 hP c 2 (by rw [zcs_at hk.1, zce_r hk.2 (Or.inr rfl)]) rfl hv hd (kk H locs hP hS)
theorem v_aald (pc c1 : Nat) (C : zC L w X l0 cc own nL lev ret) {c t n : Nat} {i : Int32} (hd : decode cc pc = .ok (.aaload, 1)) (hk : c < L.1 ∧ L.2.1 c = t) (ht : t = 1 ∨ t = 2) (hn : L.2.2.1 c = n) (hr : L.2.2.2 c i.toNatClampNeg = c1) {K : Option ρ} (h : zc (zi i n) K = some res) (kk : zi i n = true → K = some res → zV L w X r S1 S (pc + 1) ls (.ref (w.2.2.1 c1) :: st)) : zV L w X r S1 S pc ls (.int i :: .ref (w.2.2.1 c) :: st) := by
  obtain ⟨p, l, e, R, s, m, args, below, meth, cd⟩ := X
  intro H locs hP hS
  subst hn
  subst hr
  obtain ⟨hi, h⟩ := zc_e h
  rcases ht with rfl | rfl
  · exact va_aldq (f := fun i => some (w.2.2.1 (L.2.2.2 c i))) C.1.2.1 C.1.2.2.1 C.2.1.1 hP c 1 (by rw [zcs_at hk.1, zce_r hk.2 (Or.inl rfl)]) rfl (zi_in hi) hd (kk hi h H locs hP hS)
  · exact va_aldq (f := fun i => some (w.2.2.1 (L.2.2.2 c i))) C.1.2.1 C.1.2.2.1 C.2.1.1 hP c 2 (by rw [zcs_at hk.1, zce_r hk.2 (Or.inr rfl)]) rfl (zi_in hi) hd (kk hi h H locs hP hS)
end ZT
end
section
theorem lw_good : zT.all goodWord = true := by decide +kernel
theorem lw_goodIn {y : MethodName} {bytes : ByteArray} {maxL : Nat} {ret : Option FieldType} (h : Cond.code y bytes maxL ret ∈ zT) : GoodIn zT (Cond.code y bytes maxL ret :: zT) := by
  intro q hq
  have hm : q ∈ zT := by
    rcases List.mem_cons.mp hq with rfl | hq
    · exact h
    · exact hq
  exact ⟨hm, good_of_word (List.all_eq_true.mp lw_good q hm)⟩
/-- what the tables say of a method: an instance's, a static one -/
def zYb (y : MethodName) (bytes : ByteArray) (maxL : Nat) (ret : Option FieldType) (n : Nat) : Prop := Cond.code y bytes maxL ret ∈ zT ∧ Cond.initialized y.cls ∈ zT ∧ maxL ≤ 40 ∧ (y.cls ≠ "java/lang/invoke/MethodHandle" ∧ y.cls ≠ "java/lang/invoke/VarHandle" ∧ (parseMethodDescriptor y.desc).map (fun d => d.parameters.length) = some n)
def zYv (y : MethodName) (bytes : ByteArray) (maxL : Nat) (ret : Option FieldType) (n : Nat) : Prop := zYb y bytes maxL ret n ∧ Cond.instanceMethod y ∈ zT ∧ Cond.selects y.cls y y ∈ zT
def zYs (y : MethodName) (bytes : ByteArray) (maxL : Nat) (ret : Option FieldType) (n : Nat) : Prop := zYb y bytes maxL ret n ∧ Cond.static y ∈ zT
theorem zWo_blind {L : zLay} {w : zWd} {S : zMem} {As : List Value} : FrameBlind (va_Pc As (zWo L w S)) := by
  intro a U g mk q
  obtain ⟨q0, q1, q2, q3, q4⟩ := q
  exact ⟨q0, q1, va_K.moved (u := U) (U := U.calling g mk a) (Vm.Alike.refl U.vm) q2, q3, zst.moved (u := U) (U := U.calling g mk a) (Vm.Alike.refl U.vm) q4⟩
section ZCL
variable {p : Program} {l : Launch} {e : Env} {R : Room} {s : State} {m : MethodId} {args : Array Value} {below : List Frame} {meth : Method} {c : Code} {H H0 : Heap} {locs : List Loc} {Q : State → Prop} {pc : Nat} {ls : Array Slot} {rest st0 : List Value} {a : Array Value} {L : zLay} {w : zWd} {S S2 : zMem} {rv : Option Value}
theorem zcall (hr : va_Run p l e R s m args below meth c H locs 0 0 0 0 (F0 m pc ls st0) rest (zQ L w rv S2 a) (zA L w)) (hS : va_S (zA L w) H0 H locs)
    (kk : ∀ (H1 : Heap) (locs1 : List Loc), va_P w.1 zcl (zcs L w S2) H1 → va_S (zA L w) H0 H1 locs1 → W p l e R s m args below meth c H1 locs1 0 0 Q (F0 m (pc + 3) ls (rv.toList ++ rest))) : W p l e R s m args below meth c H locs 0 0 Q (F0 m pc ls st0) := by
  intro T hT X
  obtain ⟨v, st₀, t, T', K, h0, X', hL, e1, e2, ⟨hv, hw, hz, hk⟩, st⟩ := hr T hT X
  cases hv
  rw [h0] at hz hk
  obtain ⟨t2, a1, b1⟩ := kk T'.heap (locs ++ K) (by rw [e1]; exact hw.1)
    ⟨Nat.le_trans hS.1 (by rw [e1]; exact hz), fun q h1 h2 => by rw [e1, hk q (Nat.lt_of_lt_of_le h1 hS.1) h2]; exact hS.2.1 q h1 h2, fun q hq => by
      rcases List.mem_append.mp hq with h | h
      · exact hS.2.2 q h
      · exact hL q h⟩ T' rfl X'
  exact ⟨t2, st t2 a1, b1⟩
theorem zWo_of (hK : va_K w.1 zcl (zty w) s) (hi : zinj L w) (hz : zst L w s s.heap) (hP : va_P w.1 zcl (zcs L w S) H) (hS : va_S (zA L w) s.heap H locs) {U : State} (hU : U.heap = H) (hW : s.WarmedH U.vm) : zWo L w S U :=
  ⟨by rw [hU]; exact hP, va_K.moved hW.alike hK, hi, by rw [hU]; exact (hz.kept hS.2.1).moved hW.alike⟩
end ZCL
section ZU
variable {L : zLay} {w : zWd} {X : zX} {r : Option Value} {S1 S : zMem} {ls : Array Slot} {st : List Value} {cc : ByteArray} {own : String} {nL lev : Nat} {ret : Option FieldType} {ρ : Type} {res : ρ} {l0 : Launch}
theorem v_callV (pc : Nat) (C : zC L w X l0 cc own nL lev ret) {idx n maxL lev2 c ci : Nat} {y : MethodName} {bytes : ByteArray} {rt : Option FieldType} {As : List Value} {S2 : zMem} {rv : Option Value} (st0 : List Value) (hd : decode cc pc = .ok (.invokevirtual idx, 3)) (hl : Cond.methodLink own idx y ∈ zT) (hy : zYv y bytes maxL rt n) (hM : zMet L w l0 y bytes maxL rt lev2 (.ref (w.2.2.1 c) :: As) S rv S2) (hlev : lev2 < lev) (hn : As.length = n) (hls : ls.size = nL)
    (hk : c < L.1 ∧ L.2.1 c = 3 + ci) (hq : (zcl[ci]?).map (fun q => q.1) = some y.cls) (hW : (st0.map fun v => v.category).sum ≤ 8) (hst : st = As.reverse ++ .ref (w.2.2.1 c) :: st0) (kk : zV L w X r S1 S2 (pc + 3) ls (rv.toList ++ st0)) : zV L w X r S1 S pc ls st := by
  obtain ⟨p, l, e, R, s, m, args, below, meth, cd⟩ := X
  intro H locs hP hS
  obtain ⟨⟨rfl, hx, hb, hml, hown, hts⟩, ⟨hK, hi, hz⟩, -, -, rfl⟩ := C
  obtain ⟨⟨y1, y2, y3, y4⟩, y5, y6⟩ := hy
  have hB : CallB (zrm lev) s args own idx y bytes maxL rt (.code y bytes maxL rt :: zT) (zrm lev2) 0 0 n := callB_of n hts (lw_goodIn y1) rfl rfl rfl (hts _ y2) (hts _ hl) y4 ⟨by show lev2 + 1 ≤ lev; omega, by show 8 + (maxL + 11) + 64 * lev2 ≤ 64 * lev; omega⟩
  obtain ⟨q, hq1, hq2⟩ := Option.map_eq_some_iff.mp hq
  have hrec : ∃ cellB : Cell, H[w.2.2.1 c]? = some cellB ∧ cellB.vm.isStatics = false ∧ s.vm.findClass y.cls = some cellB.cls := by
    rw [← hq2]
    exact va_recv hK hP (ci := ci) (q0 := c) hq1 (by rw [zcs_at hk.1, zce_o hk.2])
  exact zcall (va_runV (C := y.cls) (b := w.2.2.1 c) (As := As) (rest := st0) ⟨hx, hb, hml, hown, hts⟩ hM ⟨hB, hts _ y5, hts _ y6⟩ ⟨zWo_blind, hrec, fun U hU hW => ⟨rfl, zWo_of hK hi hz hP hS hU hW⟩⟩ rfl hn hls hst (lv_room hW) hd ⟨Nat.le_refl 0, Nat.le_refl 0⟩) hS (fun H1 locs1 hP1 hS1 => kk H1 locs1 hP1 hS1)
theorem v_callS (pc : Nat) (C : zC L w X l0 cc own nL lev ret) {idx n maxL lev2 : Nat} {y : MethodName} {bytes : ByteArray} {rt : Option FieldType} {As : List Value} {S2 : zMem} {rv : Option Value} (st0 : List Value) (hd : decode cc pc = .ok (.invokestatic idx, 3)) (hl : Cond.methodLink own idx y ∈ zT) (hy : zYs y bytes maxL rt n) (hM : zMet L w l0 y bytes maxL rt lev2 As S rv S2) (hlev : lev2 < lev) (hn : As.length = n) (hls : ls.size = nL)
    (hW : (st0.map fun v => v.category).sum ≤ 8) (hst : st = As.reverse ++ st0) (kk : zV L w X r S1 S2 (pc + 3) ls (rv.toList ++ st0)) : zV L w X r S1 S pc ls st := by
  obtain ⟨p, l, e, R, s, m, args, below, meth, cd⟩ := X
  intro H locs hP hS
  obtain ⟨⟨rfl, hx, hb, hml, hown, hts⟩, ⟨hK, hi, hz⟩, -, -, rfl⟩ := C
  obtain ⟨⟨y1, y2, y3, y4⟩, y5⟩ := hy
  have hB : CallB (zrm lev) s args own idx y bytes maxL rt (.code y bytes maxL rt :: zT) (zrm lev2) 0 0 n := callB_of n hts (lw_goodIn y1) rfl rfl rfl (hts _ y2) (hts _ hl) y4 ⟨by show lev2 + 1 ≤ lev; omega, by show 8 + (maxL + 11) + 64 * lev2 ≤ 64 * lev; omega⟩
  exact zcall (va_runS (As := As) (rest := st0) ⟨hx, hb, hml, hown, hts⟩ hM ⟨hB, hts _ y5⟩ ⟨zWo_blind, fun U hU hW => ⟨rfl, zWo_of hK hi hz hP hS hU hW⟩⟩ rfl hn hls hst (lv_room hW) hd ⟨Nat.le_refl 0, Nat.le_refl 0⟩) hS (fun H1 locs1 hP1 hS1 => kk H1 locs1 hP1 hS1)
theorem v_ireturn (pc : Nat) (C : zC L w X l0 cc own nL lev (some .int)) {x y : Int32} (hd : decode cc pc = .ok (.ireturn, 1)) (h : some (y, S) = some (x, S1)) : zV L w X (some (.int x)) S1 S pc ls [.int y] := by
  cases h
  obtain ⟨p, l, e, R, s, m, args, below, meth, cd⟩ := X
  intro H locs hP hS
  obtain ⟨⟨rfl, hx, hb, hml, hown, hts⟩, ⟨hK, hi, hz⟩, hlk, hr, rfl⟩ := C
  exact W.iret hx hb hr (fun t ht hW => ⟨rfl, zWo_of hK hi hz hP hS ht hW, hS.F ht⟩) hS.2.2 hd hlk
theorem v_zreturn (pc : Nat) (C : zC L w X l0 cc own nL lev (some .boolean)) {x y : Int32} (hd : decode cc pc = .ok (.ireturn, 1)) (h : zc (zbo y) (some (y, S)) = some (x, S1)) : zV L w X (some (.int x)) S1 S pc ls [.int y] := by
  obtain ⟨hb1, h⟩ := zc_e h
  cases h
  have hx1 : x = 0 ∨ x = 1 := by simpa [zbo] using hb1
  obtain ⟨p, l, e, R, s, m, args, below, meth, cd⟩ := X
  intro H locs hP hS
  obtain ⟨⟨rfl, hx, hb, hml, hown, hts⟩, ⟨hK, hi, hz⟩, hlk, hr, rfl⟩ := C
  exact W.zret hx hb hr (by rcases hx1 with rfl | rfl <;> decide) (fun t ht hW => ⟨rfl, zWo_of hK hi hz hP hS ht hW, hS.F ht⟩) hS.2.2 hd hlk
theorem v_lreturn (pc : Nat) (C : zC L w X l0 cc own nL lev (some .long)) {x y : Int64} (hd : decode cc pc = .ok (.lreturn, 1)) (h : some (y, S) = some (x, S1)) : zV L w X (some (.long x)) S1 S pc ls [.long y] := by
  cases h
  obtain ⟨p, l, e, R, s, m, args, below, meth, cd⟩ := X
  intro H locs hP hS
  obtain ⟨⟨rfl, hx, hb, hml, hown, hts⟩, ⟨hK, hi, hz⟩, hlk, hr, rfl⟩ := C
  exact W.lret hx hb hr (fun t ht hW => ⟨rfl, zWo_of hK hi hz hP hS ht hW, hS.F ht⟩) hS.2.2 hd hlk
theorem v_return (pc : Nat) (C : zC L w X l0 cc own nL lev none) {x y : Unit} (hd : decode cc pc = .ok (.return_, 1)) (h : some (y, S) = some (x, S1)) : zV L w X none S1 S pc ls [] := by
  cases h
  obtain ⟨p, l, e, R, s, m, args, below, meth, cd⟩ := X
  intro H locs hP hS
  obtain ⟨⟨rfl, hx, hb, hml, hown, hts⟩, ⟨hK, hi, hz⟩, hlk, hr, rfl⟩ := C
  exact W.vret hx hb hr (fun t ht hW => ⟨rfl, zWo_of hK hi hz hP hS ht hW, hS.F ht⟩) hS.2.2 hd hlk
theorem zMet_of {y : MethodName} {maxL : Nat} {rt : Option FieldType} {As : List Value} (hy : plainName y.cls = true) (hn : (lg_sl As).length ≤ maxL) (body : ∀ (X : zX) (ls : Array Slot), zC L w X l0 cc y.cls maxL lev rt → lv_has ls maxL (lv_args 0 As) → zV L w X r S1 S 0 ls []) : zMet L w l0 y cc maxL rt lev As S r S1 := by
  refine Met.ofW (cc := cc) (maxL := maxL) (ret := rt) hy rfl ?_
  intro p e s m args below meth c s₁ B hml hv
  obtain ⟨rfl, hP, hK, hi, hz⟩ := hv
  have hl := lv_entry As (n := maxL) hn
  rw [lg_entry_eq]
  exact body (p, l0, e, zrm lev, s, m, As.toArray, below, meth, c) _ ⟨⟨rfl, B.exec, B.bytes, hml, findClass_of_methodNamed B.named, fun q hq => atoms_spec (ws := .code y cc maxL rt :: zT) B.pre q (List.mem_cons_of_mem _ hq)⟩, ⟨hK, hi, hz⟩, B.notSynchronized, B.returns, rfl⟩ hl s.heap [] hP va_S.rf
end ZU
end
section
theorem zs_max : Cond.static Lib.Math.max.name ∈ zT ∧ Cond.initialized "java/lang/Math" ∈ zT ∧ Cond.code Lib.Math.max.name Lib.Math.max.code 2 (some .int) ∈ zT := by decide +kernel
theorem zs_min : Cond.static Lib.Math.min.name ∈ zT ∧ Cond.initialized "java/lang/Math" ∈ zT ∧ Cond.code Lib.Math.min.name Lib.Math.min.code 2 (some .int) ∈ zT := by decide +kernel
theorem zs_abs : Cond.static Lib.Math.abs.name ∈ zT ∧ Cond.initialized "java/lang/Math" ∈ zT ∧ Cond.code Lib.Math.abs.name Lib.Math.abs.code 1 (some .int) ∈ zT := by decide +kernel
theorem zs_cpy : Cond.native arraycopyName ∈ zT ∧ Cond.static arraycopyName ∈ zT ∧ Cond.initialized "java/lang/System" ∈ zT := by decide +kernel
def zcp (sp dp n : Int32) (n0 n1 : Nat) : Bool := !(decide (sp < 0)) && !(decide (dp < 0)) && !(decide (n < 0)) && decide (sp.toNatClampNeg + n.toNatClampNeg ≤ n0) && decide (dp.toNatClampNeg + n.toNatClampNeg ≤ n1)
section ZLB
variable {L : zLay} {w : zWd} {X : zX} {r : Option Value} {S1 S : zMem} {ls : Array Slot} {st : List Value} {cc : ByteArray} {own : String} {nL lev : Nat} {ret : Option FieldType} {ρ : Type} {res : ρ} {l0 : Launch}
theorem v_mmax (pc : Nat) (C : zC L w X l0 cc own nL lev ret) {idx : Nat} {x y : Int32} (hd : decode cc pc = .ok (.invokestatic idx, 3)) (hl : Cond.methodLink own idx Lib.Math.max.name ∈ zT) (hls : ls.size = nL) (hlev : 0 < lev) (hW : (st.map fun v => v.category).sum ≤ 8) {K : Int32 → Option ρ} (h : zl (if x < y then y else x) K = some res) (kk : ∀ z, K z = some res → zV L w X r S1 S (pc + 3) ls (.int z :: st)) : zV L w X r S1 S pc ls (.int y :: .int x :: st) := by
  obtain ⟨p, l, e, R, s, m, args, below, meth, cd⟩ := X
  intro H locs hP hS
  have hR := C.2.2.2.2
  subst hR
  exact va_mmax C.1.2.1 C.1.2.2.1 (C.1.2.2.2.1.trans hls.symm) C.1.2.2.2.2.1 (C.1.2.2.2.2.2 _ hl) (C.1.2.2.2.2.2 _ zs_max.1) (C.1.2.2.2.2.2 _ zs_max.2.1) (C.1.2.2.2.2.2 _ zs_max.2.2) (by show 1 ≤ lev; omega) (by show _ + 13 ≤ 64 * lev; omega) (Nat.zero_le _) (Nat.zero_le _) hd (kk _ h H locs hP hS)
theorem v_mmin (pc : Nat) (C : zC L w X l0 cc own nL lev ret) {idx : Nat} {x y : Int32} (hd : decode cc pc = .ok (.invokestatic idx, 3)) (hl : Cond.methodLink own idx Lib.Math.min.name ∈ zT) (hls : ls.size = nL) (hlev : 0 < lev) (hW : (st.map fun v => v.category).sum ≤ 8) {K : Int32 → Option ρ} (h : zl (if y < x then y else x) K = some res) (kk : ∀ z, K z = some res → zV L w X r S1 S (pc + 3) ls (.int z :: st)) : zV L w X r S1 S pc ls (.int y :: .int x :: st) := by
  obtain ⟨p, l, e, R, s, m, args, below, meth, cd⟩ := X
  intro H locs hP hS
  have hR := C.2.2.2.2
  subst hR
  exact va_mmin C.1.2.1 C.1.2.2.1 (C.1.2.2.2.1.trans hls.symm) C.1.2.2.2.2.1 (C.1.2.2.2.2.2 _ hl) (C.1.2.2.2.2.2 _ zs_min.1) (C.1.2.2.2.2.2 _ zs_min.2.1) (C.1.2.2.2.2.2 _ zs_min.2.2) (by show 1 ≤ lev; omega) (by show _ + 13 ≤ 64 * lev; omega) (Nat.zero_le _) (Nat.zero_le _) hd (kk _ h H locs hP hS)
theorem v_mabs (pc : Nat) (C : zC L w X l0 cc own nL lev ret) {idx : Nat} {x : Int32} (hd : decode cc pc = .ok (.invokestatic idx, 3)) (hl : Cond.methodLink own idx Lib.Math.abs.name ∈ zT) (hls : ls.size = nL) (hlev : 0 < lev) (hW : (st.map fun v => v.category).sum ≤ 8) {K : Int32 → Option ρ} (h : zl (if 0 ≤ x then x else 0 - x) K = some res) (kk : ∀ z, K z = some res → zV L w X r S1 S (pc + 3) ls (.int z :: st)) : zV L w X r S1 S pc ls (.int x :: st) := by
  obtain ⟨p, l, e, R, s, m, args, below, meth, cd⟩ := X
  intro H locs hP hS
  have hR := C.2.2.2.2
  subst hR
  exact va_mabs C.1.2.1 C.1.2.2.1 (C.1.2.2.2.1.trans hls.symm) C.1.2.2.2.2.1 (C.1.2.2.2.2.2 _ hl) (C.1.2.2.2.2.2 _ zs_abs.1) (C.1.2.2.2.2.2 _ zs_abs.2.1) (C.1.2.2.2.2.2 _ zs_abs.2.2) (by show 1 ≤ lev; omega) (by show _ ≤ 64 * lev; omega) (Nat.zero_le _) (Nat.zero_le _) hd (kk _ h H locs hP hS)
theorem v_copy (pc : Nat) (C : zC L w X l0 cc own nL lev ret) {idx c0 c1 n0 n1 : Nat} {sp dp n : Int32} (hd : decode cc pc = .ok (.invokestatic idx, 3)) (hl : Cond.methodLink own idx arraycopyName ∈ zT) (hls : ls.size = nL) (hlev : 0 < lev) (hW : (st.map fun v => v.category).sum ≤ 8) (hk0 : c0 < L.1 ∧ L.2.1 c0 = 0) (hk1 : c1 < L.1 ∧ L.2.1 c1 = 0) (hn0 : L.2.2.1 c0 = n0) (hn1 : L.2.2.1 c1 = n1) {K : zMem → Option ρ}
    (h : zc (zcp sp dp n n0 n1) (zl (zp S c1 (va_cpy (S.1 c0) (S.1 c1) sp.toNatClampNeg dp.toNatClampNeg n.toNatClampNeg)) K) = some res) (kk : ∀ S, K S = some res → zV L w X r S1 S (pc + 3) ls st) : zV L w X r S1 S pc ls (.int n :: .int dp :: .ref (w.2.2.1 c1) :: .int sp :: .ref (w.2.2.1 c0) :: st) := by
  obtain ⟨p, l, e, R, s, m, args, below, meth, cd⟩ := X
  intro H locs hP hS
  have hR := C.2.2.2.2
  subst hR
  subst hn0
  subst hn1
  obtain ⟨hc, h⟩ := zc_e h
  simp only [zcp, Bool.and_eq_true, Bool.not_eq_true', decide_eq_false_iff_not, decide_eq_true_eq] at hc
  obtain ⟨⟨⟨⟨h1, h2⟩, h3⟩, h4⟩, h5⟩ := hc
  refine va_copyi (ty := .int) C.1.2.1 C.1.2.2.1 (C.1.2.2.2.1.trans hls.symm) C.1.2.2.2.2.1 (C.1.2.2.2.2.2 _ hl) (C.1.2.2.2.2.2 _ zs_cpy.1) (C.1.2.2.2.2.2 _ zs_cpy.2.1) (C.1.2.2.2.2.2 _ zs_cpy.2.2) C.2.1.1 hP (zcs_D C.2.1.2.1) hS c0 c1 0 0 (by rw [zcs_at hk0.1, zce_i hk0.2]) (by rw [zcs_at hk1.1, zce_i hk1.2]) rfl rfl rfl h1 h2 h3 h4 h5 (fun _ _ => rfl) (by show 1 ≤ lev; omega) (by show _ + (7 + 11) ≤ 64 * lev; omega) hd (fun H1 locs1 hP1 hD1 hS1 => ?_)
  rw [zcs_pi hk1.1 hk1.2] at hP1
  exact kk _ h H1 locs1 hP1 hS1
theorem v_gsig (pc : Nat) (C : zC L w X l0 cc own nL lev ret) {idx : Nat} (hd : decode cc pc = .ok (.getstatic idx, 3)) (hl : Cond.fieldLink own idx RX1 "SIGNS" "[C" ∈ zT) (kk : zV L w X r S1 S (pc + 3) ls (.ref (w.2.2.2 0) :: st)) : zV L w X r S1 S pc ls st := by
  obtain ⟨p, l, e, R, s, m, args, below, meth, cd⟩ := X
  intro H locs hP hS
  exact va_gets C.1.2.1 C.1.2.2.1 C.2.1.2.2.1.1 hS C.1.2.2.2.2.1 (C.1.2.2.2.2.2 _ hl) (fun _ h9 => h9) hd (kk H locs hP hS)
theorem v_gpar (pc : Nat) (C : zC L w X l0 cc own nL lev ret) {idx : Nat} (hd : decode cc pc = .ok (.getstatic idx, 3)) (hl : Cond.fieldLink own idx RX1 "PARENTS" "[I" ∈ zT) (kk : zV L w X r S1 S (pc + 3) ls (.ref (w.2.2.2 1) :: st)) : zV L w X r S1 S pc ls st := by
  obtain ⟨p, l, e, R, s, m, args, below, meth, cd⟩ := X
  intro H locs hP hS
  exact va_gets C.1.2.1 C.1.2.2.1 C.2.1.2.2.2.1 hS C.1.2.2.2.2.1 (C.1.2.2.2.2.2 _ hl) (fun _ h9 => h9) hd (kk H locs hP hS)
theorem v_lsig (pc : Nat) (C : zC L w X l0 cc own nL lev ret) {i : Int32} (hd : decode cc pc = .ok (.caload, 1)) {K : Int32 → Option ρ} (h : zc (zi i 6) (zl (zsig i.toNatClampNeg) K) = some res) (kk : ∀ x, K x = some res → zV L w X r S1 S (pc + 1) ls (.int x :: st)) : zV L w X r S1 S pc ls (.int i :: .ref (w.2.2.2 0) :: st) := by
  obtain ⟨p, l, e, R, s, m, args, below, meth, cd⟩ := X
  intro H locs hP hS
  obtain ⟨hi, h⟩ := zc_e h
  exact va_tc C.1.2.1 C.1.2.2.1 C.2.1.2.2.1.2 hS (zi_in hi) rfl hd (kk _ h H locs hP hS)
theorem v_lpar (pc : Nat) (C : zC L w X l0 cc own nL lev ret) {i : Int32} (hd : decode cc pc = .ok (.iaload, 1)) {K : Int32 → Option ρ} (h : zc (zi i 6) (zl (zpar i.toNatClampNeg) K) = some res) (kk : ∀ x, K x = some res → zV L w X r S1 S (pc + 1) ls (.int x :: st)) : zV L w X r S1 S pc ls (.int i :: .ref (w.2.2.2 1) :: st) := by
  obtain ⟨p, l, e, R, s, m, args, below, meth, cd⟩ := X
  intro H locs hP hS
  obtain ⟨hi, h⟩ := zc_e h
  exact va_ti C.1.2.1 C.1.2.2.1 C.2.1.2.2.2.2 hS (zi_in hi) rfl hd (kk _ h H locs hP hS)
end ZLB
/-! the two layouts -/
/-- the class: 0 LetterEnds, 1 rows, 2 texts, 3 kept, 4 + 2 i the Strips (6 ROWS, 4 TEXTS), 24 the Road, 29 the Reader with its draft 30, 35 + 5 j the Posts (now, aside, kept), 60 Orders, 63 Lifts, 65 Clues, 67 found -/
def kdC (c : Nat) : Nat :=
  if c < 24 then (if c = 0 then 10 else if c < 3 then 1 else if c = 3 then 2 else if c % 2 = 0 then 9 else 0)
  else if c < 35 then (if c = 24 then 8 else if c = 29 then 7 else if c = 30 then 8 else 0)
  else if c < 60 then (if c % 5 = 0 then 6 else 0)
  else if c = 60 then 5 else if c = 63 then 4 else if c = 65 then 3 else 0
def lnC (c : Nat) : Nat :=
  if c < 24 then (if c = 1 then 6 else if c = 2 then 4 else if c = 3 then 3 else if c < 16 then 40 else 60)
  else if c < 35 then 6
  else if c < 60 then (if c % 5 < 3 then 6 else 40)
  else if c = 66 then 10 else 6
def rfC (c k : Nat) : Nat :=
  if kdC c = 9 then c + 1
  else if kdC c = 6 then (if k = 0 then 24 else c + k)
  else if kdC c = 8 then c + 1 + k
  else if c = 0 then ([1, 2, 24, 29, 35, 40, 3, 60, 63, 65, 67] : List Nat).getD k 0
  else if c = 1 then 4 + 2 * k
  else if c = 2 then 16 + 2 * k
  else if c = 3 then 45 + 5 * k
  else if c = 29 then 30
  else if c = 60 then (if k = 0 then 24 else 60 + k)
  else if c = 63 then (if k = 0 then 24 else 64)
  else 66
def LC : zLay := (68, kdC, lnC, rfC)
/-- the reference: 0 LetterEndsModel; its arrays as their fields come: 1 row, 2 kinds, 3 to, 4 words, 5 sizes, 6 items, 7 lengths, 8 bytes, 9 findings, 10 readBonds, 11 readLetters, 12 line, 13 bestLine, 14 bests -/
def kdM (c : Nat) : Nat := if c = 0 then 11 else 0
def lnM (c : Nat) : Nat := ([0, 2810, 6, 6, 6, 6, 240, 4, 240, 6, 6, 18, 6, 6, 7] : List Nat).getD c 0
def rfM (_ k : Nat) : Nat := ([1, 0, 0, 2, 3, 4, 5, 6, 7, 8, 0, 0, 0, 0, 9, 0, 0, 0, 0, 0, 0, 10, 0, 11, 12, 13, 14] : List Nat).getD k 0
def LM : zLay := (15, kdM, lnM, rfM)
end
section
/-- how far a loop may go -/
def zF : Nat := 1000000
theorem zne {x k : Int32} {a : Int} (h : ¬ x = k) (hk : k.toInt = a) : ¬ x.toInt = a := lv_neT h hk
section ZU2
variable {L : zLay} {w : zWd} {X : zX} {r : Option Value} {S1 S : zMem} {ls : Array Slot} {st : List Value} {cc : ByteArray} {own : String} {nL lev : Nat} {ret : Option FieldType} {l0 : Launch}
theorem v_callVi (pc : Nat) (C : zC L w X l0 cc own nL lev ret) {idx n maxL lev2 c ci : Nat} {y : MethodName} {bytes : ByteArray} {rt : Option FieldType} {As : List Value} {S2 : zMem} {x : Int32} (st0 : List Value) (hd : decode cc pc = .ok (.invokevirtual idx, 3)) (hl : Cond.methodLink own idx y ∈ zT) (hy : zYv y bytes maxL rt n) (hM : zMet L w l0 y bytes maxL rt lev2 (.ref (w.2.2.1 c) :: As) S (some (.int x)) S2) (hlev : lev2 < lev) (hn : As.length = n) (hls : ls.size = nL)
    (hk : c < L.1 ∧ L.2.1 c = 3 + ci) (hq : (zcl[ci]?).map (fun q => q.1) = some y.cls) (hW : (st0.map fun v => v.category).sum ≤ 8) (hst : st = As.reverse ++ .ref (w.2.2.1 c) :: st0) (kk : zV L w X r S1 S2 (pc + 3) ls (.int x :: st0)) : zV L w X r S1 S pc ls st := v_callV pc C st0 hd hl hy hM hlev hn hls hk hq hW hst kk
theorem v_callVl (pc : Nat) (C : zC L w X l0 cc own nL lev ret) {idx n maxL lev2 c ci : Nat} {y : MethodName} {bytes : ByteArray} {rt : Option FieldType} {As : List Value} {S2 : zMem} {x : Int64} (st0 : List Value) (hd : decode cc pc = .ok (.invokevirtual idx, 3)) (hl : Cond.methodLink own idx y ∈ zT) (hy : zYv y bytes maxL rt n) (hM : zMet L w l0 y bytes maxL rt lev2 (.ref (w.2.2.1 c) :: As) S (some (.long x)) S2) (hlev : lev2 < lev) (hn : As.length = n) (hls : ls.size = nL)
    (hk : c < L.1 ∧ L.2.1 c = 3 + ci) (hq : (zcl[ci]?).map (fun q => q.1) = some y.cls) (hW : (st0.map fun v => v.category).sum ≤ 8) (hst : st = As.reverse ++ .ref (w.2.2.1 c) :: st0) (kk : zV L w X r S1 S2 (pc + 3) ls (.long x :: st0)) : zV L w X r S1 S pc ls st := v_callV pc C st0 hd hl hy hM hlev hn hls hk hq hW hst kk
theorem v_callVv (pc : Nat) (C : zC L w X l0 cc own nL lev ret) {idx n maxL lev2 c ci : Nat} {y : MethodName} {bytes : ByteArray} {rt : Option FieldType} {As : List Value} {S2 : zMem} (st0 : List Value) (hd : decode cc pc = .ok (.invokevirtual idx, 3)) (hl : Cond.methodLink own idx y ∈ zT) (hy : zYv y bytes maxL rt n) (hM : zMet L w l0 y bytes maxL rt lev2 (.ref (w.2.2.1 c) :: As) S none S2) (hlev : lev2 < lev) (hn : As.length = n) (hls : ls.size = nL)
    (hk : c < L.1 ∧ L.2.1 c = 3 + ci) (hq : (zcl[ci]?).map (fun q => q.1) = some y.cls) (hW : (st0.map fun v => v.category).sum ≤ 8) (hst : st = As.reverse ++ .ref (w.2.2.1 c) :: st0) (kk : zV L w X r S1 S2 (pc + 3) ls st0) : zV L w X r S1 S pc ls st := v_callV pc C st0 hd hl hy hM hlev hn hls hk hq hW hst kk
theorem v_callSi (pc : Nat) (C : zC L w X l0 cc own nL lev ret) {idx n maxL lev2 : Nat} {y : MethodName} {bytes : ByteArray} {rt : Option FieldType} {As : List Value} {S2 : zMem} {x : Int32} (st0 : List Value) (hd : decode cc pc = .ok (.invokestatic idx, 3)) (hl : Cond.methodLink own idx y ∈ zT) (hy : zYs y bytes maxL rt n) (hM : zMet L w l0 y bytes maxL rt lev2 As S (some (.int x)) S2) (hlev : lev2 < lev) (hn : As.length = n) (hls : ls.size = nL)
    (hW : (st0.map fun v => v.category).sum ≤ 8) (hst : st = As.reverse ++ st0) (kk : zV L w X r S1 S2 (pc + 3) ls (.int x :: st0)) : zV L w X r S1 S pc ls st := v_callS pc C st0 hd hl hy hM hlev hn hls hW hst kk
theorem v_callSl (pc : Nat) (C : zC L w X l0 cc own nL lev ret) {idx n maxL lev2 : Nat} {y : MethodName} {bytes : ByteArray} {rt : Option FieldType} {As : List Value} {S2 : zMem} {x : Int64} (st0 : List Value) (hd : decode cc pc = .ok (.invokestatic idx, 3)) (hl : Cond.methodLink own idx y ∈ zT) (hy : zYs y bytes maxL rt n) (hM : zMet L w l0 y bytes maxL rt lev2 As S (some (.long x)) S2) (hlev : lev2 < lev) (hn : As.length = n) (hls : ls.size = nL)
    (hW : (st0.map fun v => v.category).sum ≤ 8) (hst : st = As.reverse ++ st0) (kk : zV L w X r S1 S2 (pc + 3) ls (.long x :: st0)) : zV L w X r S1 S pc ls st := v_callS pc C st0 hd hl hy hM hlev hn hls hW hst kk
theorem v_callSv (pc : Nat) (C : zC L w X l0 cc own nL lev ret) {idx n maxL lev2 : Nat} {y : MethodName} {bytes : ByteArray} {rt : Option FieldType} {As : List Value} {S2 : zMem} (st0 : List Value) (hd : decode cc pc = .ok (.invokestatic idx, 3)) (hl : Cond.methodLink own idx y ∈ zT) (hy : zYs y bytes maxL rt n) (hM : zMet L w l0 y bytes maxL rt lev2 As S none S2) (hlev : lev2 < lev) (hn : As.length = n) (hls : ls.size = nL)
    (hW : (st0.map fun v => v.category).sum ≤ 8) (hst : st = As.reverse ++ st0) (kk : zV L w X r S1 S2 (pc + 3) ls st0) : zV L w X r S1 S pc ls st := v_callS pc C st0 hd hl hy hM hlev hn hls hW hst kk
end ZU2
theorem zi_lt {i : Int32} {n : Nat} (h : zi i n = true) : i.toNatClampNeg < n := by
  have q := zi_in h
  exact Nat.lt_of_not_le fun z => q (Or.inr z)
theorem kS1 {c : Nat} (h : c < LC.1 ∧ LC.2.1 c = 9) : c + 1 < LC.1 ∧ LC.2.1 (c + 1) = 0 := (by decide +kernel : ∀ c, c < 68 → kdC c = 9 → c + 1 < 68 ∧ kdC (c + 1) = 0) c h.1 h.2
theorem rS1 {c : Nat} (h : c < LC.1 ∧ LC.2.1 c = 9) : LC.2.2.2 c 0 = c + 1 := (by decide +kernel : ∀ c, c < 68 → kdC c = 9 → rfC c 0 = c + 1) c h.1 h.2
theorem rP0 {c : Nat} (h : c < LC.1 ∧ LC.2.1 c = 6) : LC.2.2.2 c 0 = 24 := (by decide +kernel : ∀ c, c < 68 → kdC c = 6 → rfC c 0 = 24) c h.1 h.2
theorem kEl {c : Nat} (h : c < LC.1 ∧ LC.2.1 c = 1) {i : Int32} (hz : zi i (lnC c) = true) : rfC c i.toNatClampNeg < LC.1 ∧ LC.2.1 (rfC c i.toNatClampNeg) = 9 := (by decide +kernel : ∀ c, c < 68 → kdC c = 1 → ∀ j, j < lnC c → rfC c j < 68 ∧ kdC (rfC c j) = 9) c h.1 h.2 _ (zi_lt hz)
theorem kRow {i : Int32} (hz : zi i 6 = true) : 4 + 2 * i.toNatClampNeg < LC.1 ∧ LC.2.1 (4 + 2 * i.toNatClampNeg) = 9 := (by decide +kernel : ∀ j, j < 6 → 4 + 2 * j < 68 ∧ kdC (4 + 2 * j) = 9) _ (zi_lt hz)
theorem kTxt {i : Int32} (hz : zi i 4 = true) : 16 + 2 * i.toNatClampNeg < LC.1 ∧ LC.2.1 (16 + 2 * i.toNatClampNeg) = 9 := (by decide +kernel : ∀ j, j < 4 → 16 + 2 * j < 68 ∧ kdC (16 + 2 * j) = 9) _ (zi_lt hz)
theorem kKpt {i : Int32} (hz : zi i 3 = true) : 45 + 5 * i.toNatClampNeg < LC.1 ∧ LC.2.1 (45 + 5 * i.toNatClampNeg) = 6 := (by decide +kernel : ∀ j, j < 3 → 45 + 5 * j < 68 ∧ kdC (45 + 5 * j) = 6) _ (zi_lt hz)
theorem kP1 {c : Nat} (h : c < LC.1 ∧ LC.2.1 c = 6) : c + 1 < LC.1 ∧ LC.2.1 (c + 1) = 0 := (by decide +kernel : ∀ c, c < 68 → kdC c = 6 → c + 1 < 68 ∧ kdC (c + 1) = 0) c h.1 h.2
theorem rP1 {c : Nat} (h : c < LC.1 ∧ LC.2.1 c = 6) : LC.2.2.2 c 1 = c + 1 := (by decide +kernel : ∀ c, c < 68 → kdC c = 6 → rfC c 1 = c + 1) c h.1 h.2
theorem nP1 {c : Nat} (h : c < LC.1 ∧ LC.2.1 c = 6) : LC.2.2.1 (c + 1) = 6 := (by decide +kernel : ∀ c, c < 68 → kdC c = 6 → lnC (c + 1) = 6) c h.1 h.2
theorem kP2 {c : Nat} (h : c < LC.1 ∧ LC.2.1 c = 6) : c + 2 < LC.1 ∧ LC.2.1 (c + 2) = 0 := (by decide +kernel : ∀ c, c < 68 → kdC c = 6 → c + 2 < 68 ∧ kdC (c + 2) = 0) c h.1 h.2
theorem rP2 {c : Nat} (h : c < LC.1 ∧ LC.2.1 c = 6) : LC.2.2.2 c 2 = c + 2 := (by decide +kernel : ∀ c, c < 68 → kdC c = 6 → rfC c 2 = c + 2) c h.1 h.2
theorem nP2 {c : Nat} (h : c < LC.1 ∧ LC.2.1 c = 6) : LC.2.2.1 (c + 2) = 6 := (by decide +kernel : ∀ c, c < 68 → kdC c = 6 → lnC (c + 2) = 6) c h.1 h.2
theorem kP3 {c : Nat} (h : c < LC.1 ∧ LC.2.1 c = 6) : c + 3 < LC.1 ∧ LC.2.1 (c + 3) = 0 := (by decide +kernel : ∀ c, c < 68 → kdC c = 6 → c + 3 < 68 ∧ kdC (c + 3) = 0) c h.1 h.2
theorem rP3 {c : Nat} (h : c < LC.1 ∧ LC.2.1 c = 6) : LC.2.2.2 c 3 = c + 3 := (by decide +kernel : ∀ c, c < 68 → kdC c = 6 → rfC c 3 = c + 3) c h.1 h.2
theorem nP3 {c : Nat} (h : c < LC.1 ∧ LC.2.1 c = 6) : LC.2.2.1 (c + 3) = 40 := (by decide +kernel : ∀ c, c < 68 → kdC c = 6 → lnC (c + 3) = 40) c h.1 h.2
theorem kP4 {c : Nat} (h : c < LC.1 ∧ LC.2.1 c = 6) : c + 4 < LC.1 ∧ LC.2.1 (c + 4) = 0 := (by decide +kernel : ∀ c, c < 68 → kdC c = 6 → c + 4 < 68 ∧ kdC (c + 4) = 0) c h.1 h.2
theorem rP4 {c : Nat} (h : c < LC.1 ∧ LC.2.1 c = 6) : LC.2.2.2 c 4 = c + 4 := (by decide +kernel : ∀ c, c < 68 → kdC c = 6 → rfC c 4 = c + 4) c h.1 h.2
theorem nP4 {c : Nat} (h : c < LC.1 ∧ LC.2.1 c = 6) : LC.2.2.1 (c + 4) = 40 := (by decide +kernel : ∀ c, c < 68 → kdC c = 6 → lnC (c + 4) = 40) c h.1 h.2
theorem kC_0 : 0 < LC.1 ∧ LC.2.1 0 = 10 := by decide +kernel
theorem kC_1 : 1 < LC.1 ∧ LC.2.1 1 = 1 := by decide +kernel
theorem kC_2 : 2 < LC.1 ∧ LC.2.1 2 = 1 := by decide +kernel
theorem kC_3 : 3 < LC.1 ∧ LC.2.1 3 = 2 := by decide +kernel
theorem kC_4 : 4 < LC.1 ∧ LC.2.1 4 = 9 := by decide +kernel
theorem kC_5 : 5 < LC.1 ∧ LC.2.1 5 = 0 := by decide +kernel
theorem kC_6 : 6 < LC.1 ∧ LC.2.1 6 = 9 := by decide +kernel
theorem kC_7 : 7 < LC.1 ∧ LC.2.1 7 = 0 := by decide +kernel
theorem kC_8 : 8 < LC.1 ∧ LC.2.1 8 = 9 := by decide +kernel
theorem kC_9 : 9 < LC.1 ∧ LC.2.1 9 = 0 := by decide +kernel
theorem kC_10 : 10 < LC.1 ∧ LC.2.1 10 = 9 := by decide +kernel
theorem kC_11 : 11 < LC.1 ∧ LC.2.1 11 = 0 := by decide +kernel
theorem kC_12 : 12 < LC.1 ∧ LC.2.1 12 = 9 := by decide +kernel
theorem kC_13 : 13 < LC.1 ∧ LC.2.1 13 = 0 := by decide +kernel
theorem kC_14 : 14 < LC.1 ∧ LC.2.1 14 = 9 := by decide +kernel
theorem kC_15 : 15 < LC.1 ∧ LC.2.1 15 = 0 := by decide +kernel
theorem kC_16 : 16 < LC.1 ∧ LC.2.1 16 = 9 := by decide +kernel
theorem kC_17 : 17 < LC.1 ∧ LC.2.1 17 = 0 := by decide +kernel
theorem kC_18 : 18 < LC.1 ∧ LC.2.1 18 = 9 := by decide +kernel
theorem kC_19 : 19 < LC.1 ∧ LC.2.1 19 = 0 := by decide +kernel
theorem kC_20 : 20 < LC.1 ∧ LC.2.1 20 = 9 := by decide +kernel
theorem kC_21 : 21 < LC.1 ∧ LC.2.1 21 = 0 := by decide +kernel
theorem kC_22 : 22 < LC.1 ∧ LC.2.1 22 = 9 := by decide +kernel
theorem kC_23 : 23 < LC.1 ∧ LC.2.1 23 = 0 := by decide +kernel
theorem kC_24 : 24 < LC.1 ∧ LC.2.1 24 = 8 := by decide +kernel
theorem kC_25 : 25 < LC.1 ∧ LC.2.1 25 = 0 := by decide +kernel
theorem kC_26 : 26 < LC.1 ∧ LC.2.1 26 = 0 := by decide +kernel
theorem kC_27 : 27 < LC.1 ∧ LC.2.1 27 = 0 := by decide +kernel
theorem kC_28 : 28 < LC.1 ∧ LC.2.1 28 = 0 := by decide +kernel
theorem kC_29 : 29 < LC.1 ∧ LC.2.1 29 = 7 := by decide +kernel
theorem kC_30 : 30 < LC.1 ∧ LC.2.1 30 = 8 := by decide +kernel
theorem kC_31 : 31 < LC.1 ∧ LC.2.1 31 = 0 := by decide +kernel
theorem kC_32 : 32 < LC.1 ∧ LC.2.1 32 = 0 := by decide +kernel
theorem kC_33 : 33 < LC.1 ∧ LC.2.1 33 = 0 := by decide +kernel
theorem kC_34 : 34 < LC.1 ∧ LC.2.1 34 = 0 := by decide +kernel
theorem kC_35 : 35 < LC.1 ∧ LC.2.1 35 = 6 := by decide +kernel
theorem kC_36 : 36 < LC.1 ∧ LC.2.1 36 = 0 := by decide +kernel
theorem kC_37 : 37 < LC.1 ∧ LC.2.1 37 = 0 := by decide +kernel
theorem kC_38 : 38 < LC.1 ∧ LC.2.1 38 = 0 := by decide +kernel
theorem kC_39 : 39 < LC.1 ∧ LC.2.1 39 = 0 := by decide +kernel
theorem kC_40 : 40 < LC.1 ∧ LC.2.1 40 = 6 := by decide +kernel
theorem kC_41 : 41 < LC.1 ∧ LC.2.1 41 = 0 := by decide +kernel
theorem kC_42 : 42 < LC.1 ∧ LC.2.1 42 = 0 := by decide +kernel
theorem kC_43 : 43 < LC.1 ∧ LC.2.1 43 = 0 := by decide +kernel
theorem kC_44 : 44 < LC.1 ∧ LC.2.1 44 = 0 := by decide +kernel
theorem kC_45 : 45 < LC.1 ∧ LC.2.1 45 = 6 := by decide +kernel
theorem kC_46 : 46 < LC.1 ∧ LC.2.1 46 = 0 := by decide +kernel
theorem kC_47 : 47 < LC.1 ∧ LC.2.1 47 = 0 := by decide +kernel
theorem kC_48 : 48 < LC.1 ∧ LC.2.1 48 = 0 := by decide +kernel
theorem kC_49 : 49 < LC.1 ∧ LC.2.1 49 = 0 := by decide +kernel
theorem kC_50 : 50 < LC.1 ∧ LC.2.1 50 = 6 := by decide +kernel
theorem kC_51 : 51 < LC.1 ∧ LC.2.1 51 = 0 := by decide +kernel
theorem kC_52 : 52 < LC.1 ∧ LC.2.1 52 = 0 := by decide +kernel
theorem kC_53 : 53 < LC.1 ∧ LC.2.1 53 = 0 := by decide +kernel
theorem kC_54 : 54 < LC.1 ∧ LC.2.1 54 = 0 := by decide +kernel
theorem kC_55 : 55 < LC.1 ∧ LC.2.1 55 = 6 := by decide +kernel
theorem kC_56 : 56 < LC.1 ∧ LC.2.1 56 = 0 := by decide +kernel
theorem kC_57 : 57 < LC.1 ∧ LC.2.1 57 = 0 := by decide +kernel
theorem kC_58 : 58 < LC.1 ∧ LC.2.1 58 = 0 := by decide +kernel
theorem kC_59 : 59 < LC.1 ∧ LC.2.1 59 = 0 := by decide +kernel
theorem kC_60 : 60 < LC.1 ∧ LC.2.1 60 = 5 := by decide +kernel
theorem kC_61 : 61 < LC.1 ∧ LC.2.1 61 = 0 := by decide +kernel
theorem kC_62 : 62 < LC.1 ∧ LC.2.1 62 = 0 := by decide +kernel
theorem kC_63 : 63 < LC.1 ∧ LC.2.1 63 = 4 := by decide +kernel
theorem kC_64 : 64 < LC.1 ∧ LC.2.1 64 = 0 := by decide +kernel
theorem kC_65 : 65 < LC.1 ∧ LC.2.1 65 = 3 := by decide +kernel
theorem kC_66 : 66 < LC.1 ∧ LC.2.1 66 = 0 := by decide +kernel
theorem kC_67 : 67 < LC.1 ∧ LC.2.1 67 = 0 := by decide +kernel
theorem kM_0 : 0 < LM.1 ∧ LM.2.1 0 = 11 := by decide +kernel
theorem kM_1 : 1 < LM.1 ∧ LM.2.1 1 = 0 := by decide +kernel
theorem kM_2 : 2 < LM.1 ∧ LM.2.1 2 = 0 := by decide +kernel
theorem kM_3 : 3 < LM.1 ∧ LM.2.1 3 = 0 := by decide +kernel
theorem kM_4 : 4 < LM.1 ∧ LM.2.1 4 = 0 := by decide +kernel
theorem kM_5 : 5 < LM.1 ∧ LM.2.1 5 = 0 := by decide +kernel
theorem kM_6 : 6 < LM.1 ∧ LM.2.1 6 = 0 := by decide +kernel
theorem kM_7 : 7 < LM.1 ∧ LM.2.1 7 = 0 := by decide +kernel
theorem kM_8 : 8 < LM.1 ∧ LM.2.1 8 = 0 := by decide +kernel
theorem kM_9 : 9 < LM.1 ∧ LM.2.1 9 = 0 := by decide +kernel
theorem kM_10 : 10 < LM.1 ∧ LM.2.1 10 = 0 := by decide +kernel
theorem kM_11 : 11 < LM.1 ∧ LM.2.1 11 = 0 := by decide +kernel
theorem kM_12 : 12 < LM.1 ∧ LM.2.1 12 = 0 := by decide +kernel
theorem kM_13 : 13 < LM.1 ∧ LM.2.1 13 = 0 := by decide +kernel
theorem kM_14 : 14 < LM.1 ∧ LM.2.1 14 = 0 := by decide +kernel
section ZU3
variable {L : zLay} {w : zWd} {X : zX} {r : Option Value} {S1 S : zMem} {ls : Array Slot} {st : List Value} {cc : ByteArray} {own : String} {nL lev : Nat} {ret : Option FieldType} {l0 : Launch}
theorem v_ldc_w (pc : Nat) (C : zC L w X l0 cc own nL lev ret) {idx : Nat} {v : Int32} (hd : decode cc pc = .ok (.ldc_w idx, 3)) (hw : Cond.constant own idx v ∈ zT) (k : zV L w X r S1 S (pc + 3) ls (.int v :: st)) : zV L w X r S1 S pc ls st := by
  obtain ⟨p, l, e, R, s, m, args, below, meth, c⟩ := X
  intro H locs hP hS
  exact lv_ldcw C.1.2.1 C.1.2.2.1 C.1.2.2.2.2.1 (C.1.2.2.2.2.2 _ hw) hd (k H locs hP hS)
end ZU3
end
section
def X8_within_b14 (s0 : Int32) (S : zMem) : Option (Int32 × zMem) := zc (zbo s0) (some (s0, S))
def X8_within_b13 (S : zMem) : Option (Int32 × zMem) := X8_within_b14 (0 : Int32) S
def X8_within_b0 (x0 : Int32) (x1 : Int32) (S : zMem) : Option (Int32 × zMem) := if x0 < 0 then (X8_within_b13  S) else (if x1 < x0 then (X8_within_b13  S) else (X8_within_b14 (1 : Int32) S))
def f_X8_within (x0 : Int32) (x1 : Int32) (S : zMem) : Option (Int32 × zMem) := X8_within_b0 x0 x1 S
def X8_isRow_b0 (x0 : Int32) (S : zMem) : Option (Int32 × zMem) := zb (f_X8_within x0 (5 : Int32) S) fun v1 S => zc (zbo v1) (some (v1, S))
def f_X8_isRow (x0 : Int32) (S : zMem) : Option (Int32 × zMem) := X8_isRow_b0 x0 S
def X8_refuse_b0 (x1 : Int32) (S : zMem) : Option (Int32 × zMem) := zl (zp S (0) (upd (S.1 (0)) 11 x1)) fun S => zc (zi x1 6) (zl (S.1 (67) (Int32.toNatClampNeg x1)) fun v1 => zl (v1 + (1 : Int32)) fun v2 => zc (zi x1 6) (zl (zp S (67) (upd (S.1 (67)) (Int32.toNatClampNeg x1) v2)) fun S => some ((-3 : Int32), S)))
def f_X8_refuse (x1 : Int32) (S : zMem) : Option (Int32 × zMem) := X8_refuse_b0 x1 S
def X7_lieAnew_b13 (S : zMem) : Option (Unit × zMem) := some ((), S)
def X7_lieAnew_b21 (k21 : Nat → Int32 → Int32 → Int32 → zMem → Option (Unit × zMem)) (c0 : Nat) (x1 : Int32) (x2 : Int32) (x3 : Int32) (S : zMem) : Option (Unit × zMem) := if x1 ≤ x3 then (some ((), S)) else (zc (zi x3 (lnC (c0 + 1))) (zl (zp S (c0 + 1) (upd (S.1 (c0 + 1)) (Int32.toNatClampNeg x3) x2)) fun S => zl (x3 + (1 : Int32)) fun v1 => k21 c0 x1 x2 v1 S))
def X7_lieAnew_l21 : Nat → Nat → Int32 → Int32 → Int32 → zMem → Option (Unit × zMem)
  | 0, _, _, _, _, _ => none
  | n + 1, c0, x1, x2, x3, S => X7_lieAnew_b21 (X7_lieAnew_l21 n) c0 x1 x2 x3 S
def X7_lieAnew_b0 (c0 : Nat) (x1 : Int32) (x2 : Int32) (S : zMem) : Option (Unit × zMem) := if x1 < 0 then (X7_lieAnew_b13  S) else (if x1 ≤ (Int32.ofNat (lnC (c0 + 1))) then (zl (zp S (c0) (upd (S.1 (c0)) 1 x1)) fun S => X7_lieAnew_l21 zF c0 x1 x2 (0 : Int32) S) else (X7_lieAnew_b13  S))
def f_X7_lieAnew (c0 : Nat) (x1 : Int32) (x2 : Int32) (S : zMem) : Option (Unit × zMem) := X7_lieAnew_b0 c0 x1 x2 S
def X8_row_b13 (S : zMem) : Option (Int32 × zMem) := some ((-1 : Int32), S)
def X8_row_b0 (x1 : Int32) (x2 : Int32) (S : zMem) : Option (Int32 × zMem) := zb (f_X8_isRow x1 S) fun v1 S => if v1 = 0 then (X8_row_b13  S) else (if x2 ≤ (40 : Int32) then (if 0 ≤ x2 then (zc (zi x1 6) (zb (f_X7_lieAnew (4 + 2 * Int32.toNatClampNeg x1) x2 (0 : Int32) S) fun v3 S => some (x2, S))) else (zb (f_X8_refuse (5 : Int32) S) fun v4 S => some (v4, S))) else (X8_row_b13  S))
def f_X8_row (x1 : Int32) (x2 : Int32) (S : zMem) : Option (Int32 × zMem) := X8_row_b0 x1 x2 S
def X7_isThere_b13 (s0 : Int32) (S : zMem) : Option (Int32 × zMem) := zc (zbo s0) (some (s0, S))
def X7_isThere_b0 (c0 : Nat) (S : zMem) : Option (Int32 × zMem) := zl (S.1 (c0) 1) fun v1 => if v1 = (-1 : Int32) then (X7_isThere_b13 (0 : Int32) S) else (X7_isThere_b13 (1 : Int32) S)
def f_X7_isThere (c0 : Nat) (S : zMem) : Option (Int32 × zMem) := X7_isThere_b0 c0 S
def X7_has_b17 (s0 : Int32) (S : zMem) : Option (Int32 × zMem) := zc (zbo s0) (some (s0, S))
def X7_has_b16 (S : zMem) : Option (Int32 × zMem) := X7_has_b17 (0 : Int32) S
def X7_has_b0 (c0 : Nat) (x1 : Int32) (S : zMem) : Option (Int32 × zMem) := if x1 < 0 then (X7_has_b16  S) else (zl (S.1 (c0) 1) fun v1 => if v1 ≤ x1 then (X7_has_b16  S) else (X7_has_b17 (1 : Int32) S))
def f_X7_has (c0 : Nat) (x1 : Int32) (S : zMem) : Option (Int32 × zMem) := X7_has_b0 c0 x1 S
def X8_tell_b0 (x1 : Int32) (S : zMem) : Option (Int32 × zMem) := zl (zp S (0) (upd (S.1 (0)) 12 x1)) fun S => some ((1 : Int32), S)
def f_X8_tell (x1 : Int32) (S : zMem) : Option (Int32 × zMem) := X8_tell_b0 x1 S
def X8_lay_b0 (x1 : Int32) (x2 : Int32) (x3 : Int32) (S : zMem) : Option (Int32 × zMem) := zb (f_X8_isRow x1 S) fun v1 S => if v1 = 0 then (some ((-1 : Int32), S)) else (zc (zi x1 6) (zb (f_X7_isThere (4 + 2 * Int32.toNatClampNeg x1) S) fun v3 S => if v3 = 0 then (zb (f_X8_refuse (1 : Int32) S) fun v8 S => some (v8, S)) else (zb (f_X7_has (4 + 2 * Int32.toNatClampNeg x1) x2 S) fun v4 S => if v4 = 0 then (zb (f_X8_refuse (2 : Int32) S) fun v7 S => some (v7, S)) else (zc (zi x2 (lnC ((4 + 2 * Int32.toNatClampNeg x1) + 1))) (zl (S.1 ((4 + 2 * Int32.toNatClampNeg x1) + 1) (Int32.toNatClampNeg x2)) fun v5 => zc (zi x2 (lnC ((4 + 2 * Int32.toNatClampNeg x1) + 1))) (zl (zp S ((4 + 2 * Int32.toNatClampNeg x1) + 1) (upd (S.1 ((4 + 2 * Int32.toNatClampNeg x1) + 1)) (Int32.toNatClampNeg x2) x3)) fun S => zb (f_X8_tell v5 S) fun v6 S => some (v6, S)))))))
def f_X8_lay (x1 : Int32) (x2 : Int32) (x3 : Int32) (S : zMem) : Option (Int32 × zMem) := X8_lay_b0 x1 x2 x3 S
def X8_at_b0 (x1 : Int32) (x2 : Int32) (S : zMem) : Option (Int32 × zMem) := zb (f_X8_isRow x1 S) fun v1 S => if v1 = 0 then (some ((-1 : Int32), S)) else (zc (zi x1 6) (zb (f_X7_isThere (4 + 2 * Int32.toNatClampNeg x1) S) fun v3 S => if v3 = 0 then (zb (f_X8_refuse (1 : Int32) S) fun v8 S => some (v8, S)) else (zb (f_X7_has (4 + 2 * Int32.toNatClampNeg x1) x2 S) fun v4 S => if v4 = 0 then (zb (f_X8_refuse (2 : Int32) S) fun v7 S => some (v7, S)) else (zc (zi x2 (lnC ((4 + 2 * Int32.toNatClampNeg x1) + 1))) (zl (S.1 ((4 + 2 * Int32.toNatClampNeg x1) + 1) (Int32.toNatClampNeg x2)) fun v5 => zb (f_X8_tell v5 S) fun v6 S => some (v6, S))))))
def f_X8_at (x1 : Int32) (x2 : Int32) (S : zMem) : Option (Int32 × zMem) := X8_at_b0 x1 x2 S
def X7_goMissing_b0 (c0 : Nat) (S : zMem) : Option (Unit × zMem) := zl (zp S (c0) (upd (S.1 (c0)) 1 (-1 : Int32))) fun S => some ((), S)
def f_X7_goMissing (c0 : Nat) (S : zMem) : Option (Unit × zMem) := X7_goMissing_b0 c0 S
def X8_tear_b0 (x1 : Int32) (S : zMem) : Option (Int32 × zMem) := zb (f_X8_isRow x1 S) fun v1 S => if v1 = 0 then (some ((-1 : Int32), S)) else (zc (zi x1 6) (zb (f_X7_isThere (4 + 2 * Int32.toNatClampNeg x1) S) fun v3 S => if v3 = 0 then (zb (f_X8_refuse (1 : Int32) S) fun v6 S => some (v6, S)) else (zc (zi x1 6) (zb (f_X7_goMissing (4 + 2 * Int32.toNatClampNeg x1) S) fun v5 S => some ((1 : Int32), S)))))
def f_X8_tear (x1 : Int32) (S : zMem) : Option (Int32 × zMem) := X8_tear_b0 x1 S
def X7_hasSpan_b31 (s0 : Int32) (S : zMem) : Option (Int32 × zMem) := zc (zbo s0) (some (s0, S))
def X7_hasSpan_b30 (S : zMem) : Option (Int32 × zMem) := X7_hasSpan_b31 (0 : Int32) S
def X7_hasSpan_b0 (c0 : Nat) (x1 : Int32) (x2 : Int32) (S : zMem) : Option (Int32 × zMem) := if x1 < 0 then (X7_hasSpan_b30  S) else (zl (S.1 (c0) 1) fun v1 => if v1 < x1 then (X7_hasSpan_b30  S) else (if x2 < 0 then (X7_hasSpan_b30  S) else (zl (S.1 (c0) 1) fun v2 => zl (v2 - x1) fun v3 => if v3 < x2 then (X7_hasSpan_b30  S) else (X7_hasSpan_b31 (1 : Int32) S))))
def f_X7_hasSpan (c0 : Nat) (x1 : Int32) (x2 : Int32) (S : zMem) : Option (Int32 × zMem) := X7_hasSpan_b0 c0 x1 x2 S
def X8_copy_b14 (S : zMem) : Option (Int32 × zMem) := some ((-1 : Int32), S)
def X8_copy_b59 (S : zMem) : Option (Int32 × zMem) := zb (f_X8_refuse (1 : Int32) S) fun v1 S => some (v1, S)
def X8_copy_b88 (S : zMem) : Option (Int32 × zMem) := zb (f_X8_refuse (2 : Int32) S) fun v1 S => some (v1, S)
def X8_copy_b0 (x1 : Int32) (x2 : Int32) (x3 : Int32) (x4 : Int32) (x5 : Int32) (S : zMem) : Option (Int32 × zMem) := zb (f_X8_isRow x1 S) fun v1 S => if v1 = 0 then (X8_copy_b14  S) else (zb (f_X8_isRow x3 S) fun v2 S => if v2 = 0 then (X8_copy_b14  S) else (if 0 ≤ x5 then (zc (zi x1 6) (zc (zi x3 6) (zb (f_X7_isThere (4 + 2 * Int32.toNatClampNeg x1) S) fun v5 S => if v5 = 0 then (X8_copy_b59  S) else (zb (f_X7_isThere (4 + 2 * Int32.toNatClampNeg x3) S) fun v6 S => if v6 = 0 then (X8_copy_b59  S) else (zb (f_X7_hasSpan (4 + 2 * Int32.toNatClampNeg x1) x2 x5 S) fun v7 S => if v7 = 0 then (X8_copy_b88  S) else (zb (f_X7_hasSpan (4 + 2 * Int32.toNatClampNeg x3) x4 x5 S) fun v8 S => if v8 = 0 then (X8_copy_b88  S) else (zc (zcp x2 x4 x5 (lnC ((4 + 2 * Int32.toNatClampNeg x1) + 1)) (lnC ((4 + 2 * Int32.toNatClampNeg x3) + 1))) (zl (zp S ((4 + 2 * Int32.toNatClampNeg x3) + 1) (va_cpy (S.1 ((4 + 2 * Int32.toNatClampNeg x1) + 1)) (S.1 ((4 + 2 * Int32.toNatClampNeg x3) + 1)) (Int32.toNatClampNeg x2) (Int32.toNatClampNeg x4) (Int32.toNatClampNeg x5))) fun S => some ((1 : Int32), S))))))))) else (zb (f_X8_refuse (5 : Int32) S) fun v9 S => some (v9, S))))
def f_X8_copy (x1 : Int32) (x2 : Int32) (x3 : Int32) (x4 : Int32) (x5 : Int32) (S : zMem) : Option (Int32 × zMem) := X8_copy_b0 x1 x2 x3 x4 x5 S
def X7_sum_b4 (k4 : Nat → Int64 → Int32 → zMem → Option (Int64 × zMem)) (c0 : Nat) (y1 : Int64) (x3 : Int32) (S : zMem) : Option (Int64 × zMem) := zl (S.1 (c0) 1) fun v1 => if v1 ≤ x3 then (some (y1, S)) else (zc (zi x3 (lnC (c0 + 1))) (zl (S.1 (c0 + 1) (Int32.toNatClampNeg x3)) fun v2 => zl (Int32.toInt64 v2) fun v3 => zl (y1 + v3) fun v4 => zl (x3 + (1 : Int32)) fun v5 => k4 c0 v4 v5 S))
def X7_sum_l4 : Nat → Nat → Int64 → Int32 → zMem → Option (Int64 × zMem)
  | 0, _, _, _, _ => none
  | n + 1, c0, y1, x3, S => X7_sum_b4 (X7_sum_l4 n) c0 y1 x3 S
def X7_sum_b0 (c0 : Nat) (S : zMem) : Option (Int64 × zMem) := X7_sum_l4 zF c0 (0 : Int64) (0 : Int32) S
def f_X7_sum (c0 : Nat) (S : zMem) : Option (Int64 × zMem) := X7_sum_b0 c0 S
def X8_mean_b0 (x1 : Int32) (S : zMem) : Option (Int32 × zMem) := zb (f_X8_isRow x1 S) fun v1 S => if v1 = 0 then (some ((-1 : Int32), S)) else (zc (zi x1 6) (zb (f_X7_isThere (4 + 2 * Int32.toNatClampNeg x1) S) fun v3 S => if v3 = 0 then (zb (f_X8_refuse (1 : Int32) S) fun v12 S => some (v12, S)) else (zl (S.1 (4 + 2 * Int32.toNatClampNeg x1) 1) fun v4 => if v4 = 0 then (zb (f_X8_refuse (4 : Int32) S) fun v11 S => some (v11, S)) else (zb (f_X7_sum (4 + 2 * Int32.toNatClampNeg x1) S) fun v5 S => zl (S.1 (4 + 2 * Int32.toNatClampNeg x1) 1) fun v6 => zl (Int32.toInt64 v6) fun v7 => zc (decide (¬ v7 = 0)) (zl (v5 / v7) fun v8 => zl (Int64.toInt32 v8) fun v9 => zb (f_X8_tell v9 S) fun v10 S => some (v10, S))))))
def f_X8_mean (x1 : Int32) (S : zMem) : Option (Int32 × zMem) := X8_mean_b0 x1 S
def X8_isText_b0 (x0 : Int32) (S : zMem) : Option (Int32 × zMem) := zb (f_X8_within x0 (3 : Int32) S) fun v1 S => zc (zbo v1) (some (v1, S))
def f_X8_isText (x0 : Int32) (S : zMem) : Option (Int32 × zMem) := X8_isText_b0 x0 S
def X8_text_b13 (S : zMem) : Option (Int32 × zMem) := some ((-1 : Int32), S)
def X8_text_b0 (x1 : Int32) (x2 : Int32) (S : zMem) : Option (Int32 × zMem) := zb (f_X8_isText x1 S) fun v1 S => if v1 = 0 then (X8_text_b13  S) else (if x2 ≤ (60 : Int32) then (if 0 ≤ x2 then (zc (zi x1 4) (zb (f_X7_lieAnew (16 + 2 * Int32.toNatClampNeg x1) x2 (32 : Int32) S) fun v3 S => some (x2, S))) else (zb (f_X8_refuse (5 : Int32) S) fun v4 S => some (v4, S))) else (X8_text_b13  S))
def f_X8_text (x1 : Int32) (x2 : Int32) (S : zMem) : Option (Int32 × zMem) := X8_text_b0 x1 x2 S
def X8_put_b0 (x1 : Int32) (x2 : Int32) (x3 : Int32) (S : zMem) : Option (Int32 × zMem) := zb (f_X8_isText x1 S) fun v1 S => if v1 = 0 then (some ((-1 : Int32), S)) else (zc (zi x1 4) (zb (f_X7_isThere (16 + 2 * Int32.toNatClampNeg x1) S) fun v3 S => if v3 = 0 then (zb (f_X8_refuse (1 : Int32) S) fun v9 S => some (v9, S)) else (zb (f_X7_has (16 + 2 * Int32.toNatClampNeg x1) x2 S) fun v4 S => if v4 = 0 then (zb (f_X8_refuse (2 : Int32) S) fun v8 S => some (v8, S)) else (zc (zi x2 (lnC ((16 + 2 * Int32.toNatClampNeg x1) + 1))) (zl (S.1 ((16 + 2 * Int32.toNatClampNeg x1) + 1) (Int32.toNatClampNeg x2)) fun v5 => zl ((Int32.toInt8 x3).toInt32) fun v6 => zc (zi x2 (lnC ((16 + 2 * Int32.toNatClampNeg x1) + 1))) (zl (zp S ((16 + 2 * Int32.toNatClampNeg x1) + 1) (upd (S.1 ((16 + 2 * Int32.toNatClampNeg x1) + 1)) (Int32.toNatClampNeg x2) v6)) fun S => zl (v5 + (1000 : Int32)) fun v7 => some (v7, S)))))))
def f_X8_put (x1 : Int32) (x2 : Int32) (x3 : Int32) (S : zMem) : Option (Int32 × zMem) := X8_put_b0 x1 x2 x3 S
def X5_figureAt_b30 (S : zMem) : Option (Int32 × zMem) := some ((-1 : Int32), S)
def X5_figureAt_b0 (c0 : Nat) (x1 : Int32) (S : zMem) : Option (Int32 × zMem) := zb (f_X7_has c0 x1 S) fun v1 S => if v1 = 0 then (X5_figureAt_b30  S) else (zc (zi x1 (lnC (c0 + 1))) (zl (S.1 (c0 + 1) (Int32.toNatClampNeg x1)) fun v2 => if v2 < (48 : Int32) then (X5_figureAt_b30  S) else (zc (zi x1 (lnC (c0 + 1))) (zl (S.1 (c0 + 1) (Int32.toNatClampNeg x1)) fun v3 => if v3 ≤ (57 : Int32) then (zc (zi x1 (lnC (c0 + 1))) (zl (S.1 (c0 + 1) (Int32.toNatClampNeg x1)) fun v4 => zl (v4 - (48 : Int32)) fun v5 => some (v5, S))) else (X5_figureAt_b30  S)))))
def f_X5_figureAt (c0 : Nat) (x1 : Int32) (S : zMem) : Option (Int32 × zMem) := X5_figureAt_b0 c0 x1 S
def X5_houseFault_b39 (x2 : Int32) (S : zMem) : Option (Int32 × zMem) := some (x2, S)
def X5_houseFault_b0 (c1 : Nat) (x2 : Int32) (S : zMem) : Option (Int32 × zMem) := zl (x2 + (1 : Int32)) fun v1 => zb (f_X5_figureAt c1 v1 S) fun v2 S => zl (x2 + (2 : Int32)) fun v3 => zb (f_X5_figureAt c1 v3 S) fun v4 S => zl (S.1 (30) 5) fun v5 => if 0 < v5 then (X5_houseFault_b39 x2 S) else (zl (S.1 (30) 4) fun v6 => if v6 < (6 : Int32) then (if v2 = (-1 : Int32) then (zl (x2 + (1 : Int32)) fun v16 => some (v16, S)) else (if v4 = (-1 : Int32) then (zl (x2 + (2 : Int32)) fun v15 => some (v15, S)) else (zl ((10 : Int32) * v2) fun v7 => zl (v7 + v4) fun v8 => if v8 ≤ (20 : Int32) then (zl (S.1 (30) 4) fun v9 => zl ((10 : Int32) * v2) fun v10 => zl (v10 + v4) fun v11 => zc (zi v9 6) (zl (zp S (31) (upd (S.1 (31)) (Int32.toNatClampNeg v9) v11)) fun S => zl (S.1 (30) 4) fun v12 => zl (v12 + (1 : Int32)) fun v13 => zl (zp S (30) (upd (S.1 (30)) 4 v13)) fun S => some ((-9 : Int32), S))) else (zl (x2 + (1 : Int32)) fun v14 => some (v14, S))))) else (X5_houseFault_b39 x2 S))
def f_X5_houseFault (c1 : Nat) (x2 : Int32) (S : zMem) : Option (Int32 × zMem) := X5_houseFault_b0 c1 x2 S
def X1_bySign_b2 (k2 : Int32 → Int32 → zMem → Option (Int32 × zMem)) (x0 : Int32) (x1 : Int32) (S : zMem) : Option (Int32 × zMem) := if (6 : Int32) ≤ x1 then (some ((-9 : Int32), S)) else (zc (zi x1 6) (zl (zsig (Int32.toNatClampNeg x1)) fun v1 => if v1 = x0 then (some (x1, S)) else (zl (x1 + (1 : Int32)) fun v2 => k2 x0 v2 S)))
def X1_bySign_l2 : Nat → Int32 → Int32 → zMem → Option (Int32 × zMem)
  | 0, _, _, _ => none
  | n + 1, x0, x1, S => X1_bySign_b2 (X1_bySign_l2 n) x0 x1 S
def X1_bySign_b0 (x0 : Int32) (S : zMem) : Option (Int32 × zMem) := X1_bySign_l2 zF x0 (0 : Int32) S
def f_X1_bySign (x0 : Int32) (S : zMem) : Option (Int32 × zMem) := X1_bySign_b0 x0 S
def X5_letterFault_b56 (x2 : Int32) (S : zMem) : Option (Int32 × zMem) := some (x2, S)
def X5_letterFault_b76 (x2 : Int32) (S : zMem) : Option (Int32 × zMem) := zl (x2 + (1 : Int32)) fun v1 => some (v1, S)
def X5_letterFault_b0 (c1 : Nat) (x2 : Int32) (S : zMem) : Option (Int32 × zMem) := zc (zi x2 (lnC (c1 + 1))) (zl (S.1 (c1 + 1) (Int32.toNatClampNeg x2)) fun v1 => zb (f_X1_bySign v1 S) fun v2 S => zl (x2 + (1 : Int32)) fun v3 => zb (f_X5_figureAt c1 v3 S) fun v4 S => zl (x2 + (2 : Int32)) fun v5 => zb (f_X5_figureAt c1 v5 S) fun v6 S => if v2 = (-9 : Int32) then (X5_letterFault_b56 x2 S) else (zl (S.1 (30) 4) fun v7 => if v7 = 0 then (X5_letterFault_b56 x2 S) else (zl (S.1 (30) 5) fun v8 => if v8 < (6 : Int32) then (if v4 = (-1 : Int32) then (X5_letterFault_b76 x2 S) else (zl (S.1 (30) 4) fun v9 => if v4 < v9 then (if v6 = (-1 : Int32) then (zl (x2 + (2 : Int32)) fun v15 => some (v15, S)) else (zl (S.1 (30) 5) fun v10 => zc (zi v10 6) (zl (zp S (32) (upd (S.1 (32)) (Int32.toNatClampNeg v10) v2)) fun S => zl (S.1 (30) 5) fun v11 => zc (zi v11 6) (zl (zp S (33) (upd (S.1 (33)) (Int32.toNatClampNeg v11) v4)) fun S => zl (S.1 (30) 5) fun v12 => zc (zi v12 6) (zl (zp S (34) (upd (S.1 (34)) (Int32.toNatClampNeg v12) v6)) fun S => zl (S.1 (30) 5) fun v13 => zl (v13 + (1 : Int32)) fun v14 => zl (zp S (30) (upd (S.1 (30)) 5 v14)) fun S => some ((-9 : Int32), S)))))) else (X5_letterFault_b76 x2 S))) else (X5_letterFault_b56 x2 S))))
def f_X5_letterFault (c1 : Nat) (x2 : Int32) (S : zMem) : Option (Int32 × zMem) := X5_letterFault_b0 c1 x2 S
def X5_itemFault_b26 (s0 : Int32) (S : zMem) : Option (Int32 × zMem) := some (s0, S)
def X5_itemFault_b0 (c1 : Nat) (x2 : Int32) (S : zMem) : Option (Int32 × zMem) := zc (zi x2 (lnC (c1 + 1))) (zl (S.1 (c1 + 1) (Int32.toNatClampNeg x2)) fun v1 => if v1 = (104 : Int32) then (zb (f_X5_houseFault c1 x2 S) fun v3 S => X5_itemFault_b26 v3 S) else (zb (f_X5_letterFault c1 x2 S) fun v2 S => X5_itemFault_b26 v2 S))
def f_X5_itemFault (c1 : Nat) (x2 : Int32) (S : zMem) : Option (Int32 × zMem) := X5_itemFault_b0 c1 x2 S
def X5_postmanFault_b51 (x2 : Int32) (S : zMem) : Option (Int32 × zMem) := zl (x2 + (2 : Int32)) fun v1 => some (v1, S)
def X5_postmanFault_b0 (c1 : Nat) (x2 : Int32) (S : zMem) : Option (Int32 × zMem) := zl (x2 + (1 : Int32)) fun v1 => zb (f_X5_figureAt c1 v1 S) fun v2 S => zl (x2 + (2 : Int32)) fun v3 => zb (f_X5_figureAt c1 v3 S) fun v4 S => zc (zi x2 (lnC (c1 + 1))) (zl (S.1 (c1 + 1) (Int32.toNatClampNeg x2)) fun v5 => if v5 = (112 : Int32) then (if v2 = (-1 : Int32) then (zl (x2 + (1 : Int32)) fun v6 => some (v6, S)) else (if v4 = (-1 : Int32) then (X5_postmanFault_b51 x2 S) else (if v4 ≤ (2 : Int32) then (zl (zp S (30) (upd (S.1 (30)) 6 v2)) fun S => zl (zp S (30) (upd (S.1 (30)) 7 v4)) fun S => some ((-9 : Int32), S)) else (X5_postmanFault_b51 x2 S)))) else (some (x2, S)))
def f_X5_postmanFault (c1 : Nat) (x2 : Int32) (S : zMem) : Option (Int32 × zMem) := X5_postmanFault_b0 c1 x2 S
def X5_faultOf_b64 (k20 : Nat → Int32 → Int32 → zMem → Option (Int32 × zMem)) (c1 : Nat) (x3 : Int32) (s0 : Int32) (S : zMem) : Option (Int32 × zMem) := if s0 = (-9 : Int32) then (zl (x3 + (3 : Int32)) fun v1 => k20 c1 (1 : Int32) v1 S) else (some (s0, S))
def X5_faultOf_b103 (s0 : Int32) (S : zMem) : Option (Int32 × zMem) := some (s0, S)
def X5_faultOf_b20 (k20 : Nat → Int32 → Int32 → zMem → Option (Int32 × zMem)) (c1 : Nat) (x2 : Int32) (x3 : Int32) (S : zMem) : Option (Int32 × zMem) := zl (S.1 (c1) 1) fun v1 => if v1 ≤ x3 then (zl (S.1 (30) 5) fun v2 => if v2 ≤ 0 then (zl (S.1 (c1) 1) fun v3 => X5_faultOf_b103 v3 S) else (X5_faultOf_b103 (-9 : Int32) S)) else (zc (zi x3 (lnC (c1 + 1))) (zl (S.1 (c1 + 1) (Int32.toNatClampNeg x3)) fun v4 => if v4 = (32 : Int32) then (zl (x3 + (1 : Int32)) fun v7 => k20 c1 x2 v7 S) else (if x2 = 0 then (zb (f_X5_postmanFault c1 x3 S) fun v5 S => X5_faultOf_b64 k20 c1 x3 v5 S) else (zb (f_X5_itemFault c1 x3 S) fun v6 S => X5_faultOf_b64 k20 c1 x3 v6 S))))
def X5_faultOf_l20 : Nat → Nat → Int32 → Int32 → zMem → Option (Int32 × zMem)
  | 0, _, _, _, _ => none
  | n + 1, c1, x2, x3, S => X5_faultOf_b20 (X5_faultOf_l20 n) c1 x2 x3 S
def X5_faultOf_b0 (c1 : Nat) (S : zMem) : Option (Int32 × zMem) := zl (zp S (30) (upd (S.1 (30)) 4 (0 : Int32))) fun S => zl (zp S (30) (upd (S.1 (30)) 5 (0 : Int32))) fun S => X5_faultOf_l20 zF c1 (0 : Int32) (0 : Int32) S
def f_X5_faultOf (c1 : Nat) (S : zMem) : Option (Int32 × zMem) := X5_faultOf_b0 c1 S
def X8_fault_b0 (x1 : Int32) (S : zMem) : Option (Int32 × zMem) := zb (f_X8_isText x1 S) fun v1 S => if v1 = 0 then (some ((-1 : Int32), S)) else (zc (zi x1 4) (zb (f_X7_isThere (16 + 2 * Int32.toNatClampNeg x1) S) fun v3 S => if v3 = 0 then (zb (f_X8_refuse (1 : Int32) S) fun v6 S => some (v6, S)) else (zc (zi x1 4) (zb (f_X5_faultOf (16 + 2 * Int32.toNatClampNeg x1) S) fun v5 S => some (v5, S)))))
def f_X8_fault (x1 : Int32) (S : zMem) : Option (Int32 × zMem) := X8_fault_b0 x1 S
def X6_become_b0 (S : zMem) : Option (Unit × zMem) := zl (S.1 (30) 4) fun v1 => zl (zp S (24) (upd (S.1 (24)) 4 v1)) fun S => zl (S.1 (30) 5) fun v2 => zl (zp S (24) (upd (S.1 (24)) 5 v2)) fun S => zl (S.1 (30) 6) fun v3 => zl (zp S (24) (upd (S.1 (24)) 6 v3)) fun S => zl (S.1 (30) 7) fun v4 => zl (zp S (24) (upd (S.1 (24)) 7 v4)) fun S => zc (zcp (0 : Int32) (0 : Int32) (6 : Int32) 6 6) (zl (zp S (25) (va_cpy (S.1 (31)) (S.1 (25)) (Int32.toNatClampNeg (0 : Int32)) (Int32.toNatClampNeg (0 : Int32)) (Int32.toNatClampNeg (6 : Int32)))) fun S => zc (zcp (0 : Int32) (0 : Int32) (6 : Int32) 6 6) (zl (zp S (26) (va_cpy (S.1 (32)) (S.1 (26)) (Int32.toNatClampNeg (0 : Int32)) (Int32.toNatClampNeg (0 : Int32)) (Int32.toNatClampNeg (6 : Int32)))) fun S => zc (zcp (0 : Int32) (0 : Int32) (6 : Int32) 6 6) (zl (zp S (27) (va_cpy (S.1 (33)) (S.1 (27)) (Int32.toNatClampNeg (0 : Int32)) (Int32.toNatClampNeg (0 : Int32)) (Int32.toNatClampNeg (6 : Int32)))) fun S => zc (zcp (0 : Int32) (0 : Int32) (6 : Int32) 6 6) (zl (zp S (28) (va_cpy (S.1 (34)) (S.1 (28)) (Int32.toNatClampNeg (0 : Int32)) (Int32.toNatClampNeg (0 : Int32)) (Int32.toNatClampNeg (6 : Int32)))) fun S => some ((), S)))))
def f_X6_become (S : zMem) : Option (Unit × zMem) := X6_become_b0  S
def X4_begin_b0 (c0 : Nat) (S : zMem) : Option (Unit × zMem) := zc (zbo (1 : Int32)) (zl (zp S (c0) (upd (S.1 (c0)) 5 (1 : Int32))) fun S => zl (zp S (c0) (upd (S.1 (c0)) 6 (0 : Int32))) fun S => zl (zp S (c0) (upd (S.1 (c0)) 7 (0 : Int32))) fun S => zl (S.1 (24) 6) fun v1 => zl (zp S (c0) (upd (S.1 (c0)) 8 v1)) fun S => zl (S.1 (24) 7) fun v2 => zl (zp S (c0) (upd (S.1 (c0)) 9 v2)) fun S => zl (zp S (c0) (upd (S.1 (c0)) 10 (0 : Int32))) fun S => zl (zp S (c0) (upd (S.1 (c0)) 11 (0 : Int32))) fun S => zc (zcp (0 : Int32) (0 : Int32) (6 : Int32) 6 6) (zl (zp S (c0 + 1) (va_cpy (S.1 (25)) (S.1 (c0 + 1)) (Int32.toNatClampNeg (0 : Int32)) (Int32.toNatClampNeg (0 : Int32)) (Int32.toNatClampNeg (6 : Int32)))) fun S => some ((), S)))
def f_X4_begin (c0 : Nat) (S : zMem) : Option (Unit × zMem) := X4_begin_b0 c0 S
def X8_post_b80 (k80 : Int32 → Int32 → zMem → Option (Int32 × zMem)) (x3 : Int32) (x4 : Int32) (S : zMem) : Option (Int32 × zMem) := if x3 ≤ x4 then (zl (S.1 (24) 5) fun v1 => some (v1, S)) else (zc (zi x4 3) (zc (zbo (0 : Int32)) (zl (zp S (45 + 5 * Int32.toNatClampNeg x4) (upd (S.1 (45 + 5 * Int32.toNatClampNeg x4)) 5 (0 : Int32))) fun S => zl (x4 + (1 : Int32)) fun v3 => k80 x3 v3 S)))
def X8_post_l80 : Nat → Int32 → Int32 → zMem → Option (Int32 × zMem)
  | 0, _, _, _ => none
  | n + 1, x3, x4, S => X8_post_b80 (X8_post_l80 n) x3 x4 S
def X8_post_b0 (x1 : Int32) (S : zMem) : Option (Int32 × zMem) := zb (f_X8_isText x1 S) fun v1 S => if v1 = 0 then (some ((-1 : Int32), S)) else (zc (zi x1 4) (zb (f_X7_isThere (16 + 2 * Int32.toNatClampNeg x1) S) fun v3 S => if v3 = 0 then (zb (f_X8_refuse (1 : Int32) S) fun v8 S => some (v8, S)) else (zc (zi x1 4) (zb (f_X5_faultOf (16 + 2 * Int32.toNatClampNeg x1) S) fun v5 S => if v5 = (-9 : Int32) then (zb (f_X6_become  S) fun v6 S => zb (f_X4_begin 35 S) fun v7 S => X8_post_l80 zF (3 : Int32) (0 : Int32) S) else (some ((-4 : Int32), S))))))
def f_X8_post (x1 : Int32) (S : zMem) : Option (Int32 × zMem) := X8_post_b0 x1 S
def X8_isHouse_b0 (x1 : Int32) (S : zMem) : Option (Int32 × zMem) := zl (S.1 (24) 4) fun v1 => zl (v1 - (1 : Int32)) fun v2 => zb (f_X8_within x1 v2 S) fun v3 S => zc (zbo v3) (some (v3, S))
def f_X8_isHouse (x1 : Int32) (S : zMem) : Option (Int32 × zMem) := X8_isHouse_b0 x1 S
def X6_lettersTo_b28 (k4 : Int32 → Int32 → Int32 → zMem → Option (Int32 × zMem)) (x1 : Int32) (x2 : Int32) (x3 : Int32) (S : zMem) : Option (Int32 × zMem) := zl (x3 + (1 : Int32)) fun v1 => k4 x1 x2 v1 S
def X6_lettersTo_b4 (k4 : Int32 → Int32 → Int32 → zMem → Option (Int32 × zMem)) (x1 : Int32) (x2 : Int32) (x3 : Int32) (S : zMem) : Option (Int32 × zMem) := zl (S.1 (24) 5) fun v1 => if v1 ≤ x3 then (some (x2, S)) else (zc (zi x3 6) (zl (S.1 (27) (Int32.toNatClampNeg x3)) fun v2 => if v2 = x1 then (zl ((1 : Int32) <<< (x3 &&& 31)) fun v3 => zl (x2 ||| v3) fun v4 => X6_lettersTo_b28 k4 x1 v4 x3 S) else (X6_lettersTo_b28 k4 x1 x2 x3 S)))
def X6_lettersTo_l4 : Nat → Int32 → Int32 → Int32 → zMem → Option (Int32 × zMem)
  | 0, _, _, _, _ => none
  | n + 1, x1, x2, x3, S => X6_lettersTo_b4 (X6_lettersTo_l4 n) x1 x2 x3 S
def X6_lettersTo_b0 (x1 : Int32) (S : zMem) : Option (Int32 × zMem) := X6_lettersTo_l4 zF x1 (0 : Int32) (0 : Int32) S
def f_X6_lettersTo (x1 : Int32) (S : zMem) : Option (Int32 × zMem) := X6_lettersTo_b0 x1 S
def X8_ofHouse_b0 (x1 : Int32) (x2 : Int32) (S : zMem) : Option (Int32 × zMem) := if x2 = (0 : Int32) then (zc (zi x1 6) (zl (S.1 (36) (Int32.toNatClampNeg x1)) fun v1 => some (v1, S))) else (if x2 = (1 : Int32) then (zb (f_X6_lettersTo x1 S) fun v3 S => some (v3, S)) else (zl (S.1 (35) 10) fun v5 => zl (x1 - v5) fun v6 => zl (if 0 ≤ v6 then v6 else 0 - v6) fun v7 => some (v7, S)))
def f_X8_ofHouse (x1 : Int32) (x2 : Int32) (S : zMem) : Option (Int32 × zMem) := X8_ofHouse_b0 x1 x2 S
def X8_house_b16 (S : zMem) : Option (Int32 × zMem) := some ((-1 : Int32), S)
def X8_house_b0 (x1 : Int32) (x2 : Int32) (S : zMem) : Option (Int32 × zMem) := zb (f_X8_isHouse x1 S) fun v1 S => if v1 = 0 then (X8_house_b16  S) else (zb (f_X8_within x2 (2 : Int32) S) fun v2 S => if v2 = 0 then (X8_house_b16  S) else (zb (f_X8_ofHouse x1 x2 S) fun v3 S => zb (f_X8_tell v3 S) fun v4 S => some (v4, S)))
def f_X8_house (x1 : Int32) (x2 : Int32) (S : zMem) : Option (Int32 × zMem) := X8_house_b0 x1 x2 S
def X8_isLetter_b0 (x1 : Int32) (S : zMem) : Option (Int32 × zMem) := zl (S.1 (24) 5) fun v1 => zl (v1 - (1 : Int32)) fun v2 => zb (f_X8_within x1 v2 S) fun v3 S => zc (zbo v3) (some (v3, S))
def f_X8_isLetter (x1 : Int32) (S : zMem) : Option (Int32 × zMem) := X8_isLetter_b0 x1 S
def X4_wasCarried_b16 (s0 : Int32) (S : zMem) : Option (Int32 × zMem) := zc (zbo s0) (some (s0, S))
def X4_wasCarried_b0 (c0 : Nat) (x1 : Int32) (S : zMem) : Option (Int32 × zMem) := zl (S.1 (c0) 11) fun v1 => zl (v1 >>> (x1 &&& 31)) fun v2 => zl (v2 &&& (1 : Int32)) fun v3 => if v3 = 0 then (X4_wasCarried_b16 (0 : Int32) S) else (X4_wasCarried_b16 (1 : Int32) S)
def f_X4_wasCarried (c0 : Nat) (x1 : Int32) (S : zMem) : Option (Int32 × zMem) := X4_wasCarried_b0 c0 x1 S
def X6_moodWithin_b0 (x0 : Int32) (S : zMem) : Option (Int32 × zMem) := zl (if x0 < (9 : Int32) then x0 else (9 : Int32)) fun v1 => zl (if (0 : Int32) < v1 then v1 else (0 : Int32)) fun v2 => some (v2, S)
def f_X6_moodWithin (x0 : Int32) (S : zMem) : Option (Int32 × zMem) := X6_moodWithin_b0 x0 S
def X6_moodAtDoor_b0 (x1 : Int32) (x2 : Int32) (x3 : Int32) (x4 : Int32) (S : zMem) : Option (Int32 × zMem) := zc (zi x1 6) (zl (S.1 (27) (Int32.toNatClampNeg x1)) fun v1 => zl (v1 - x3) fun v2 => zl (if 0 ≤ v2 then v2 else 0 - v2) fun v3 => zl (x4 - (1 : Int32)) fun v4 => zl (v3 * v4) fun v5 => zl (x2 + v5) fun v6 => zb (f_X6_moodWithin v6 S) fun v7 S => some (v7, S))
def f_X6_moodAtDoor (x1 : Int32) (x2 : Int32) (x3 : Int32) (x4 : Int32) (S : zMem) : Option (Int32 × zMem) := X6_moodAtDoor_b0 x1 x2 x3 x4 S
def X8_arrivingWith_b0 (x1 : Int32) (x2 : Int32) (S : zMem) : Option (Int32 × zMem) := zl (S.1 (35) 8) fun v1 => zl (v1 + x2) fun v2 => zb (f_X6_moodWithin v2 S) fun v3 S => zl (S.1 (35) 10) fun v4 => zl (S.1 (35) 9) fun v5 => zb (f_X6_moodAtDoor x1 v3 v4 v5 S) fun v6 S => some (v6, S)
def f_X8_arrivingWith (x1 : Int32) (x2 : Int32) (S : zMem) : Option (Int32 × zMem) := X8_arrivingWith_b0 x1 x2 S
def X1_warmth_b48 (x1 : Int32) (x2 : Int32) (S : zMem) : Option (Int32 × zMem) := zl (x1 + x2) fun v1 => zl (if v1 < (9 : Int32) then v1 else (9 : Int32)) fun v2 => some (v2, S)
def X1_warmth_b0 (x0 : Int32) (x1 : Int32) (x2 : Int32) (S : zMem) : Option (Int32 × zMem) := if x0 = (1 : Int32) then (some (x1, S)) else (if x0 = (2 : Int32) then (zl (x1 + x2) fun v2 => zl (v2 / (2 : Int32)) fun v3 => zl (if (5 : Int32) < v3 then v3 else (5 : Int32)) fun v4 => some (v4, S)) else (if x0 = (3 : Int32) then (X1_warmth_b48 x1 x2 S) else (if x0 = (4 : Int32) then (zl (if (5 : Int32) < x1 then x1 else (5 : Int32)) fun v7 => some (v7, S)) else (if x0 = (5 : Int32) then (X1_warmth_b48 x1 x2 S) else (zl (x1 + x2) fun v10 => zl (v10 / (2 : Int32)) fun v11 => some (v11, S))))))
def f_X1_warmth (x0 : Int32) (x1 : Int32) (x2 : Int32) (S : zMem) : Option (Int32 × zMem) := X1_warmth_b0 x0 x1 x2 S
def X6_warmth_b0 (x1 : Int32) (x2 : Int32) (S : zMem) : Option (Int32 × zMem) := zc (zi x1 6) (zl (S.1 (26) (Int32.toNatClampNeg x1)) fun v1 => zc (zi x1 6) (zl (S.1 (28) (Int32.toNatClampNeg x1)) fun v2 => zb (f_X1_warmth v1 v2 x2 S) fun v3 S => some (v3, S)))
def f_X6_warmth (x1 : Int32) (x2 : Int32) (S : zMem) : Option (Int32 × zMem) := X6_warmth_b0 x1 x2 S
def X8_ofLetter_b87 (s0 : Int32) (S : zMem) : Option (Int32 × zMem) := some (s0, S)
def X8_ofLetter_b0 (x1 : Int32) (x2 : Int32) (S : zMem) : Option (Int32 × zMem) := if x2 = (0 : Int32) then (zc (zi x1 6) (zl (S.1 (26) (Int32.toNatClampNeg x1)) fun v1 => some (v1, S))) else (if x2 = (1 : Int32) then (zc (zi x1 6) (zl (S.1 (27) (Int32.toNatClampNeg x1)) fun v3 => some (v3, S))) else (if x2 = (2 : Int32) then (zc (zi x1 6) (zl (S.1 (28) (Int32.toNatClampNeg x1)) fun v5 => some (v5, S))) else (if x2 = (3 : Int32) then (zb (f_X4_wasCarried 35 x1 S) fun v7 S => if v7 = 0 then (X8_ofLetter_b87 (-9 : Int32) S) else (zc (zi x1 6) (zl (S.1 (37) (Int32.toNatClampNeg x1)) fun v8 => X8_ofLetter_b87 v8 S))) else (zb (f_X8_arrivingWith x1 (0 : Int32) S) fun v10 S => zb (f_X6_warmth x1 v10 S) fun v11 S => some (v11, S)))))
def f_X8_ofLetter (x1 : Int32) (x2 : Int32) (S : zMem) : Option (Int32 × zMem) := X8_ofLetter_b0 x1 x2 S
def X8_letter_b16 (S : zMem) : Option (Int32 × zMem) := some ((-1 : Int32), S)
def X8_letter_b0 (x1 : Int32) (x2 : Int32) (S : zMem) : Option (Int32 × zMem) := zb (f_X8_isLetter x1 S) fun v1 S => if v1 = 0 then (X8_letter_b16  S) else (zb (f_X8_within x2 (4 : Int32) S) fun v2 S => if v2 = 0 then (X8_letter_b16  S) else (zb (f_X8_ofLetter x1 x2 S) fun v3 S => zb (f_X8_tell v3 S) fun v4 S => some (v4, S)))
def f_X8_letter (x1 : Int32) (x2 : Int32) (S : zMem) : Option (Int32 × zMem) := X8_letter_b0 x1 x2 S
def X1_isOf_b39 (S : zMem) : Option (Int32 × zMem) := zc (zbo (0 : Int32)) (some ((0 : Int32), S))
def X1_isOf_b4 (k4 : Int32 → Int32 → Int32 → zMem → Option (Int32 × zMem)) (x1 : Int32) (x2 : Int32) (x3 : Int32) (S : zMem) : Option (Int32 × zMem) := if (6 : Int32) ≤ x3 then (X1_isOf_b39  S) else (if x2 < 0 then (X1_isOf_b39  S) else (if (6 : Int32) ≤ x2 then (X1_isOf_b39  S) else (if x2 = x1 then (zc (zbo (1 : Int32)) (some ((1 : Int32), S))) else (zc (zi x2 6) (zl (zpar (Int32.toNatClampNeg x2)) fun v1 => zl (x3 + (1 : Int32)) fun v2 => k4 x1 v1 v2 S)))))
def X1_isOf_l4 : Nat → Int32 → Int32 → Int32 → zMem → Option (Int32 × zMem)
  | 0, _, _, _, _ => none
  | n + 1, x1, x2, x3, S => X1_isOf_b4 (X1_isOf_l4 n) x1 x2 x3 S
def X1_isOf_b0 (x0 : Int32) (x1 : Int32) (S : zMem) : Option (Int32 × zMem) := X1_isOf_l4 zF x1 x0 (0 : Int32) S
def f_X1_isOf (x0 : Int32) (x1 : Int32) (S : zMem) : Option (Int32 × zMem) := X1_isOf_b0 x0 x1 S
def X1_markOf_b0 (x0 : Int32) (x1 : Int32) (x2 : Int32) (S : zMem) : Option (Int32 × zMem) := if x0 = (1 : Int32) then (zl (x2 - x1) fun v1 => zl (if 0 ≤ v1 then v1 else 0 - v1) fun v2 => some (v2, S)) else (if x0 = (2 : Int32) then (zb (f_X1_warmth (2 : Int32) x1 x2 S) fun v4 S => zb (f_X1_warmth (0 : Int32) x1 x2 S) fun v5 S => zl (v4 - v5) fun v6 => some (v6, S)) else (if x0 = (3 : Int32) then (zl ((9 : Int32) - x1) fun v8 => some (v8, S)) else (if x0 = (4 : Int32) then (zb (f_X1_warmth (4 : Int32) x1 x2 S) fun v10 S => zl (v10 - x1) fun v11 => some (v11, S)) else (zl ((9 : Int32) - x2) fun v13 => zb (f_X1_warmth (5 : Int32) x1 v13 S) fun v14 S => some (v14, S)))))
def f_X1_markOf (x0 : Int32) (x1 : Int32) (x2 : Int32) (S : zMem) : Option (Int32 × zMem) := X1_markOf_b0 x0 x1 x2 S
def X8_mark_b18 (S : zMem) : Option (Int32 × zMem) := some ((-1 : Int32), S)
def X8_mark_b0 (x1 : Int32) (x2 : Int32) (S : zMem) : Option (Int32 × zMem) := zb (f_X8_isLetter x1 S) fun v1 S => if v1 = 0 then (X8_mark_b18  S) else (if x2 ≤ 0 then (X8_mark_b18  S) else (if x2 < (6 : Int32) then (zc (zi x1 6) (zl (S.1 (26) (Int32.toNatClampNeg x1)) fun v2 => zb (f_X1_isOf v2 x2 S) fun v3 S => if v3 = 0 then (zb (f_X8_refuse (3 : Int32) S) fun v7 S => some (v7, S)) else (zc (zi x1 6) (zl (S.1 (28) (Int32.toNatClampNeg x1)) fun v4 => zl (S.1 (35) 8) fun v5 => zb (f_X1_markOf x2 v4 v5 S) fun v6 S => some (v6, S))))) else (X8_mark_b18  S)))
def f_X8_mark (x1 : Int32) (x2 : Int32) (S : zMem) : Option (Int32 × zMem) := X8_mark_b0 x1 x2 S
def X4_spareDeeds_b0 (c0 : Nat) (S : zMem) : Option (Int32 × zMem) := zl (S.1 (c0) 6) fun v1 => zl ((40 : Int32) - v1) fun v2 => some (v2, S)
def f_X4_spareDeeds (c0 : Nat) (S : zMem) : Option (Int32 × zMem) := X4_spareDeeds_b0 c0 S
def X6_bondBehind_b0 (x0 : Int32) (x1 : Int32) (S : zMem) : Option (Int32 × zMem) := zl (x0 + x1) fun v1 => zl (v1 - (5 : Int32)) fun v2 => zl (if v2 < (20 : Int32) then v2 else (20 : Int32)) fun v3 => zl (if (0 : Int32) < v3 then v3 else (0 : Int32)) fun v4 => some (v4, S)
def f_X6_bondBehind (x0 : Int32) (x1 : Int32) (S : zMem) : Option (Int32 × zMem) := X6_bondBehind_b0 x0 x1 S
def X1_turnBy_b27 (s0 : Int32) (S : zMem) : Option (Int32 × zMem) := some (s0, S)
def X1_turnBy_b0 (x0 : Int32) (x1 : Int32) (S : zMem) : Option (Int32 × zMem) := if x0 = (5 : Int32) then (some ((0 : Int32), S)) else (if x1 < (6 : Int32) then (if (3 : Int32) < x1 then (X1_turnBy_b27 (0 : Int32) S) else (X1_turnBy_b27 (-1 : Int32) S)) else (X1_turnBy_b27 (1 : Int32) S))
def f_X1_turnBy (x0 : Int32) (x1 : Int32) (S : zMem) : Option (Int32 × zMem) := X1_turnBy_b0 x0 x1 S
def X6_moodBehind_b0 (x1 : Int32) (x2 : Int32) (x3 : Int32) (S : zMem) : Option (Int32 × zMem) := zc (zi x1 6) (zl (S.1 (26) (Int32.toNatClampNeg x1)) fun v1 => zb (f_X1_turnBy v1 x3 S) fun v2 S => zl (x2 + v2) fun v3 => zb (f_X6_moodWithin v3 S) fun v4 S => some (v4, S))
def f_X6_moodBehind (x1 : Int32) (x2 : Int32) (x3 : Int32) (S : zMem) : Option (Int32 × zMem) := X6_moodBehind_b0 x1 x2 x3 S
def X4_deliver_b9 (c0 : Nat) (x1 : Int32) (S : zMem) : Option (Unit × zMem) := zc (zi x1 6) (zl (S.1 (27) (Int32.toNatClampNeg x1)) fun v1 => zl (S.1 (c0) 8) fun v2 => zl (S.1 (c0) 10) fun v3 => zl (S.1 (c0) 9) fun v4 => zb (f_X6_moodAtDoor x1 v2 v3 v4 S) fun v5 S => zl (zp S (c0) (upd (S.1 (c0)) 8 v5)) fun S => zl (S.1 (c0) 8) fun v6 => zb (f_X6_warmth x1 v6 S) fun v7 S => zl (zp S (c0) (upd (S.1 (c0)) 10 v1)) fun S => zl (S.1 (c0) 11) fun v8 => zl ((1 : Int32) <<< (x1 &&& 31)) fun v9 => zl (v8 ||| v9) fun v10 => zl (zp S (c0) (upd (S.1 (c0)) 11 v10)) fun S => zc (zi x1 6) (zl (zp S (c0 + 2) (upd (S.1 (c0 + 2)) (Int32.toNatClampNeg x1) v7)) fun S => zc (zi v1 6) (zl (S.1 (c0 + 1) (Int32.toNatClampNeg v1)) fun v11 => zb (f_X6_bondBehind v11 v7 S) fun v12 S => zc (zi v1 6) (zl (zp S (c0 + 1) (upd (S.1 (c0 + 1)) (Int32.toNatClampNeg v1) v12)) fun S => zl (S.1 (c0) 8) fun v13 => zb (f_X6_moodBehind x1 v13 v7 S) fun v14 S => zl (zp S (c0) (upd (S.1 (c0)) 8 v14)) fun S => some ((), S)))))
def X4_deliver_b0 (c0 : Nat) (x1 : Int32) (S : zMem) : Option (Unit × zMem) := zb (f_X4_wasCarried c0 x1 S) fun v1 S => if v1 = 0 then (X4_deliver_b9 c0 x1 S) else (some ((), S))
def f_X4_deliver (c0 : Nat) (x1 : Int32) (S : zMem) : Option (Unit × zMem) := X4_deliver_b0 c0 x1 S
def X4_beginDay_b0 (c0 : Nat) (S : zMem) : Option (Unit × zMem) := zl (zp S (c0) (upd (S.1 (c0)) 10 (0 : Int32))) fun S => zl (zp S (c0) (upd (S.1 (c0)) 11 (0 : Int32))) fun S => some ((), S)
def f_X4_beginDay (c0 : Nat) (S : zMem) : Option (Unit × zMem) := X4_beginDay_b0 c0 S
def X4_perform_b114 (S : zMem) : Option (Unit × zMem) := some ((), S)
def X4_perform_b0 (c0 : Nat) (x1 : Int32) (x2 : Int32) (S : zMem) : Option (Unit × zMem) := zb (f_X4_spareDeeds c0 S) fun v1 S => if (1 : Int32) ≤ v1 then (zl (S.1 (c0) 6) fun v2 => zc (zi v2 40) (zl (zp S (c0 + 3) (upd (S.1 (c0 + 3)) (Int32.toNatClampNeg v2) x1)) fun S => zl (S.1 (c0) 6) fun v3 => zc (zi v3 40) (zl (zp S (c0 + 4) (upd (S.1 (c0 + 4)) (Int32.toNatClampNeg v3) x2)) fun S => zl (S.1 (c0) 6) fun v4 => zl (v4 + (1 : Int32)) fun v5 => zl (zp S (c0) (upd (S.1 (c0)) 6 v5)) fun S => if x1 = (0 : Int32) then (zb (f_X4_deliver c0 x2 S) fun v6 S => X4_perform_b114  S) else (if x1 = (1 : Int32) then (zl (S.1 (c0) 8) fun v8 => zl (v8 + x2) fun v9 => zb (f_X6_moodWithin v9 S) fun v10 S => zl (zp S (c0) (upd (S.1 (c0)) 8 v10)) fun S => X4_perform_b114  S) else (if x1 = (2 : Int32) then (zl (zp S (c0) (upd (S.1 (c0)) 9 x2)) fun S => X4_perform_b114  S) else (zl (S.1 (c0) 7) fun v13 => zl (v13 + (1 : Int32)) fun v14 => zl (zp S (c0) (upd (S.1 (c0)) 7 v14)) fun S => zb (f_X4_beginDay c0 S) fun v15 S => X4_perform_b114  S)))))) else (some ((), S))
def f_X4_perform (c0 : Nat) (x1 : Int32) (x2 : Int32) (S : zMem) : Option (Unit × zMem) := X4_perform_b0 c0 x1 x2 S
def X8_carry_b0 (x1 : Int32) (S : zMem) : Option (Int32 × zMem) := zb (f_X8_isLetter x1 S) fun v1 S => if v1 = 0 then (some ((-1 : Int32), S)) else (zb (f_X4_wasCarried 35 x1 S) fun v2 S => if v2 = 0 then (zb (f_X4_spareDeeds 35 S) fun v3 S => if (1 : Int32) ≤ v3 then (zb (f_X4_perform 35 (0 : Int32) x1 S) fun v4 S => zc (zi x1 6) (zl (S.1 (37) (Int32.toNatClampNeg x1)) fun v5 => some (v5, S))) else (some ((-2 : Int32), S))) else (some ((-4 : Int32), S)))
def f_X8_carry (x1 : Int32) (S : zMem) : Option (Int32 × zMem) := X8_carry_b0 x1 S
def X8_isPosted_b15 (s0 : Int32) (S : zMem) : Option (Int32 × zMem) := zc (zbo s0) (some (s0, S))
def X8_isPosted_b0 (S : zMem) : Option (Int32 × zMem) := zl (S.1 (24) 5) fun v1 => if v1 ≤ 0 then (X8_isPosted_b15 (0 : Int32) S) else (X8_isPosted_b15 (1 : Int32) S)
def f_X8_isPosted (S : zMem) : Option (Int32 × zMem) := X8_isPosted_b0  S
def X8_bribe_b11 (S : zMem) : Option (Int32 × zMem) := some ((-1 : Int32), S)
def X8_bribe_b32 (S : zMem) : Option (Int32 × zMem) := some ((-4 : Int32), S)
def X8_bribe_b0 (x1 : Int32) (S : zMem) : Option (Int32 × zMem) := if x1 < (1 : Int32) then (X8_bribe_b11  S) else (if x1 ≤ (9 : Int32) then (zb (f_X8_isPosted  S) fun v1 S => if v1 = 0 then (X8_bribe_b32  S) else (zl (S.1 (35) 8) fun v2 => if v2 = (9 : Int32) then (X8_bribe_b32  S) else (zb (f_X4_spareDeeds 35 S) fun v3 S => if (1 : Int32) ≤ v3 then (zb (f_X4_perform 35 (1 : Int32) x1 S) fun v4 S => zl (S.1 (35) 8) fun v5 => some (v5, S)) else (some ((-2 : Int32), S))))) else (X8_bribe_b11  S))
def f_X8_bribe (x1 : Int32) (S : zMem) : Option (Int32 × zMem) := X8_bribe_b0 x1 S
def X8_weather_b28 (S : zMem) : Option (Int32 × zMem) := some ((-4 : Int32), S)
def X8_weather_b0 (x1 : Int32) (S : zMem) : Option (Int32 × zMem) := zb (f_X8_within x1 (2 : Int32) S) fun v1 S => if v1 = 0 then (some ((-1 : Int32), S)) else (zb (f_X8_isPosted  S) fun v2 S => if v2 = 0 then (X8_weather_b28  S) else (zl (S.1 (35) 9) fun v3 => if v3 = x1 then (X8_weather_b28  S) else (zb (f_X4_spareDeeds 35 S) fun v4 S => if (1 : Int32) ≤ v4 then (zl (S.1 (35) 9) fun v5 => zb (f_X4_perform 35 (2 : Int32) x1 S) fun v6 S => some (v5, S)) else (some ((-2 : Int32), S)))))
def f_X8_weather (x1 : Int32) (S : zMem) : Option (Int32 × zMem) := X8_weather_b0 x1 S
def J6_bitCount_0f7a4_b0 (x0 : Int32) (S : zMem) : Option (Int32 × zMem) := zl ((x0.toUInt32 >>> ((1 : Int32).toUInt32 &&& Int32.toUInt32 31)).toInt32) fun v1 => zl (v1 &&& (1431655765 : Int32)) fun v2 => zl (x0 - v2) fun v3 => zl (v3 &&& (858993459 : Int32)) fun v4 => zl ((v3.toUInt32 >>> ((2 : Int32).toUInt32 &&& Int32.toUInt32 31)).toInt32) fun v5 => zl (v5 &&& (858993459 : Int32)) fun v6 => zl (v4 + v6) fun v7 => zl ((v7.toUInt32 >>> ((4 : Int32).toUInt32 &&& Int32.toUInt32 31)).toInt32) fun v8 => zl (v7 + v8) fun v9 => zl (v9 &&& (252645135 : Int32)) fun v10 => zl ((v10.toUInt32 >>> ((8 : Int32).toUInt32 &&& Int32.toUInt32 31)).toInt32) fun v11 => zl (v10 + v11) fun v12 => zl ((v12.toUInt32 >>> ((16 : Int32).toUInt32 &&& Int32.toUInt32 31)).toInt32) fun v13 => zl (v12 + v13) fun v14 => zl (v14 &&& (63 : Int32)) fun v15 => some (v15, S)
def f_J6_bitCount_0f7a4 (x0 : Int32) (S : zMem) : Option (Int32 × zMem) := J6_bitCount_0f7a4_b0 x0 S
def X8_day_b0 (S : zMem) : Option (Int32 × zMem) := zb (f_X8_isPosted  S) fun v1 S => if v1 = 0 then (some ((-4 : Int32), S)) else (zb (f_X4_spareDeeds 35 S) fun v2 S => if (1 : Int32) ≤ v2 then (zl (S.1 (35) 11) fun v3 => zb (f_J6_bitCount_0f7a4 v3 S) fun v4 S => zb (f_X4_perform 35 (3 : Int32) (0 : Int32) S) fun v5 S => some (v4, S)) else (some ((-2 : Int32), S)))
def f_X8_day (S : zMem) : Option (Int32 × zMem) := X8_day_b0  S
def X4_goBackTo_b12 (S : zMem) : Option (Unit × zMem) := some ((), S)
def X4_goBackTo_b19 (k19 : Nat → Int32 → Int32 → zMem → Option (Unit × zMem)) (c0 : Nat) (x1 : Int32) (x2 : Int32) (S : zMem) : Option (Unit × zMem) := if x1 ≤ x2 then (some ((), S)) else (zc (zi x2 40) (zl (S.1 (c0 + 3) (Int32.toNatClampNeg x2)) fun v1 => zc (zi x2 40) (zl (S.1 (c0 + 4) (Int32.toNatClampNeg x2)) fun v2 => zb (f_X4_perform c0 v1 v2 S) fun v3 S => zl (x2 + (1 : Int32)) fun v4 => k19 c0 x1 v4 S)))
def X4_goBackTo_l19 : Nat → Nat → Int32 → Int32 → zMem → Option (Unit × zMem)
  | 0, _, _, _, _ => none
  | n + 1, c0, x1, x2, S => X4_goBackTo_b19 (X4_goBackTo_l19 n) c0 x1 x2 S
def X4_goBackTo_b0 (c0 : Nat) (x1 : Int32) (S : zMem) : Option (Unit × zMem) := if x1 < 0 then (X4_goBackTo_b12  S) else (zl (S.1 (c0) 6) fun v1 => if x1 < v1 then (zb (f_X4_begin c0 S) fun v2 S => X4_goBackTo_l19 zF c0 x1 (0 : Int32) S) else (X4_goBackTo_b12  S))
def f_X4_goBackTo (c0 : Nat) (x1 : Int32) (S : zMem) : Option (Unit × zMem) := X4_goBackTo_b0 c0 x1 S
def X8_undo_b0 (x1 : Int32) (S : zMem) : Option (Int32 × zMem) := zl (S.1 (35) 6) fun v1 => zb (f_X8_within x1 v1 S) fun v2 S => if v2 = 0 then (some ((-1 : Int32), S)) else (zl (S.1 (35) 6) fun v3 => zl (v3 - x1) fun v4 => zb (f_X4_goBackTo 35 x1 S) fun v5 S => some (v4, S))
def f_X8_undo (x1 : Int32) (S : zMem) : Option (Int32 × zMem) := X8_undo_b0 x1 S
def X8_isPlace_b0 (x0 : Int32) (S : zMem) : Option (Int32 × zMem) := zb (f_X8_within x0 (2 : Int32) S) fun v1 S => zc (zbo v1) (some (v1, S))
def f_X8_isPlace (x0 : Int32) (S : zMem) : Option (Int32 × zMem) := X8_isPlace_b0 x0 S
def X4_become_b0 (c0 : Nat) (c1 : Nat) (S : zMem) : Option (Unit × zMem) := zl (S.1 (c1) 5) fun v1 => zc (zbo v1) (zl (zp S (c0) (upd (S.1 (c0)) 5 v1)) fun S => zl (S.1 (c1) 6) fun v2 => zl (zp S (c0) (upd (S.1 (c0)) 6 v2)) fun S => zl (S.1 (c1) 7) fun v3 => zl (zp S (c0) (upd (S.1 (c0)) 7 v3)) fun S => zl (S.1 (c1) 8) fun v4 => zl (zp S (c0) (upd (S.1 (c0)) 8 v4)) fun S => zl (S.1 (c1) 9) fun v5 => zl (zp S (c0) (upd (S.1 (c0)) 9 v5)) fun S => zl (S.1 (c1) 10) fun v6 => zl (zp S (c0) (upd (S.1 (c0)) 10 v6)) fun S => zl (S.1 (c1) 11) fun v7 => zl (zp S (c0) (upd (S.1 (c0)) 11 v7)) fun S => zc (zcp (0 : Int32) (0 : Int32) (6 : Int32) 6 6) (zl (zp S (c0 + 1) (va_cpy (S.1 (c1 + 1)) (S.1 (c0 + 1)) (Int32.toNatClampNeg (0 : Int32)) (Int32.toNatClampNeg (0 : Int32)) (Int32.toNatClampNeg (6 : Int32)))) fun S => zc (zcp (0 : Int32) (0 : Int32) (6 : Int32) 6 6) (zl (zp S (c0 + 2) (va_cpy (S.1 (c1 + 2)) (S.1 (c0 + 2)) (Int32.toNatClampNeg (0 : Int32)) (Int32.toNatClampNeg (0 : Int32)) (Int32.toNatClampNeg (6 : Int32)))) fun S => zc (zcp (0 : Int32) (0 : Int32) (40 : Int32) 40 40) (zl (zp S (c0 + 3) (va_cpy (S.1 (c1 + 3)) (S.1 (c0 + 3)) (Int32.toNatClampNeg (0 : Int32)) (Int32.toNatClampNeg (0 : Int32)) (Int32.toNatClampNeg (40 : Int32)))) fun S => zc (zcp (0 : Int32) (0 : Int32) (40 : Int32) 40 40) (zl (zp S (c0 + 4) (va_cpy (S.1 (c1 + 4)) (S.1 (c0 + 4)) (Int32.toNatClampNeg (0 : Int32)) (Int32.toNatClampNeg (0 : Int32)) (Int32.toNatClampNeg (40 : Int32)))) fun S => some ((), S))))))
def f_X4_become (c0 : Nat) (c1 : Nat) (S : zMem) : Option (Unit × zMem) := X4_become_b0 c0 c1 S
def X8_keep_b0 (x1 : Int32) (S : zMem) : Option (Int32 × zMem) := zb (f_X8_isPlace x1 S) fun v1 S => if v1 = 0 then (some ((-1 : Int32), S)) else (zb (f_X8_isPosted  S) fun v2 S => if v2 = 0 then (some ((-4 : Int32), S)) else (zc (zi x1 3) (zb (f_X4_become (45 + 5 * Int32.toNatClampNeg x1) 35 S) fun v4 S => zl (S.1 (35) 6) fun v5 => some (v5, S))))
def f_X8_keep (x1 : Int32) (S : zMem) : Option (Int32 × zMem) := X8_keep_b0 x1 S
def X8_on_b0 (x1 : Int32) (S : zMem) : Option (Int32 × zMem) := zb (f_X8_isPlace x1 S) fun v1 S => if v1 = 0 then (some ((-1 : Int32), S)) else (zc (zi x1 3) (zl (S.1 (45 + 5 * Int32.toNatClampNeg x1) 5) fun v3 => if v3 = 0 then (zb (f_X8_refuse (1 : Int32) S) fun v7 S => some (v7, S)) else (zc (zi x1 3) (zb (f_X4_become 35 (45 + 5 * Int32.toNatClampNeg x1) S) fun v5 S => zl (S.1 (35) 6) fun v6 => some (v6, S)))))
def f_X8_on (x1 : Int32) (S : zMem) : Option (Int32 × zMem) := X8_on_b0 x1 S
def X8_ends_b26 (S : zMem) : Option (Int32 × zMem) := some ((-1 : Int32), S)
def X8_ends_b0 (x1 : Int32) (x2 : Int32) (x3 : Int32) (S : zMem) : Option (Int32 × zMem) := zb (f_X8_isLetter x1 S) fun v1 S => if v1 = 0 then (X8_ends_b26  S) else (zb (f_X8_within x2 (9 : Int32) S) fun v2 S => if v2 = 0 then (X8_ends_b26  S) else (zb (f_X8_within x3 (9 : Int32) S) fun v3 S => if v3 = 0 then (X8_ends_b26  S) else (zc (zi x1 6) (zl (S.1 (26) (Int32.toNatClampNeg x1)) fun v4 => zb (f_X1_warmth v4 x2 x3 S) fun v5 S => some (v5, S)))))
def f_X8_ends (x1 : Int32) (x2 : Int32) (x3 : Int32) (S : zMem) : Option (Int32 × zMem) := X8_ends_b0 x1 x2 x3 S
def X8_bond_b0 (x1 : Int32) (S : zMem) : Option (Int32 × zMem) := zb (f_X8_isLetter x1 S) fun v1 S => if v1 = 0 then (some ((-1 : Int32), S)) else (zb (f_X8_arrivingWith x1 (0 : Int32) S) fun v2 S => zb (f_X6_warmth x1 v2 S) fun v3 S => zb (f_X6_moodBehind x1 v2 v3 S) fun v4 S => zb (f_X8_tell v4 S) fun v5 S => zc (zi x1 6) (zl (S.1 (27) (Int32.toNatClampNeg x1)) fun v6 => zc (zi v6 6) (zl (S.1 (36) (Int32.toNatClampNeg v6)) fun v7 => zb (f_X6_bondBehind v7 v3 S) fun v8 S => some (v8, S))))
def f_X8_bond (x1 : Int32) (S : zMem) : Option (Int32 × zMem) := X8_bond_b0 x1 S
def X8_least_b17 (S : zMem) : Option (Int32 × zMem) := some ((-1 : Int32), S)
def X8_least_b21 (k21 : Int32 → Int32 → Int32 → zMem → Option (Int32 × zMem)) (x1 : Int32) (x2 : Int32) (x3 : Int32) (S : zMem) : Option (Int32 × zMem) := if (9 : Int32) < x3 then (some ((-9 : Int32), S)) else (zb (f_X8_arrivingWith x1 x3 S) fun v1 S => zb (f_X6_warmth x1 v1 S) fun v2 S => if v2 < x2 then (zl (x3 + (1 : Int32)) fun v3 => k21 x1 x2 v3 S) else (some (x3, S)))
def X8_least_l21 : Nat → Int32 → Int32 → Int32 → zMem → Option (Int32 × zMem)
  | 0, _, _, _, _ => none
  | n + 1, x1, x2, x3, S => X8_least_b21 (X8_least_l21 n) x1 x2 x3 S
def X8_least_b0 (x1 : Int32) (x2 : Int32) (S : zMem) : Option (Int32 × zMem) := zb (f_X8_isLetter x1 S) fun v1 S => if v1 = 0 then (X8_least_b17  S) else (zb (f_X8_within x2 (9 : Int32) S) fun v2 S => if v2 = 0 then (X8_least_b17  S) else (X8_least_l21 zF x1 x2 (0 : Int32) S))
def f_X8_least (x1 : Int32) (x2 : Int32) (S : zMem) : Option (Int32 × zMem) := X8_least_b0 x1 x2 S
def X6_allLetters_b0 (S : zMem) : Option (Int32 × zMem) := zl (S.1 (24) 5) fun v1 => zl ((1 : Int32) <<< (v1 &&& 31)) fun v2 => zl (v2 - (1 : Int32)) fun v3 => some (v3, S)
def f_X6_allLetters (S : zMem) : Option (Int32 × zMem) := X6_allLetters_b0  S
def X3_tryWarmer_b40 (rec : Int32 → Int32 → Int32 → Int32 → Int32 → zMem → Option (Unit × zMem)) (S : zMem) : Option (Unit × zMem) := some ((), S)
def X3_tryWarmer_b10 (rec : Int32 → Int32 → Int32 → Int32 → Int32 → zMem → Option (Unit × zMem)) (x5 : Int32) (S : zMem) : Option (Unit × zMem) := zl (S.1 (60) 4) fun v1 => if x5 ≤ v1 then (X3_tryWarmer_b40 rec  S) else (zl (zp S (60) (upd (S.1 (60)) 4 x5)) fun S => zc (zcp (0 : Int32) (0 : Int32) (6 : Int32) 6 6) (zl (zp S (62) (va_cpy (S.1 (61)) (S.1 (62)) (Int32.toNatClampNeg (0 : Int32)) (Int32.toNatClampNeg (0 : Int32)) (Int32.toNatClampNeg (6 : Int32)))) fun S => X3_tryWarmer_b40 rec  S))
def X3_tryWarmer_b151 (rec : Int32 → Int32 → Int32 → Int32 → Int32 → zMem → Option (Unit × zMem)) (k44 : Int32 → Int32 → Int32 → Int32 → Int32 → Int32 → zMem → Option (Unit × zMem)) (x1 : Int32) (x2 : Int32) (x3 : Int32) (x4 : Int32) (x5 : Int32) (x6 : Int32) (S : zMem) : Option (Unit × zMem) := zl (x6 + (1 : Int32)) fun v1 => k44 x1 x2 x3 x4 x5 v1 S
def X3_tryWarmer_b44 (rec : Int32 → Int32 → Int32 → Int32 → Int32 → zMem → Option (Unit × zMem)) (k44 : Int32 → Int32 → Int32 → Int32 → Int32 → Int32 → zMem → Option (Unit × zMem)) (x1 : Int32) (x2 : Int32) (x3 : Int32) (x4 : Int32) (x5 : Int32) (x6 : Int32) (S : zMem) : Option (Unit × zMem) := zl (S.1 (24) 5) fun v1 => if v1 ≤ x6 then (some ((), S)) else (zl (x2 >>> (x6 &&& 31)) fun v2 => zl (v2 &&& (1 : Int32)) fun v3 => if v3 = 0 then (X3_tryWarmer_b151 rec k44 x1 x2 x3 x4 x5 x6 S) else (zc (zi x1 6) (zl (zp S (61) (upd (S.1 (61)) (Int32.toNatClampNeg x1) x6)) fun S => zl (S.1 (60) 3) fun v4 => zb (f_X6_moodAtDoor x6 x3 x4 v4 S) fun v5 S => zb (f_X6_warmth x6 v5 S) fun v6 S => zb (f_X6_moodBehind x6 v5 v6 S) fun v7 S => zl (x1 + (1 : Int32)) fun v8 => zl ((1 : Int32) <<< (x6 &&& 31)) fun v9 => zl (v9 ^^^ (-1 : Int32)) fun v10 => zl (x2 &&& v10) fun v11 => zc (zi x6 6) (zl (S.1 (27) (Int32.toNatClampNeg x6)) fun v12 => zl (x5 + v6) fun v13 => zb (rec v8 v11 v7 v12 v13 S) fun v14 S => X3_tryWarmer_b151 rec k44 x1 x2 x3 x4 x5 x6 S))))
def X3_tryWarmer_l44 (rec : Int32 → Int32 → Int32 → Int32 → Int32 → zMem → Option (Unit × zMem)) : Nat → Int32 → Int32 → Int32 → Int32 → Int32 → Int32 → zMem → Option (Unit × zMem)
  | 0, _, _, _, _, _, _, _ => none
  | n + 1, x1, x2, x3, x4, x5, x6, S => X3_tryWarmer_b44 rec (X3_tryWarmer_l44 rec n) x1 x2 x3 x4 x5 x6 S
def X3_tryWarmer_b0 (rec : Int32 → Int32 → Int32 → Int32 → Int32 → zMem → Option (Unit × zMem)) (x1 : Int32) (x2 : Int32) (x3 : Int32) (x4 : Int32) (x5 : Int32) (S : zMem) : Option (Unit × zMem) := if x2 = 0 then (X3_tryWarmer_b10 rec x5 S) else (if x1 < (6 : Int32) then (X3_tryWarmer_l44 rec zF x1 x2 x3 x4 x5 (0 : Int32) S) else (X3_tryWarmer_b10 rec x5 S))
def f_X3_tryWarmer : Nat → Int32 → Int32 → Int32 → Int32 → Int32 → zMem → Option (Unit × zMem)
  | 0, _, _, _, _, _, _ => none
  | d + 1, x1, x2, x3, x4, x5, S => X3_tryWarmer_b0 (f_X3_tryWarmer d) x1 x2 x3 x4 x5 S
def X3_warmest_b0 (x2 : Int32) (S : zMem) : Option (Int32 × zMem) := zl (S.1 (35) 9) fun v1 => zl (zp S (60) (upd (S.1 (60)) 3 v1)) fun S => zl (zp S (60) (upd (S.1 (60)) 4 (-9 : Int32))) fun S => zl (S.1 (35) 8) fun v2 => zl (S.1 (35) 10) fun v3 => zb (f_X3_tryWarmer 8 (0 : Int32) x2 v2 v3 (0 : Int32) S) fun v4 S => zl (S.1 (60) 4) fun v5 => some (v5, S)
def f_X3_warmest (x2 : Int32) (S : zMem) : Option (Int32 × zMem) := X3_warmest_b0 x2 S
def X7_lieAs_b19 (S : zMem) : Option (Unit × zMem) := some ((), S)
def X7_lieAs_b0 (c0 : Nat) (c1 : Nat) (x2 : Int32) (S : zMem) : Option (Unit × zMem) := if x2 < 0 then (X7_lieAs_b19  S) else (if (Int32.ofNat (lnC (c1))) < x2 then (X7_lieAs_b19  S) else (if x2 ≤ (Int32.ofNat (lnC (c0 + 1))) then (zl (zp S (c0) (upd (S.1 (c0)) 1 x2)) fun S => zc (zcp (0 : Int32) (0 : Int32) x2 (lnC (c1)) (lnC (c0 + 1))) (zl (zp S (c0 + 1) (va_cpy (S.1 (c1)) (S.1 (c0 + 1)) (Int32.toNatClampNeg (0 : Int32)) (Int32.toNatClampNeg (0 : Int32)) (Int32.toNatClampNeg x2))) fun S => some ((), S))) else (X7_lieAs_b19  S)))
def f_X7_lieAs (c0 : Nat) (c1 : Nat) (x2 : Int32) (S : zMem) : Option (Unit × zMem) := X7_lieAs_b0 c0 c1 x2 S
def X8_round_b21 (S : zMem) : Option (Int32 × zMem) := some ((-1 : Int32), S)
def X8_round_b0 (x1 : Int32) (x2 : Int32) (S : zMem) : Option (Int32 × zMem) := zb (f_X8_isRow x2 S) fun v1 S => if v1 = 0 then (X8_round_b21  S) else (zb (f_X6_allLetters  S) fun v2 S => zl (v2 ^^^ (-1 : Int32)) fun v3 => zl (x1 &&& v3) fun v4 => if v4 = 0 then (zl (S.1 (35) 11) fun v5 => zl (x1 &&& v5) fun v6 => if v6 = 0 then (zb (f_X3_warmest x1 S) fun v7 S => zc (zi x2 6) (zb (f_J6_bitCount_0f7a4 x1 S) fun v9 S => zb (f_X7_lieAs (4 + 2 * Int32.toNatClampNeg x2) 62 v9 S) fun v10 S => some (v7, S))) else (some ((-4 : Int32), S))) else (X8_round_b21  S))
def f_X8_round (x1 : Int32) (x2 : Int32) (S : zMem) : Option (Int32 × zMem) := X8_round_b0 x1 x2 S
def X3_reaches_b25 (rec : Int32 → Int32 → Int32 → Int32 → Int32 → Int32 → zMem → Option (Int32 × zMem)) (s0 : Int32) (S : zMem) : Option (Int32 × zMem) := zc (zbo s0) (some (s0, S))
def X3_reaches_b11 (rec : Int32 → Int32 → Int32 → Int32 → Int32 → Int32 → zMem → Option (Int32 × zMem)) (x6 : Int32) (S : zMem) : Option (Int32 × zMem) := zl (S.1 (60) 6) fun v1 => if x6 < v1 then (X3_reaches_b25 rec (0 : Int32) S) else (X3_reaches_b25 rec (1 : Int32) S)
def X3_reaches_b167 (rec : Int32 → Int32 → Int32 → Int32 → Int32 → Int32 → zMem → Option (Int32 × zMem)) (k29 : Int32 → Int32 → Int32 → Int32 → Int32 → Int32 → Int32 → zMem → Option (Int32 × zMem)) (x1 : Int32) (x2 : Int32) (x3 : Int32) (x4 : Int32) (x5 : Int32) (x6 : Int32) (x7 : Int32) (S : zMem) : Option (Int32 × zMem) := zl (x7 + (1 : Int32)) fun v1 => k29 x1 x2 x3 x4 x5 x6 v1 S
def X3_reaches_b138 (rec : Int32 → Int32 → Int32 → Int32 → Int32 → Int32 → zMem → Option (Int32 × zMem)) (k29 : Int32 → Int32 → Int32 → Int32 → Int32 → Int32 → Int32 → zMem → Option (Int32 × zMem)) (x1 : Int32) (x2 : Int32) (x3 : Int32) (x4 : Int32) (x5 : Int32) (x6 : Int32) (x7 : Int32) (x8 : Int32) (x11 : Int32) (s0 : Int32) (S : zMem) : Option (Int32 × zMem) := zl (x1 + (1 : Int32)) fun v1 => zl ((1 : Int32) <<< (x7 &&& 31)) fun v2 => zl (v2 ^^^ (-1 : Int32)) fun v3 => zl (x3 &&& v3) fun v4 => zb (rec v1 x2 v4 x11 x8 s0 S) fun v5 S => if v5 = 0 then (X3_reaches_b167 rec k29 x1 x2 x3 x4 x5 x6 x7 S) else (zc (zbo (1 : Int32)) (some ((1 : Int32), S)))
def X3_reaches_b29 (rec : Int32 → Int32 → Int32 → Int32 → Int32 → Int32 → zMem → Option (Int32 × zMem)) (k29 : Int32 → Int32 → Int32 → Int32 → Int32 → Int32 → Int32 → zMem → Option (Int32 × zMem)) (x1 : Int32) (x2 : Int32) (x3 : Int32) (x4 : Int32) (x5 : Int32) (x6 : Int32) (x7 : Int32) (S : zMem) : Option (Int32 × zMem) := zl (S.1 (24) 5) fun v1 => if v1 ≤ x7 then (zc (zbo (0 : Int32)) (some ((0 : Int32), S))) else (zl (x3 >>> (x7 &&& 31)) fun v2 => zl (v2 &&& (1 : Int32)) fun v3 => if v3 = 0 then (X3_reaches_b167 rec k29 x1 x2 x3 x4 x5 x6 x7 S) else (zc (zi x1 6) (zl (zp S (61) (upd (S.1 (61)) (Int32.toNatClampNeg x1) x7)) fun S => zc (zi x7 6) (zl (S.1 (27) (Int32.toNatClampNeg x7)) fun v4 => zl (S.1 (60) 3) fun v5 => zb (f_X6_moodAtDoor x7 x4 x5 v5 S) fun v6 S => zb (f_X6_warmth x7 v6 S) fun v7 S => zb (f_X6_moodBehind x7 v6 v7 S) fun v8 S => zl (S.1 (60) 5) fun v9 => if v4 = v9 then (zb (f_X6_bondBehind x6 v7 S) fun v10 S => X3_reaches_b138 rec k29 x1 x2 x3 x4 x5 x6 x7 v4 v8 v10 S) else (X3_reaches_b138 rec k29 x1 x2 x3 x4 x5 x6 x7 v4 v8 x6 S)))))
def X3_reaches_l29 (rec : Int32 → Int32 → Int32 → Int32 → Int32 → Int32 → zMem → Option (Int32 × zMem)) : Nat → Int32 → Int32 → Int32 → Int32 → Int32 → Int32 → Int32 → zMem → Option (Int32 × zMem)
  | 0, _, _, _, _, _, _, _, _ => none
  | n + 1, x1, x2, x3, x4, x5, x6, x7, S => X3_reaches_b29 rec (X3_reaches_l29 rec n) x1 x2 x3 x4 x5 x6 x7 S
def X3_reaches_b0 (rec : Int32 → Int32 → Int32 → Int32 → Int32 → Int32 → zMem → Option (Int32 × zMem)) (x1 : Int32) (x2 : Int32) (x3 : Int32) (x4 : Int32) (x5 : Int32) (x6 : Int32) (S : zMem) : Option (Int32 × zMem) := if x2 ≤ x1 then (X3_reaches_b11 rec x6 S) else (if x1 < (6 : Int32) then (X3_reaches_l29 rec zF x1 x2 x3 x4 x5 x6 (0 : Int32) S) else (X3_reaches_b11 rec x6 S))
def f_X3_reaches : Nat → Int32 → Int32 → Int32 → Int32 → Int32 → Int32 → zMem → Option (Int32 × zMem)
  | 0, _, _, _, _, _, _, _ => none
  | d + 1, x1, x2, x3, x4, x5, x6, S => X3_reaches_b0 (f_X3_reaches d) x1 x2 x3 x4 x5 x6 S
def X3_fewest_b44 (k44 : Int32 → Int32 → Int32 → Int32 → zMem → Option (Int32 × zMem)) (x2 : Int32) (x4 : Int32) (x5 : Int32) (x6 : Int32) (S : zMem) : Option (Int32 × zMem) := if x5 < x6 then (some ((-9 : Int32), S)) else (zl (S.1 (35) 8) fun v1 => zl (S.1 (35) 10) fun v2 => zc (zi x2 6) (zl (S.1 (36) (Int32.toNatClampNeg x2)) fun v3 => zb (f_X3_reaches 8 (0 : Int32) x6 x4 v1 v2 v3 S) fun v4 S => if v4 = 0 then (zl (x6 + (1 : Int32)) fun v5 => k44 x2 x4 x5 v5 S) else (some (x6, S))))
def X3_fewest_l44 : Nat → Int32 → Int32 → Int32 → Int32 → zMem → Option (Int32 × zMem)
  | 0, _, _, _, _, _ => none
  | n + 1, x2, x4, x5, x6, S => X3_fewest_b44 (X3_fewest_l44 n) x2 x4 x5 x6 S
def X3_fewest_b0 (x2 : Int32) (x3 : Int32) (S : zMem) : Option (Int32 × zMem) := zl (S.1 (35) 9) fun v1 => zl (zp S (60) (upd (S.1 (60)) 3 v1)) fun S => zl (zp S (60) (upd (S.1 (60)) 5 x2)) fun S => zl (zp S (60) (upd (S.1 (60)) 6 x3)) fun S => zb (f_X6_allLetters  S) fun v2 S => zl (S.1 (35) 11) fun v3 => zl (v3 ^^^ (-1 : Int32)) fun v4 => zl (v2 &&& v4) fun v5 => zb (f_J6_bitCount_0f7a4 v5 S) fun v6 S => X3_fewest_l44 zF x2 v5 v6 (0 : Int32) S
def f_X3_fewest (x2 : Int32) (x3 : Int32) (S : zMem) : Option (Int32 × zMem) := X3_fewest_b0 x2 x3 S
def X8_plan_b24 (S : zMem) : Option (Int32 × zMem) := some ((-1 : Int32), S)
def X8_plan_b66 (x4 : Int32) (S : zMem) : Option (Int32 × zMem) := some (x4, S)
def X8_plan_b0 (x1 : Int32) (x2 : Int32) (x3 : Int32) (S : zMem) : Option (Int32 × zMem) := zb (f_X8_isHouse x1 S) fun v1 S => if v1 = 0 then (X8_plan_b24  S) else (zb (f_X8_within x2 (20 : Int32) S) fun v2 S => if v2 = 0 then (X8_plan_b24  S) else (zb (f_X8_isRow x3 S) fun v3 S => if v3 = 0 then (X8_plan_b24  S) else (zb (f_X3_fewest x1 x2 S) fun v4 S => if v4 = (-9 : Int32) then (X8_plan_b66 v4 S) else (zc (zi x3 6) (zb (f_X7_lieAs (4 + 2 * Int32.toNatClampNeg x3) 61 v4 S) fun v6 S => X8_plan_b66 v4 S)))))
def f_X8_plan (x1 : Int32) (x2 : Int32) (x3 : Int32) (S : zMem) : Option (Int32 × zMem) := X8_plan_b0 x1 x2 x3 S
def X8_wrongLetters_b61 (S : zMem) : Option (Int32 × zMem) := some ((3 : Int32), S)
def X8_wrongLetters_b25 (k25 : Nat → Int32 → Int32 → zMem → Option (Int32 × zMem)) (c1 : Nat) (x3 : Int32) (x4 : Int32) (S : zMem) : Option (Int32 × zMem) := zl (S.1 (c1) 1) fun v1 => if v1 ≤ x4 then (some ((0 : Int32), S)) else (zc (zi x4 (lnC (c1 + 1))) (zl (S.1 (c1 + 1) (Int32.toNatClampNeg x4)) fun v2 => zb (f_X8_isLetter v2 S) fun v3 S => if v3 = 0 then (X8_wrongLetters_b61  S) else (zl (x3 >>> (v2 &&& 31)) fun v4 => zl (v4 &&& (1 : Int32)) fun v5 => if v5 = 0 then (zl ((1 : Int32) <<< (v2 &&& 31)) fun v6 => zl (x3 ||| v6) fun v7 => zl (x4 + (1 : Int32)) fun v8 => k25 c1 v7 v8 S) else (X8_wrongLetters_b61  S))))
def X8_wrongLetters_l25 : Nat → Nat → Int32 → Int32 → zMem → Option (Int32 × zMem)
  | 0, _, _, _, _ => none
  | n + 1, c1, x3, x4, S => X8_wrongLetters_b25 (X8_wrongLetters_l25 n) c1 x3 x4 S
def X8_wrongLetters_b0 (c1 : Nat) (x2 : Int32) (S : zMem) : Option (Int32 × zMem) := zb (f_X7_isThere c1 S) fun v1 S => if v1 = 0 then (some ((1 : Int32), S)) else (zl (S.1 (c1) 1) fun v2 => if v2 ≤ (6 : Int32) then (X8_wrongLetters_l25 zF c1 x2 (0 : Int32) S) else (some ((5 : Int32), S)))
def f_X8_wrongLetters (c1 : Nat) (x2 : Int32) (S : zMem) : Option (Int32 × zMem) := X8_wrongLetters_b0 c1 x2 S
def X8_rest_b24 (S : zMem) : Option (Int32 × zMem) := some ((-1 : Int32), S)
def X8_rest_b85 (k69 : Int32 → Int32 → Nat → Int32 → zMem → Option (Int32 × zMem)) (k85 : Int32 → Int32 → Nat → Int32 → Int32 → zMem → Option (Int32 × zMem)) (x1 : Int32) (x2 : Int32) (c4 : Nat) (x6 : Int32) (x7 : Int32) (S : zMem) : Option (Int32 × zMem) := zl (S.1 (c4) 1) fun v1 => if v1 ≤ x7 then (zl (x6 + (1 : Int32)) fun v2 => k69 x1 x2 c4 v2 S) else (zc (zi x7 (lnC (c4 + 1))) (zl (S.1 (c4 + 1) (Int32.toNatClampNeg x7)) fun v3 => zb (f_X4_deliver 40 v3 S) fun v4 S => zl (x7 + (1 : Int32)) fun v5 => k85 x1 x2 c4 x6 v5 S))
def X8_rest_l85 (k69 : Int32 → Int32 → Nat → Int32 → zMem → Option (Int32 × zMem)) : Nat → Int32 → Int32 → Nat → Int32 → Int32 → zMem → Option (Int32 × zMem)
  | 0, _, _, _, _, _, _ => none
  | n + 1, x1, x2, c4, x6, x7, S => X8_rest_b85 k69 (X8_rest_l85 k69 n) x1 x2 c4 x6 x7 S
def X8_rest_b69 (k69 : Int32 → Int32 → Nat → Int32 → zMem → Option (Int32 × zMem)) (x1 : Int32) (x2 : Int32) (c4 : Nat) (x6 : Int32) (S : zMem) : Option (Int32 × zMem) := if x2 ≤ x6 then (zc (zi x1 6) (zl (S.1 (41) (Int32.toNatClampNeg x1)) fun v1 => some (v1, S))) else (zb (f_X4_beginDay 40 S) fun v2 S => X8_rest_l85 k69 zF x1 x2 c4 x6 (0 : Int32) S)
def X8_rest_l69 : Nat → Int32 → Int32 → Nat → Int32 → zMem → Option (Int32 × zMem)
  | 0, _, _, _, _, _ => none
  | n + 1, x1, x2, c4, x6, S => X8_rest_b69 (X8_rest_l69 n) x1 x2 c4 x6 S
def X8_rest_b0 (x1 : Int32) (x2 : Int32) (x3 : Int32) (S : zMem) : Option (Int32 × zMem) := zb (f_X8_isHouse x1 S) fun v1 S => if v1 = 0 then (X8_rest_b24  S) else (zb (f_X8_within x2 (20 : Int32) S) fun v2 S => if v2 = 0 then (X8_rest_b24  S) else (zb (f_X8_isRow x3 S) fun v3 S => if v3 = 0 then (X8_rest_b24  S) else (zc (zi x3 6) (zb (f_X8_wrongLetters (4 + 2 * Int32.toNatClampNeg x3) (0 : Int32) S) fun v5 S => if v5 = 0 then (zb (f_X4_become 40 35 S) fun v6 S => X8_rest_l69 zF x1 x2 (4 + 2 * Int32.toNatClampNeg x3) (0 : Int32) S) else (zb (f_X8_refuse v5 S) fun v7 S => some (v7, S))))))
def f_X8_rest (x1 : Int32) (x2 : Int32) (x3 : Int32) (S : zMem) : Option (Int32 × zMem) := X8_rest_b0 x1 x2 x3 S
def X8_wrongPairs_b27 (S : zMem) : Option (Int32 × zMem) := some ((5 : Int32), S)
def X8_wrongPairs_b31 (k31 : Nat → Int32 → zMem → Option (Int32 × zMem)) (c0 : Nat) (x1 : Int32) (S : zMem) : Option (Int32 × zMem) := zl (S.1 (c0) 1) fun v1 => if v1 ≤ x1 then (some ((0 : Int32), S)) else (zc (zi x1 (lnC (c0 + 1))) (zl (S.1 (c0 + 1) (Int32.toNatClampNeg x1)) fun v2 => zb (f_X8_within v2 (9 : Int32) S) fun v3 S => if v3 = 0 then (some ((3 : Int32), S)) else (zl (x1 + (1 : Int32)) fun v4 => k31 c0 v4 S)))
def X8_wrongPairs_l31 : Nat → Nat → Int32 → zMem → Option (Int32 × zMem)
  | 0, _, _, _ => none
  | n + 1, c0, x1, S => X8_wrongPairs_b31 (X8_wrongPairs_l31 n) c0 x1 S
def X8_wrongPairs_b0 (c0 : Nat) (S : zMem) : Option (Int32 × zMem) := zb (f_X7_isThere c0 S) fun v1 S => if v1 = 0 then (some ((1 : Int32), S)) else (zl (S.1 (c0) 1) fun v2 => if (16 : Int32) < v2 then (X8_wrongPairs_b27  S) else (zl (S.1 (c0) 1) fun v3 => zl (v3 - v3 / (2 : Int32) * (2 : Int32)) fun v4 => if v4 = 0 then (X8_wrongPairs_l31 zF c0 (0 : Int32) S) else (X8_wrongPairs_b27  S)))
def f_X8_wrongPairs (c0 : Nat) (S : zMem) : Option (Int32 × zMem) := X8_wrongPairs_b0 c0 S
def X0_fits_b2 (k2 : Int32 → Int32 → Nat → Int32 → zMem → Option (Int32 × zMem)) (x0 : Int32) (x1 : Int32) (c2 : Nat) (x3 : Int32) (S : zMem) : Option (Int32 × zMem) := zl (x3 + (1 : Int32)) fun v1 => zl (S.1 (c2) 1) fun v2 => if v2 ≤ v1 then (zc (zbo (1 : Int32)) (some ((1 : Int32), S))) else (zc (zi x3 (lnC (c2 + 1))) (zl (S.1 (c2 + 1) (Int32.toNatClampNeg x3)) fun v3 => zb (f_X1_warmth x0 x1 v3 S) fun v4 S => zl (x3 + (1 : Int32)) fun v5 => zc (zi v5 (lnC (c2 + 1))) (zl (S.1 (c2 + 1) (Int32.toNatClampNeg v5)) fun v6 => if v4 = v6 then (zl (x3 + (2 : Int32)) fun v7 => k2 x0 x1 c2 v7 S) else (zc (zbo (0 : Int32)) (some ((0 : Int32), S))))))
def X0_fits_l2 : Nat → Int32 → Int32 → Nat → Int32 → zMem → Option (Int32 × zMem)
  | 0, _, _, _, _, _ => none
  | n + 1, x0, x1, c2, x3, S => X0_fits_b2 (X0_fits_l2 n) x0 x1 c2 x3 S
def X0_fits_b0 (x0 : Int32) (x1 : Int32) (c2 : Nat) (S : zMem) : Option (Int32 × zMem) := X0_fits_l2 zF x0 x1 c2 (0 : Int32) S
def f_X0_fits (x0 : Int32) (x1 : Int32) (c2 : Nat) (S : zMem) : Option (Int32 × zMem) := X0_fits_b0 x0 x1 c2 S
def X0_wordsFor_b25 (k4 : Int32 → Nat → Int32 → Int32 → zMem → Option (Int32 × zMem)) (x0 : Int32) (c1 : Nat) (x2 : Int32) (x3 : Int32) (S : zMem) : Option (Int32 × zMem) := zl (x3 + (1 : Int32)) fun v1 => k4 x0 c1 x2 v1 S
def X0_wordsFor_b4 (k4 : Int32 → Nat → Int32 → Int32 → zMem → Option (Int32 × zMem)) (x0 : Int32) (c1 : Nat) (x2 : Int32) (x3 : Int32) (S : zMem) : Option (Int32 × zMem) := if (9 : Int32) < x3 then (some (x2, S)) else (zb (f_X0_fits x0 x3 c1 S) fun v1 S => if v1 = 0 then (X0_wordsFor_b25 k4 x0 c1 x2 x3 S) else (zl ((1 : Int32) <<< (x3 &&& 31)) fun v2 => zl (x2 ||| v2) fun v3 => X0_wordsFor_b25 k4 x0 c1 v3 x3 S))
def X0_wordsFor_l4 : Nat → Int32 → Nat → Int32 → Int32 → zMem → Option (Int32 × zMem)
  | 0, _, _, _, _, _ => none
  | n + 1, x0, c1, x2, x3, S => X0_wordsFor_b4 (X0_wordsFor_l4 n) x0 c1 x2 x3 S
def X0_wordsFor_b0 (x0 : Int32) (c1 : Nat) (S : zMem) : Option (Int32 × zMem) := X0_wordsFor_l4 zF x0 c1 (0 : Int32) (0 : Int32) S
def f_X0_wordsFor (x0 : Int32) (c1 : Nat) (S : zMem) : Option (Int32 × zMem) := X0_wordsFor_b0 x0 c1 S
def X8_meant_b15 (S : zMem) : Option (Int32 × zMem) := some ((-1 : Int32), S)
def X8_meant_b0 (x1 : Int32) (x2 : Int32) (S : zMem) : Option (Int32 × zMem) := zb (f_X8_isLetter x1 S) fun v1 S => if v1 = 0 then (X8_meant_b15  S) else (zb (f_X8_isRow x2 S) fun v2 S => if v2 = 0 then (X8_meant_b15  S) else (zc (zi x2 6) (zb (f_X8_wrongPairs (4 + 2 * Int32.toNatClampNeg x2) S) fun v4 S => if v4 = 0 then (zc (zi x1 6) (zl (S.1 (26) (Int32.toNatClampNeg x1)) fun v5 => zc (zi x2 6) (zb (f_X0_wordsFor v5 (4 + 2 * Int32.toNatClampNeg x2) S) fun v7 S => some (v7, S)))) else (zb (f_X8_refuse v4 S) fun v8 S => some (v8, S)))))
def f_X8_meant (x1 : Int32) (x2 : Int32) (S : zMem) : Option (Int32 × zMem) := X8_meant_b0 x1 x2 S
def X0_kindsFor_b25 (k4 : Int32 → Nat → Int32 → Int32 → zMem → Option (Int32 × zMem)) (x0 : Int32) (c1 : Nat) (x2 : Int32) (x3 : Int32) (S : zMem) : Option (Int32 × zMem) := zl (x3 + (1 : Int32)) fun v1 => k4 x0 c1 x2 v1 S
def X0_kindsFor_b4 (k4 : Int32 → Nat → Int32 → Int32 → zMem → Option (Int32 × zMem)) (x0 : Int32) (c1 : Nat) (x2 : Int32) (x3 : Int32) (S : zMem) : Option (Int32 × zMem) := if (6 : Int32) ≤ x3 then (some (x2, S)) else (zb (f_X0_fits x3 x0 c1 S) fun v1 S => if v1 = 0 then (X0_kindsFor_b25 k4 x0 c1 x2 x3 S) else (zl ((1 : Int32) <<< (x3 &&& 31)) fun v2 => zl (x2 ||| v2) fun v3 => X0_kindsFor_b25 k4 x0 c1 v3 x3 S))
def X0_kindsFor_l4 : Nat → Int32 → Nat → Int32 → Int32 → zMem → Option (Int32 × zMem)
  | 0, _, _, _, _, _ => none
  | n + 1, x0, c1, x2, x3, S => X0_kindsFor_b4 (X0_kindsFor_l4 n) x0 c1 x2 x3 S
def X0_kindsFor_b0 (x0 : Int32) (c1 : Nat) (S : zMem) : Option (Int32 × zMem) := X0_kindsFor_l4 zF x0 c1 (0 : Int32) (0 : Int32) S
def f_X0_kindsFor (x0 : Int32) (c1 : Nat) (S : zMem) : Option (Int32 × zMem) := X0_kindsFor_b0 x0 c1 S
def X8_kinds_b15 (S : zMem) : Option (Int32 × zMem) := some ((-1 : Int32), S)
def X8_kinds_b0 (x1 : Int32) (x2 : Int32) (S : zMem) : Option (Int32 × zMem) := zb (f_X8_isLetter x1 S) fun v1 S => if v1 = 0 then (X8_kinds_b15  S) else (zb (f_X8_isRow x2 S) fun v2 S => if v2 = 0 then (X8_kinds_b15  S) else (zc (zi x2 6) (zb (f_X8_wrongPairs (4 + 2 * Int32.toNatClampNeg x2) S) fun v4 S => if v4 = 0 then (zc (zi x1 6) (zl (S.1 (28) (Int32.toNatClampNeg x1)) fun v5 => zc (zi x2 6) (zb (f_X0_kindsFor v5 (4 + 2 * Int32.toNatClampNeg x2) S) fun v7 S => some (v7, S)))) else (zb (f_X8_refuse v4 S) fun v8 S => some (v8, S)))))
def f_X8_kinds (x1 : Int32) (x2 : Int32) (S : zMem) : Option (Int32 × zMem) := X8_kinds_b0 x1 x2 S
def X0_greatestPart_b80 (k30 : Int32 → Int32 → Int32 → Int32 → Int32 → zMem → Option (Int32 × zMem)) (x1 : Int32) (x2 : Int32) (x3 : Int32) (x4 : Int32) (x5 : Int32) (S : zMem) : Option (Int32 × zMem) := zl (x5 + (1 : Int32)) fun v1 => k30 x1 x2 x3 x4 v1 S
def X0_greatestPart_b30 (k30 : Int32 → Int32 → Int32 → Int32 → Int32 → zMem → Option (Int32 × zMem)) (x1 : Int32) (x2 : Int32) (x3 : Int32) (x4 : Int32) (x5 : Int32) (S : zMem) : Option (Int32 × zMem) := if (9 : Int32) < x5 then (some (x4, S)) else (zl (x2 >>> (x5 &&& 31)) fun v1 => zl (v1 &&& (1 : Int32)) fun v2 => if v2 = 0 then (X0_greatestPart_b80 k30 x1 x2 x3 x4 x5 S) else (zb (f_X1_warmth x1 x5 x3 S) fun v3 S => zc (zi v3 10) (zl (S.1 (66) (Int32.toNatClampNeg v3)) fun v4 => zl (v4 + (1 : Int32)) fun v5 => zc (zi v3 10) (zl (zp S (66) (upd (S.1 (66)) (Int32.toNatClampNeg v3) v5)) fun S => zc (zi v3 10) (zl (S.1 (66) (Int32.toNatClampNeg v3)) fun v6 => zl (if x4 < v6 then v6 else x4) fun v7 => X0_greatestPart_b80 k30 x1 x2 x3 v7 x5 S)))))
def X0_greatestPart_l30 : Nat → Int32 → Int32 → Int32 → Int32 → Int32 → zMem → Option (Int32 × zMem)
  | 0, _, _, _, _, _, _ => none
  | n + 1, x1, x2, x3, x4, x5, S => X0_greatestPart_b30 (X0_greatestPart_l30 n) x1 x2 x3 x4 x5 S
def X0_greatestPart_b3 (k3 : Int32 → Int32 → Int32 → Int32 → zMem → Option (Int32 × zMem)) (x1 : Int32) (x2 : Int32) (x3 : Int32) (x4 : Int32) (S : zMem) : Option (Int32 × zMem) := if (9 : Int32) < x4 then (X0_greatestPart_l30 zF x1 x2 x3 (0 : Int32) (0 : Int32) S) else (zc (zi x4 10) (zl (zp S (66) (upd (S.1 (66)) (Int32.toNatClampNeg x4) (0 : Int32))) fun S => zl (x4 + (1 : Int32)) fun v1 => k3 x1 x2 x3 v1 S))
def X0_greatestPart_l3 : Nat → Int32 → Int32 → Int32 → Int32 → zMem → Option (Int32 × zMem)
  | 0, _, _, _, _, _ => none
  | n + 1, x1, x2, x3, x4, S => X0_greatestPart_b3 (X0_greatestPart_l3 n) x1 x2 x3 x4 S
def X0_greatestPart_b0 (x1 : Int32) (x2 : Int32) (x3 : Int32) (S : zMem) : Option (Int32 × zMem) := X0_greatestPart_l3 zF x1 x2 x3 (0 : Int32) S
def f_X0_greatestPart (x1 : Int32) (x2 : Int32) (x3 : Int32) (S : zMem) : Option (Int32 × zMem) := X0_greatestPart_b0 x1 x2 x3 S
def X0_bestMood_b45 (k14 : Int32 → Int32 → Int32 → Int32 → Int32 → zMem → Option (Int32 × zMem)) (x1 : Int32) (x2 : Int32) (x3 : Int32) (x4 : Int32) (x5 : Int32) (S : zMem) : Option (Int32 × zMem) := zl (x5 + (1 : Int32)) fun v1 => k14 x1 x2 x3 x4 v1 S
def X0_bestMood_b14 (k14 : Int32 → Int32 → Int32 → Int32 → Int32 → zMem → Option (Int32 × zMem)) (x1 : Int32) (x2 : Int32) (x3 : Int32) (x4 : Int32) (x5 : Int32) (S : zMem) : Option (Int32 × zMem) := if (9 : Int32) < x5 then (some (x3, S)) else (zb (f_X0_greatestPart x1 x2 x5 S) fun v1 S => if x4 ≤ v1 then (X0_bestMood_b45 k14 x1 x2 x3 x4 x5 S) else (X0_bestMood_b45 k14 x1 x2 x5 v1 x5 S))
def X0_bestMood_l14 : Nat → Int32 → Int32 → Int32 → Int32 → Int32 → zMem → Option (Int32 × zMem)
  | 0, _, _, _, _, _, _ => none
  | n + 1, x1, x2, x3, x4, x5, S => X0_bestMood_b14 (X0_bestMood_l14 n) x1 x2 x3 x4 x5 S
def X0_bestMood_b0 (x1 : Int32) (x2 : Int32) (S : zMem) : Option (Int32 × zMem) := zb (f_X0_greatestPart x1 x2 (0 : Int32) S) fun v1 S => X0_bestMood_l14 zF x1 x2 (0 : Int32) v1 (1 : Int32) S
def f_X0_bestMood (x1 : Int32) (x2 : Int32) (S : zMem) : Option (Int32 × zMem) := X0_bestMood_b0 x1 x2 S
def X8_test_b15 (S : zMem) : Option (Int32 × zMem) := some ((-1 : Int32), S)
def X8_test_b0 (x1 : Int32) (x2 : Int32) (S : zMem) : Option (Int32 × zMem) := zb (f_X8_isLetter x1 S) fun v1 S => if v1 = 0 then (X8_test_b15  S) else (zb (f_X8_isRow x2 S) fun v2 S => if v2 = 0 then (X8_test_b15  S) else (zc (zi x2 6) (zb (f_X8_wrongPairs (4 + 2 * Int32.toNatClampNeg x2) S) fun v4 S => if v4 = 0 then (zc (zi x1 6) (zl (S.1 (26) (Int32.toNatClampNeg x1)) fun v5 => zc (zi x2 6) (zb (f_X0_wordsFor v5 (4 + 2 * Int32.toNatClampNeg x2) S) fun v7 S => if v7 = 0 then (some ((-9 : Int32), S)) else (zc (zi x1 6) (zl (S.1 (26) (Int32.toNatClampNeg x1)) fun v8 => zb (f_X0_bestMood v8 v7 S) fun v9 S => zc (zi x1 6) (zl (S.1 (26) (Int32.toNatClampNeg x1)) fun v10 => zb (f_X0_greatestPart v10 v7 v9 S) fun v11 S => zb (f_X8_tell v11 S) fun v12 S => some (v9, S))))))) else (zb (f_X8_refuse v4 S) fun v13 S => some (v13, S)))))
def f_X8_test (x1 : Int32) (x2 : Int32) (S : zMem) : Option (Int32 × zMem) := X8_test_b0 x1 x2 S
def X6_wordsOf_b29 (k4 : Int32 → Int32 → Int32 → zMem → Option (Int32 × zMem)) (x1 : Int32) (x2 : Int32) (x3 : Int32) (S : zMem) : Option (Int32 × zMem) := zl (x3 + (1 : Int32)) fun v1 => k4 x1 x2 v1 S
def X6_wordsOf_b4 (k4 : Int32 → Int32 → Int32 → zMem → Option (Int32 × zMem)) (x1 : Int32) (x2 : Int32) (x3 : Int32) (S : zMem) : Option (Int32 × zMem) := zl (S.1 (24) 5) fun v1 => if v1 ≤ x3 then (some (x2, S)) else (zl (x1 >>> (x3 &&& 31)) fun v2 => zl (v2 &&& (1 : Int32)) fun v3 => if v3 = 0 then (X6_wordsOf_b29 k4 x1 x2 x3 S) else (zc (zi x3 6) (zl (S.1 (28) (Int32.toNatClampNeg x3)) fun v4 => zl (x2 + v4) fun v5 => X6_wordsOf_b29 k4 x1 v5 x3 S)))
def X6_wordsOf_l4 : Nat → Int32 → Int32 → Int32 → zMem → Option (Int32 × zMem)
  | 0, _, _, _, _ => none
  | n + 1, x1, x2, x3, S => X6_wordsOf_b4 (X6_wordsOf_l4 n) x1 x2 x3 S
def X6_wordsOf_b0 (x1 : Int32) (S : zMem) : Option (Int32 × zMem) := X6_wordsOf_l4 zF x1 (0 : Int32) (0 : Int32) S
def f_X6_wordsOf (x1 : Int32) (S : zMem) : Option (Int32 × zMem) := X6_wordsOf_b0 x1 S
def X8_commonDivisor_b44 (y4 : Int64) (S : zMem) : Option (Int64 × zMem) := some (y4, S)
def X8_commonDivisor_b9 (k9 : Int64 → Int64 → Int32 → zMem → Option (Int64 × zMem)) (y4 : Int64) (y6 : Int64) (x8 : Int32) (S : zMem) : Option (Int64 × zMem) := if (100 : Int32) ≤ x8 then (X8_commonDivisor_b44 y4 S) else (zl (lg_cmp y6 (0 : Int64)) fun v1 => if v1 = 0 then (X8_commonDivisor_b44 y4 S) else (zc (decide (¬ y6 = 0)) (zl (y4 - y4 / y6 * y6) fun v2 => zl (x8 + (1 : Int32)) fun v3 => k9 y6 v2 v3 S)))
def X8_commonDivisor_l9 : Nat → Int64 → Int64 → Int32 → zMem → Option (Int64 × zMem)
  | 0, _, _, _, _ => none
  | n + 1, y4, y6, x8, S => X8_commonDivisor_b9 (X8_commonDivisor_l9 n) y4 y6 x8 S
def X8_commonDivisor_b0 (y0 : Int64) (y2 : Int64) (S : zMem) : Option (Int64 × zMem) := X8_commonDivisor_l9 zF y0 y2 (0 : Int32) S
def f_X8_commonDivisor (y0 : Int64) (y2 : Int64) (S : zMem) : Option (Int64 × zMem) := X8_commonDivisor_b0 y0 y2 S
def X8_tellPart_b30 (S : zMem) : Option (Int32 × zMem) := some ((1 : Int32), S)
def X8_tellPart_b0 (y1 : Int64) (y3 : Int64) (S : zMem) : Option (Int32 × zMem) := zb (f_X8_commonDivisor y1 y3 S) fun v1 S => zl (lg_cmp v1 (0 : Int64)) fun v2 => if v2 ≤ 0 then (X8_tellPart_b30  S) else (zc (decide (¬ v1 = 0)) (zl (y1 / v1) fun v3 => zl (zq S (0) (vp_updL (S.2 (0)) 13 v3)) fun S => zc (decide (¬ v1 = 0)) (zl (y3 / v1) fun v4 => zl (zq S (0) (vp_updL (S.2 (0)) 14 v4)) fun S => X8_tellPart_b30  S)))
def f_X8_tellPart (y1 : Int64) (y3 : Int64) (S : zMem) : Option (Int32 × zMem) := X8_tellPart_b0 y1 y3 S
def X8_sets_b68 (k29 : Int32 → Int32 → Int32 → Int32 → zMem → Option (Int32 × zMem)) (x1 : Int32) (x2 : Int32) (x3 : Int32) (x4 : Int32) (S : zMem) : Option (Int32 × zMem) := zl (x4 + (1 : Int32)) fun v1 => k29 x1 x2 x3 v1 S
def X8_sets_b64 (k29 : Int32 → Int32 → Int32 → Int32 → zMem → Option (Int32 × zMem)) (x1 : Int32) (x2 : Int32) (x4 : Int32) (s0 : Int32) (S : zMem) : Option (Int32 × zMem) := zl (x2 + (1 : Int32)) fun v1 => X8_sets_b68 k29 x1 v1 s0 x4 S
def X8_sets_b29 (k29 : Int32 → Int32 → Int32 → Int32 → zMem → Option (Int32 × zMem)) (x1 : Int32) (x2 : Int32) (x3 : Int32) (x4 : Int32) (S : zMem) : Option (Int32 × zMem) := zb (f_X6_allLetters  S) fun v1 S => if v1 < x4 then (zl (Int32.toInt64 x2) fun v2 => zb (f_X8_tellPart v2 (1 : Int64) S) fun v3 S => zb (f_X8_tell x3 S) fun v4 S => some (v4, S)) else (zb (f_X6_wordsOf x4 S) fun v5 S => if v5 = x1 then (if x2 = 0 then (X8_sets_b64 k29 x1 x2 x4 x4 S) else (X8_sets_b64 k29 x1 x2 x4 x3 S)) else (X8_sets_b68 k29 x1 x2 x3 x4 S))
def X8_sets_l29 : Nat → Int32 → Int32 → Int32 → Int32 → zMem → Option (Int32 × zMem)
  | 0, _, _, _, _, _ => none
  | n + 1, x1, x2, x3, x4, S => X8_sets_b29 (X8_sets_l29 n) x1 x2 x3 x4 S
def X8_sets_b0 (x1 : Int32) (S : zMem) : Option (Int32 × zMem) := zb (f_X8_within x1 (54 : Int32) S) fun v1 S => if v1 = 0 then (some ((-1 : Int32), S)) else (zb (f_X8_isPosted  S) fun v2 S => if v2 = 0 then (some ((-4 : Int32), S)) else (X8_sets_l29 zF x1 (0 : Int32) (-9 : Int32) (0 : Int32) S))
def f_X8_sets (x1 : Int32) (S : zMem) : Option (Int32 × zMem) := X8_sets_b0 x1 S
def X8_sure_b84 (k43 : Int32 → Int32 → Int32 → Int32 → Int32 → zMem → Option (Int32 × zMem)) (x1 : Int32) (x2 : Int32) (x3 : Int32) (x4 : Int32) (x5 : Int32) (S : zMem) : Option (Int32 × zMem) := zl (x5 + (1 : Int32)) fun v1 => k43 x1 x2 x3 x4 v1 S
def X8_sure_b43 (k43 : Int32 → Int32 → Int32 → Int32 → Int32 → zMem → Option (Int32 × zMem)) (x1 : Int32) (x2 : Int32) (x3 : Int32) (x4 : Int32) (x5 : Int32) (S : zMem) : Option (Int32 × zMem) := zb (f_X6_allLetters  S) fun v1 S => if v1 < x5 then (if x2 = 0 then (zb (f_X8_refuse (4 : Int32) S) fun v3 S => some (v3, S)) else (zb (f_X8_tell x4 S) fun v2 S => some (x3, S))) else (zb (f_X6_wordsOf x5 S) fun v4 S => if v4 = x1 then (zl (x3 &&& x5) fun v5 => zl (x5 ^^^ (-1 : Int32)) fun v6 => zl (x4 &&& v6) fun v7 => X8_sure_b84 k43 x1 (1 : Int32) v5 v7 x5 S) else (X8_sure_b84 k43 x1 x2 x3 x4 x5 S))
def X8_sure_l43 : Nat → Int32 → Int32 → Int32 → Int32 → Int32 → zMem → Option (Int32 × zMem)
  | 0, _, _, _, _, _, _ => none
  | n + 1, x1, x2, x3, x4, x5, S => X8_sure_b43 (X8_sure_l43 n) x1 x2 x3 x4 x5 S
def X8_sure_b0 (x1 : Int32) (S : zMem) : Option (Int32 × zMem) := zb (f_X8_within x1 (54 : Int32) S) fun v1 S => if v1 = 0 then (some ((-1 : Int32), S)) else (zb (f_X8_isPosted  S) fun v2 S => if v2 = 0 then (some ((-4 : Int32), S)) else (zb (f_X6_allLetters  S) fun v3 S => zb (f_X6_allLetters  S) fun v4 S => X8_sure_l43 zF x1 (0 : Int32) v3 v4 (0 : Int32) S))
def f_X8_sure (x1 : Int32) (S : zMem) : Option (Int32 × zMem) := X8_sure_b0 x1 S
def X3_settled_b15 (rec : Int32 → Int32 → Int32 → Int32 → Int32 → zMem → Option (Int32 × zMem)) (S : zMem) : Option (Int32 × zMem) := some ((0 : Int32), S)
def X3_settled_b171 (rec : Int32 → Int32 → Int32 → Int32 → Int32 → zMem → Option (Int32 × zMem)) (k37 : Int32 → Int32 → Int32 → Int32 → Int32 → Int32 → Int32 → Int32 → zMem → Option (Int32 × zMem)) (x1 : Int32) (x2 : Int32) (x3 : Int32) (x4 : Int32) (x5 : Int32) (x6 : Int32) (x7 : Int32) (x8 : Int32) (S : zMem) : Option (Int32 × zMem) := zl (x8 + (1 : Int32)) fun v1 => k37 x1 x2 x3 x4 x5 x6 x7 v1 S
def X3_settled_b167 (rec : Int32 → Int32 → Int32 → Int32 → Int32 → zMem → Option (Int32 × zMem)) (k37 : Int32 → Int32 → Int32 → Int32 → Int32 → Int32 → Int32 → Int32 → zMem → Option (Int32 × zMem)) (x1 : Int32) (x2 : Int32) (x3 : Int32) (x4 : Int32) (x5 : Int32) (x6 : Int32) (x8 : Int32) (x12 : Int32) (S : zMem) : Option (Int32 × zMem) := X3_settled_b171 rec k37 x1 x2 x3 x4 x5 x6 x12 x8 S
def X3_settled_b49 (rec : Int32 → Int32 → Int32 → Int32 → Int32 → zMem → Option (Int32 × zMem)) (k37 : Int32 → Int32 → Int32 → Int32 → Int32 → Int32 → Int32 → Int32 → zMem → Option (Int32 × zMem)) (x1 : Int32) (x2 : Int32) (x3 : Int32) (x4 : Int32) (x5 : Int32) (x6 : Int32) (x7 : Int32) (x8 : Int32) (S : zMem) : Option (Int32 × zMem) := zl (x3 >>> (x8 &&& 31)) fun v1 => zl (v1 &&& (1 : Int32)) fun v2 => if v2 = 0 then (X3_settled_b171 rec k37 x1 x2 x3 x4 x5 x6 x7 x8 S) else (zl (S.1 (60) 3) fun v3 => zb (f_X6_moodAtDoor x8 x4 x5 v3 S) fun v4 S => zb (f_X6_warmth x8 v4 S) fun v5 S => zb (f_X6_moodBehind x8 v4 v5 S) fun v6 S => zl (x1 + (1 : Int32)) fun v7 => zl ((1 : Int32) <<< (x8 &&& 31)) fun v8 => zl (v8 ^^^ (-1 : Int32)) fun v9 => zl (x3 &&& v9) fun v10 => zc (zi x8 6) (zl (S.1 (27) (Int32.toNatClampNeg x8)) fun v11 => zb (rec v7 x2 v10 v6 v11 S) fun v12 S => zl (v5 + v12) fun v13 => if x7 = (-9 : Int32) then (X3_settled_b167 rec k37 x1 x2 x3 x4 x5 x6 x8 v13 S) else (if x6 = 0 then (if x7 ≤ v13 then (X3_settled_b171 rec k37 x1 x2 x3 x4 x5 x6 x7 x8 S) else (X3_settled_b167 rec k37 x1 x2 x3 x4 x5 x6 x8 v13 S)) else (if v13 ≤ x7 then (X3_settled_b171 rec k37 x1 x2 x3 x4 x5 x6 x7 x8 S) else (X3_settled_b167 rec k37 x1 x2 x3 x4 x5 x6 x8 v13 S)))))
def X3_settled_b37 (rec : Int32 → Int32 → Int32 → Int32 → Int32 → zMem → Option (Int32 × zMem)) (k37 : Int32 → Int32 → Int32 → Int32 → Int32 → Int32 → Int32 → Int32 → zMem → Option (Int32 × zMem)) (x1 : Int32) (x2 : Int32) (x3 : Int32) (x4 : Int32) (x5 : Int32) (x6 : Int32) (x7 : Int32) (x8 : Int32) (S : zMem) : Option (Int32 × zMem) := zl (S.1 (24) 5) fun v1 => if v1 ≤ x8 then (some (x7, S)) else (X3_settled_b49 rec k37 x1 x2 x3 x4 x5 x6 x7 x8 S)
def X3_settled_l37 (rec : Int32 → Int32 → Int32 → Int32 → Int32 → zMem → Option (Int32 × zMem)) : Nat → Int32 → Int32 → Int32 → Int32 → Int32 → Int32 → Int32 → Int32 → zMem → Option (Int32 × zMem)
  | 0, _, _, _, _, _, _, _, _, _ => none
  | n + 1, x1, x2, x3, x4, x5, x6, x7, x8, S => X3_settled_b37 rec (X3_settled_l37 rec n) x1 x2 x3 x4 x5 x6 x7 x8 S
def X3_settled_b28 (rec : Int32 → Int32 → Int32 → Int32 → Int32 → zMem → Option (Int32 × zMem)) (x1 : Int32) (x2 : Int32) (x3 : Int32) (x4 : Int32) (x5 : Int32) (s0 : Int32) (S : zMem) : Option (Int32 × zMem) := X3_settled_l37 rec zF x1 x2 x3 x4 x5 s0 (-9 : Int32) (0 : Int32) S
def X3_settled_b0 (rec : Int32 → Int32 → Int32 → Int32 → Int32 → zMem → Option (Int32 × zMem)) (x1 : Int32) (x2 : Int32) (x3 : Int32) (x4 : Int32) (x5 : Int32) (S : zMem) : Option (Int32 × zMem) := if x3 = 0 then (X3_settled_b15 rec  S) else (if x2 ≤ x1 then (X3_settled_b15 rec  S) else (if x1 < (6 : Int32) then (zl (x1 - x1 / (2 : Int32) * (2 : Int32)) fun v1 => if v1 = 0 then (X3_settled_b28 rec x1 x2 x3 x4 x5 (1 : Int32) S) else (X3_settled_b28 rec x1 x2 x3 x4 x5 (0 : Int32) S)) else (X3_settled_b15 rec  S)))
def f_X3_settled : Nat → Int32 → Int32 → Int32 → Int32 → Int32 → zMem → Option (Int32 × zMem)
  | 0, _, _, _, _, _, _ => none
  | d + 1, x1, x2, x3, x4, x5, S => X3_settled_b0 (f_X3_settled d) x1 x2 x3 x4 x5 S
def X3_byTurns_b0 (x2 : Int32) (S : zMem) : Option (Int32 × zMem) := zl (S.1 (35) 9) fun v1 => zl (zp S (60) (upd (S.1 (60)) 3 v1)) fun S => zb (f_X6_allLetters  S) fun v2 S => zl (S.1 (35) 11) fun v3 => zl (v3 ^^^ (-1 : Int32)) fun v4 => zl (v2 &&& v4) fun v5 => zl (S.1 (35) 8) fun v6 => zl (S.1 (35) 10) fun v7 => zb (f_X3_settled 8 (0 : Int32) x2 v5 v6 v7 S) fun v8 S => some (v8, S)
def f_X3_byTurns (x2 : Int32) (S : zMem) : Option (Int32 × zMem) := X3_byTurns_b0 x2 S
def X8_duel_b0 (x1 : Int32) (S : zMem) : Option (Int32 × zMem) := zb (f_X8_within x1 (3 : Int32) S) fun v1 S => if v1 = 0 then (some ((-1 : Int32), S)) else (zb (f_X8_isPosted  S) fun v2 S => if v2 = 0 then (some ((-4 : Int32), S)) else (zl ((2 : Int32) * x1) fun v3 => zb (f_X3_byTurns v3 S) fun v4 S => zb (f_X8_tell v4 S) fun v5 S => some (v5, S)))
def f_X8_duel (x1 : Int32) (S : zMem) : Option (Int32 × zMem) := X8_duel_b0 x1 S
def X2_weigh_b34 (rec : Int32 → Int32 → Int32 → Int32 → Int64 → zMem → Option (Unit × zMem)) (x4 : Int32) (y5 : Int64) (s1 : Int64) (s2 : Int64) (S : zMem) : Option (Unit × zMem) := zl (s1 + s2) fun v1 => zl (zq S (63) (vp_updL (S.2 (63)) 6 v1)) fun S => zl (S.2 (63) 7) fun v2 => zl (Int32.toInt64 x4) fun v3 => zl (y5 * v3) fun v4 => zl (v2 + v4) fun v5 => zl (zq S (63) (vp_updL (S.2 (63)) 7 v5)) fun S => zl (S.2 (63) 8) fun v6 => zl (v6 + y5) fun v7 => zl (zq S (63) (vp_updL (S.2 (63)) 8 v7)) fun S => some ((), S)
def X2_weigh_b14 (rec : Int32 → Int32 → Int32 → Int32 → Int64 → zMem → Option (Unit × zMem)) (x4 : Int32) (y5 : Int64) (S : zMem) : Option (Unit × zMem) := zl (S.2 (63) 6) fun v1 => zl (S.1 (63) 4) fun v2 => if x4 < v2 then (X2_weigh_b34 rec x4 y5 v1 (0 : Int64) S) else (X2_weigh_b34 rec x4 y5 v1 y5 S)
def X2_weigh_b104 (rec : Int32 → Int32 → Int32 → Int32 → Int64 → zMem → Option (Unit × zMem)) (k76 : Int32 → Int32 → Int32 → Int32 → Int64 → Int32 → Int32 → zMem → Option (Unit × zMem)) (x1 : Int32) (x2 : Int32) (x3 : Int32) (x4 : Int32) (y5 : Int64) (x7 : Int32) (x8 : Int32) (s0 : Int64) (s1 : Int32) (S : zMem) : Option (Unit × zMem) := zl (Int32.toInt64 s1) fun v1 => zl (s0 * v1) fun v2 => zl (x2 + x8) fun v3 => zb (f_X6_moodWithin v3 S) fun v4 S => zl (S.1 (63) 3) fun v5 => zb (f_X6_moodAtDoor x7 v4 x3 v5 S) fun v6 S => zb (f_X6_warmth x7 v6 S) fun v7 S => zb (f_X6_moodBehind x7 v6 v7 S) fun v8 S => zl (x1 + (1 : Int32)) fun v9 => zc (zi x7 6) (zl (S.1 (27) (Int32.toNatClampNeg x7)) fun v10 => zl (x4 + v7) fun v11 => zb (rec v9 v8 v10 v11 v2 S) fun v12 S => zl (x8 + (1 : Int32)) fun v13 => k76 x1 x2 x3 x4 y5 x7 v13 S)
def X2_weigh_b76 (rec : Int32 → Int32 → Int32 → Int32 → Int64 → zMem → Option (Unit × zMem)) (k76 : Int32 → Int32 → Int32 → Int32 → Int64 → Int32 → Int32 → zMem → Option (Unit × zMem)) (x1 : Int32) (x2 : Int32) (x3 : Int32) (x4 : Int32) (y5 : Int64) (x7 : Int32) (x8 : Int32) (S : zMem) : Option (Unit × zMem) := if (1 : Int32) < x8 then (some ((), S)) else (if x8 = (1 : Int32) then (zl (S.1 (63) 5) fun v3 => X2_weigh_b104 rec k76 x1 x2 x3 x4 y5 x7 x8 y5 v3 S) else (zl (S.1 (63) 5) fun v1 => zl ((12 : Int32) - v1) fun v2 => X2_weigh_b104 rec k76 x1 x2 x3 x4 y5 x7 x8 y5 v2 S))
def X2_weigh_l76 (rec : Int32 → Int32 → Int32 → Int32 → Int64 → zMem → Option (Unit × zMem)) : Nat → Int32 → Int32 → Int32 → Int32 → Int64 → Int32 → Int32 → zMem → Option (Unit × zMem)
  | 0, _, _, _, _, _, _, _, _ => none
  | n + 1, x1, x2, x3, x4, y5, x7, x8, S => X2_weigh_b76 rec (X2_weigh_l76 rec n) x1 x2 x3 x4 y5 x7 x8 S
def X2_weigh_b0 (rec : Int32 → Int32 → Int32 → Int32 → Int64 → zMem → Option (Unit × zMem)) (x1 : Int32) (x2 : Int32) (x3 : Int32) (x4 : Int32) (y5 : Int64) (S : zMem) : Option (Unit × zMem) := zl (S.1 (63) 2) fun v1 => if v1 ≤ x1 then (X2_weigh_b14 rec x4 y5 S) else (if x1 < (6 : Int32) then (zc (zi x1 6) (zl (S.1 (64) (Int32.toNatClampNeg x1)) fun v2 => X2_weigh_l76 rec zF x1 x2 x3 x4 y5 v2 (0 : Int32) S)) else (X2_weigh_b14 rec x4 y5 S))
def f_X2_weigh : Nat → Int32 → Int32 → Int32 → Int32 → Int64 → zMem → Option (Unit × zMem)
  | 0, _, _, _, _, _, _ => none
  | d + 1, x1, x2, x3, x4, y5, S => X2_weigh_b0 (f_X2_weigh d) x1 x2 x3 x4 y5 S
def X2_follow_b0 (c2 : Nat) (x3 : Int32) (x4 : Int32) (S : zMem) : Option (Unit × zMem) := zl (S.1 (c2) 1) fun v1 => zl (if (6 : Int32) < v1 then (6 : Int32) else v1) fun v2 => zl (if (0 : Int32) < v2 then v2 else (0 : Int32)) fun v3 => zl (zp S (63) (upd (S.1 (63)) 2 v3)) fun S => zl (S.1 (63) 2) fun v4 => zc (zcp (0 : Int32) (0 : Int32) v4 (lnC (c2 + 1)) 6) (zl (zp S (64) (va_cpy (S.1 (c2 + 1)) (S.1 (64)) (Int32.toNatClampNeg (0 : Int32)) (Int32.toNatClampNeg (0 : Int32)) (Int32.toNatClampNeg v4))) fun S => zl (S.1 (35) 9) fun v5 => zl (zp S (63) (upd (S.1 (63)) 3 v5)) fun S => zl (zp S (63) (upd (S.1 (63)) 4 x3)) fun S => zl (zp S (63) (upd (S.1 (63)) 5 x4)) fun S => zl (zq S (63) (vp_updL (S.2 (63)) 6 (0 : Int64))) fun S => zl (zq S (63) (vp_updL (S.2 (63)) 7 (0 : Int64))) fun S => zl (zq S (63) (vp_updL (S.2 (63)) 8 (0 : Int64))) fun S => zl (S.1 (35) 8) fun v6 => zl (S.1 (35) 10) fun v7 => zb (f_X2_weigh 8 (0 : Int32) v6 v7 (0 : Int32) (1 : Int64) S) fun v8 S => some ((), S))
def f_X2_follow (c2 : Nat) (x3 : Int32) (x4 : Int32) (S : zMem) : Option (Unit × zMem) := X2_follow_b0 c2 x3 x4 S
def X8_odds_b25 (S : zMem) : Option (Int32 × zMem) := some ((-1 : Int32), S)
def X8_odds_b0 (x1 : Int32) (x2 : Int32) (x3 : Int32) (S : zMem) : Option (Int32 × zMem) := zb (f_X8_isRow x1 S) fun v1 S => if v1 = 0 then (X8_odds_b25  S) else (zb (f_X8_within x2 (54 : Int32) S) fun v2 S => if v2 = 0 then (X8_odds_b25  S) else (zb (f_X8_within x3 (12 : Int32) S) fun v3 S => if v3 = 0 then (X8_odds_b25  S) else (zc (zi x1 6) (zl (S.1 (35) 11) fun v5 => zb (f_X8_wrongLetters (4 + 2 * Int32.toNatClampNeg x1) v5 S) fun v6 S => if v6 = 0 then (zc (zi x1 6) (zb (f_X2_follow (4 + 2 * Int32.toNatClampNeg x1) x2 x3 S) fun v8 S => zl (S.2 (63) 6) fun v9 => zl (S.2 (63) 8) fun v10 => zb (f_X8_tellPart v9 v10 S) fun v11 S => some (v11, S))) else (zb (f_X8_refuse v6 S) fun v12 S => some (v12, S))))))
def f_X8_odds (x1 : Int32) (x2 : Int32) (x3 : Int32) (S : zMem) : Option (Int32 × zMem) := X8_odds_b0 x1 x2 x3 S
def X8_mid_b16 (S : zMem) : Option (Int32 × zMem) := some ((-1 : Int32), S)
def X8_mid_b0 (x1 : Int32) (x2 : Int32) (S : zMem) : Option (Int32 × zMem) := zb (f_X8_isRow x1 S) fun v1 S => if v1 = 0 then (X8_mid_b16  S) else (zb (f_X8_within x2 (12 : Int32) S) fun v2 S => if v2 = 0 then (X8_mid_b16  S) else (zc (zi x1 6) (zl (S.1 (35) 11) fun v4 => zb (f_X8_wrongLetters (4 + 2 * Int32.toNatClampNeg x1) v4 S) fun v5 S => if v5 = 0 then (zc (zi x1 6) (zb (f_X2_follow (4 + 2 * Int32.toNatClampNeg x1) (0 : Int32) x2 S) fun v7 S => zl (S.2 (63) 7) fun v8 => zl (S.2 (63) 8) fun v9 => zb (f_X8_tellPart v8 v9 S) fun v10 S => some (v10, S))) else (zb (f_X8_refuse v5 S) fun v11 S => some (v11, S)))))
def f_X8_mid (x1 : Int32) (x2 : Int32) (S : zMem) : Option (Int32 × zMem) := X8_mid_b0 x1 x2 S
def X8_performLot_b100 (S : zMem) : Option (Unit × zMem) := some ((), S)
def X8_performLot_b0 (x1 : Int32) (S : zMem) : Option (Unit × zMem) := zl (x1 / (8 : Int32)) fun v1 => zl (v1 - v1 / (8 : Int32) * (8 : Int32)) fun v2 => zl (x1 / (64 : Int32)) fun v3 => if v2 = (7 : Int32) then (zb (f_X4_perform 35 (3 : Int32) (0 : Int32) S) fun v13 S => X8_performLot_b100  S) else (if v2 = (6 : Int32) then (zl (v3 - v3 / (3 : Int32) * (3 : Int32)) fun v11 => zb (f_X4_perform 35 (2 : Int32) v11 S) fun v12 S => X8_performLot_b100  S) else (if v2 = (5 : Int32) then (zl (v3 - v3 / (9 : Int32) * (9 : Int32)) fun v8 => zl ((1 : Int32) + v8) fun v9 => zb (f_X4_perform 35 (1 : Int32) v9 S) fun v10 S => X8_performLot_b100  S) else (zl (S.1 (24) 5) fun v4 => if v4 ≤ 0 then (X8_performLot_b100  S) else (zl (S.1 (24) 5) fun v5 => zc (decide (¬ v5 = 0)) (zl (x1 - x1 / v5 * v5) fun v6 => zb (f_X4_perform 35 (0 : Int32) v6 S) fun v7 S => X8_performLot_b100  S)))))
def f_X8_performLot (x1 : Int32) (S : zMem) : Option (Unit × zMem) := X8_performLot_b0 x1 S
def X4_allBonds_b4 (k4 : Nat → Int32 → Int32 → zMem → Option (Int32 × zMem)) (c0 : Nat) (x1 : Int32) (x2 : Int32) (S : zMem) : Option (Int32 × zMem) := zl (S.1 (24) 4) fun v1 => if v1 ≤ x2 then (some (x1, S)) else (zc (zi x2 6) (zl (S.1 (c0 + 1) (Int32.toNatClampNeg x2)) fun v2 => zl (x1 + v2) fun v3 => zl (x2 + (1 : Int32)) fun v4 => k4 c0 v3 v4 S))
def X4_allBonds_l4 : Nat → Nat → Int32 → Int32 → zMem → Option (Int32 × zMem)
  | 0, _, _, _, _ => none
  | n + 1, c0, x1, x2, S => X4_allBonds_b4 (X4_allBonds_l4 n) c0 x1 x2 S
def X4_allBonds_b0 (c0 : Nat) (S : zMem) : Option (Int32 × zMem) := X4_allBonds_l4 zF c0 (0 : Int32) (0 : Int32) S
def f_X4_allBonds (c0 : Nat) (S : zMem) : Option (Int32 × zMem) := X4_allBonds_b0 c0 S
def X8_lots_b25 (S : zMem) : Option (Int32 × zMem) := some ((-1 : Int32), S)
def X8_lots_b57 (k57 : Int32 → Int64 → Int32 → zMem → Option (Int32 × zMem)) (x1 : Int32) (y3 : Int64) (x5 : Int32) (S : zMem) : Option (Int32 × zMem) := if x1 ≤ x5 then (zb (f_X4_allBonds 35 S) fun v1 S => some (v1, S)) else (zl (y3 * (48271 : Int64)) fun v2 => zl (v2 - v2 / (2147483647 : Int64) * (2147483647 : Int64)) fun v3 => zl (Int64.toInt32 v3) fun v4 => zb (f_X8_performLot v4 S) fun v5 S => zl (x5 + (1 : Int32)) fun v6 => k57 x1 v3 v6 S)
def X8_lots_l57 : Nat → Int32 → Int64 → Int32 → zMem → Option (Int32 × zMem)
  | 0, _, _, _, _ => none
  | n + 1, x1, y3, x5, S => X8_lots_b57 (X8_lots_l57 n) x1 y3 x5 S
def X8_lots_b0 (x1 : Int32) (x2 : Int32) (S : zMem) : Option (Int32 × zMem) := if x1 < (1 : Int32) then (X8_lots_b25  S) else (if (20 : Int32) < x1 then (X8_lots_b25  S) else (if x2 < (1 : Int32) then (X8_lots_b25  S) else (zl (Int32.toInt64 x2) fun v1 => zl (lg_cmp v1 (2147483647 : Int64)) fun v2 => if v2 < 0 then (zb (f_X8_isPosted  S) fun v3 S => if v3 = 0 then (some ((-4 : Int32), S)) else (zb (f_X4_spareDeeds 35 S) fun v4 S => if x1 ≤ v4 then (zl (Int32.toInt64 x2) fun v5 => X8_lots_l57 zF x1 v5 (0 : Int32) S) else (some ((-2 : Int32), S)))) else (X8_lots_b25  S))))
def f_X8_lots (x1 : Int32) (x2 : Int32) (S : zMem) : Option (Int32 × zMem) := X8_lots_b0 x1 x2 S
def X8_asked_b0 (S : zMem) : Option (Int32 × zMem) := zl (S.1 (0) 12) fun v1 => some (v1, S)
def f_X8_asked (S : zMem) : Option (Int32 × zMem) := X8_asked_b0  S
def X8_upper_b0 (S : zMem) : Option (Int64 × zMem) := zl (S.2 (0) 13) fun v1 => some (v1, S)
def f_X8_upper (S : zMem) : Option (Int64 × zMem) := X8_upper_b0  S
def X8_lower_b0 (S : zMem) : Option (Int64 × zMem) := zl (S.2 (0) 14) fun v1 => some (v1, S)
def f_X8_lower (S : zMem) : Option (Int64 × zMem) := X8_lower_b0  S
def X6_lettersOf_b31 (k4 : Int32 → Int32 → Int32 → zMem → Option (Int32 × zMem)) (x1 : Int32) (x3 : Int32) (s0 : Int32) (s1 : Int32) (S : zMem) : Option (Int32 × zMem) := zl (s0 + s1) fun v1 => zl (x3 + (1 : Int32)) fun v2 => k4 x1 v1 v2 S
def X6_lettersOf_b4 (k4 : Int32 → Int32 → Int32 → zMem → Option (Int32 × zMem)) (x1 : Int32) (x2 : Int32) (x3 : Int32) (S : zMem) : Option (Int32 × zMem) := zl (S.1 (24) 5) fun v1 => if v1 ≤ x3 then (some (x2, S)) else (zc (zi x3 6) (zl (S.1 (26) (Int32.toNatClampNeg x3)) fun v2 => zb (f_X1_isOf v2 x1 S) fun v3 S => if v3 = 0 then (X6_lettersOf_b31 k4 x1 x3 x2 (0 : Int32) S) else (X6_lettersOf_b31 k4 x1 x3 x2 (1 : Int32) S)))
def X6_lettersOf_l4 : Nat → Int32 → Int32 → Int32 → zMem → Option (Int32 × zMem)
  | 0, _, _, _, _ => none
  | n + 1, x1, x2, x3, S => X6_lettersOf_b4 (X6_lettersOf_l4 n) x1 x2 x3 S
def X6_lettersOf_b0 (x1 : Int32) (S : zMem) : Option (Int32 × zMem) := X6_lettersOf_l4 zF x1 (0 : Int32) (0 : Int32) S
def f_X6_lettersOf (x1 : Int32) (S : zMem) : Option (Int32 × zMem) := X6_lettersOf_b0 x1 S
def X8_howManyThere_b36 (k10 : Int32 → Nat → Int32 → Int32 → zMem → Option (Int32 × zMem)) (c2 : Nat) (x3 : Int32) (x4 : Int32) (s0 : Int32) (s1 : Int32) (S : zMem) : Option (Int32 × zMem) := zl (s0 + s1) fun v1 => zl (x4 + (1 : Int32)) fun v2 => k10 v1 c2 x3 v2 S
def X8_howManyThere_b10 (k10 : Int32 → Nat → Int32 → Int32 → zMem → Option (Int32 × zMem)) (x1 : Int32) (c2 : Nat) (x3 : Int32) (x4 : Int32) (S : zMem) : Option (Int32 × zMem) := if x3 ≤ x4 then (some (x1, S)) else (zc (zi x4 (lnC (c2))) (zb (f_X7_isThere (rfC c2 (Int32.toNatClampNeg x4)) S) fun v2 S => if v2 = 0 then (X8_howManyThere_b36 k10 c2 x3 x4 x1 (0 : Int32) S) else (X8_howManyThere_b36 k10 c2 x3 x4 x1 (1 : Int32) S)))
def X8_howManyThere_l10 : Nat → Int32 → Nat → Int32 → Int32 → zMem → Option (Int32 × zMem)
  | 0, _, _, _, _, _ => none
  | n + 1, x1, c2, x3, x4, S => X8_howManyThere_b10 (X8_howManyThere_l10 n) x1 c2 x3 x4 S
def X8_howManyThere_b0 (c0 : Nat) (S : zMem) : Option (Int32 × zMem) := X8_howManyThere_l10 zF (0 : Int32) c0 (Int32.ofNat (lnC (c0))) (0 : Int32) S
def f_X8_howManyThere (c0 : Nat) (S : zMem) : Option (Int32 × zMem) := X8_howManyThere_b0 c0 S
def X8_howManyKept_b39 (k13 : Int32 → Int32 → Int32 → zMem → Option (Int32 × zMem)) (x3 : Int32) (x4 : Int32) (s0 : Int32) (s1 : Int32) (S : zMem) : Option (Int32 × zMem) := zl (s0 + s1) fun v1 => zl (x4 + (1 : Int32)) fun v2 => k13 v1 x3 v2 S
def X8_howManyKept_b13 (k13 : Int32 → Int32 → Int32 → zMem → Option (Int32 × zMem)) (x1 : Int32) (x3 : Int32) (x4 : Int32) (S : zMem) : Option (Int32 × zMem) := if x3 ≤ x4 then (some (x1, S)) else (zc (zi x4 3) (zl (S.1 (45 + 5 * Int32.toNatClampNeg x4) 5) fun v2 => if v2 = 0 then (X8_howManyKept_b39 k13 x3 x4 x1 (0 : Int32) S) else (X8_howManyKept_b39 k13 x3 x4 x1 (1 : Int32) S)))
def X8_howManyKept_l13 : Nat → Int32 → Int32 → Int32 → zMem → Option (Int32 × zMem)
  | 0, _, _, _, _ => none
  | n + 1, x1, x3, x4, S => X8_howManyKept_b13 (X8_howManyKept_l13 n) x1 x3 x4 S
def X8_howManyKept_b0 (S : zMem) : Option (Int32 × zMem) := X8_howManyKept_l13 zF (0 : Int32) (3 : Int32) (0 : Int32) S
def f_X8_howManyKept (S : zMem) : Option (Int32 × zMem) := X8_howManyKept_b0  S
def X8_countOf_b0 (x1 : Int32) (S : zMem) : Option (Int32 × zMem) := if x1 = (0 : Int32) then (zl (S.1 (24) 4) fun v1 => some (v1, S)) else (if x1 = (1 : Int32) then (zl (S.1 (24) 5) fun v3 => some (v3, S)) else (if x1 = (2 : Int32) then (zl (S.1 (35) 7) fun v5 => some (v5, S)) else (if x1 = (3 : Int32) then (zl (S.1 (35) 6) fun v7 => some (v7, S)) else (if x1 = (4 : Int32) then (zl (S.1 (35) 8) fun v9 => some (v9, S)) else (if x1 = (5 : Int32) then (zl (S.1 (35) 9) fun v11 => some (v11, S)) else (if x1 = (6 : Int32) then (zl (S.1 (35) 10) fun v13 => some (v13, S)) else (if x1 = (7 : Int32) then (zl (S.1 (35) 11) fun v15 => some (v15, S)) else (if x1 = (8 : Int32) then (zb (f_X4_allBonds 35 S) fun v17 S => some (v17, S)) else (if x1 = (9 : Int32) then (zb (f_X6_lettersOf (1 : Int32) S) fun v19 S => some (v19, S)) else (if x1 = (10 : Int32) then (zb (f_X6_lettersOf (3 : Int32) S) fun v21 S => some (v21, S)) else (if x1 = (11 : Int32) then (zb (f_X8_howManyThere 1 S) fun v23 S => some (v23, S)) else (if x1 = (12 : Int32) then (zb (f_X8_howManyThere 2 S) fun v25 S => some (v25, S)) else (zb (f_X8_howManyKept  S) fun v27 S => some (v27, S))))))))))))))
def f_X8_countOf (x1 : Int32) (S : zMem) : Option (Int32 × zMem) := X8_countOf_b0 x1 S
def X8_count_b0 (x1 : Int32) (S : zMem) : Option (Int32 × zMem) := zb (f_X8_within x1 (13 : Int32) S) fun v1 S => if v1 = 0 then (some ((-1 : Int32), S)) else (zb (f_X8_countOf x1 S) fun v2 S => some (v2, S))
def f_X8_count (x1 : Int32) (S : zMem) : Option (Int32 × zMem) := X8_count_b0 x1 S
def X8_finding_b0 (S : zMem) : Option (Int32 × zMem) := zl (S.1 (0) 11) fun v1 => some (v1, S)
def f_X8_finding (S : zMem) : Option (Int32 × zMem) := X8_finding_b0  S
def X8_findings_b10 (S : zMem) : Option (Int32 × zMem) := some ((-1 : Int32), S)
def X8_findings_b0 (x1 : Int32) (S : zMem) : Option (Int32 × zMem) := if x1 < (1 : Int32) then (X8_findings_b10  S) else (if x1 ≤ (5 : Int32) then (zc (zi x1 6) (zl (S.1 (67) (Int32.toNatClampNeg x1)) fun v1 => some (v1, S))) else (X8_findings_b10  S))
def f_X8_findings (x1 : Int32) (S : zMem) : Option (Int32 × zMem) := X8_findings_b0 x1 S
def X7_mixedInto_b15 (k15 : Nat → Int64 → Int32 → zMem → Option (Int64 × zMem)) (c0 : Nat) (y3 : Int64) (x5 : Int32) (S : zMem) : Option (Int64 × zMem) := zl (S.1 (c0) 1) fun v1 => if v1 ≤ x5 then (some (y3, S)) else (zl ((31 : Int64) * y3) fun v2 => zc (zi x5 (lnC (c0 + 1))) (zl (S.1 (c0 + 1) (Int32.toNatClampNeg x5)) fun v3 => zl (Int32.toInt64 v3) fun v4 => zl (v2 + v4) fun v5 => zl (x5 + (1 : Int32)) fun v6 => k15 c0 v5 v6 S))
def X7_mixedInto_l15 : Nat → Nat → Int64 → Int32 → zMem → Option (Int64 × zMem)
  | 0, _, _, _, _ => none
  | n + 1, c0, y3, x5, S => X7_mixedInto_b15 (X7_mixedInto_l15 n) c0 y3 x5 S
def X7_mixedInto_b0 (c0 : Nat) (y1 : Int64) (S : zMem) : Option (Int64 × zMem) := zl ((31 : Int64) * y1) fun v1 => zl (S.1 (c0) 1) fun v2 => zl (Int32.toInt64 v2) fun v3 => zl (v1 + v3) fun v4 => X7_mixedInto_l15 zF c0 v4 (0 : Int32) S
def f_X7_mixedInto (c0 : Nat) (y1 : Int64) (S : zMem) : Option (Int64 × zMem) := X7_mixedInto_b0 c0 y1 S
def X8_digest_b47 (k33 : Int64 → Int32 → zMem → Option (Int64 × zMem)) (k47 : Int64 → Int32 → Int32 → zMem → Option (Int64 × zMem)) (y1 : Int64) (x3 : Int32) (x4 : Int32) (S : zMem) : Option (Int64 × zMem) := if (3 : Int32) ≤ x4 then (zl (x3 + (1 : Int32)) fun v1 => k33 y1 v1 S) else (zl ((31 : Int64) * y1) fun v2 => zb (f_X8_ofHouse x3 x4 S) fun v3 S => zl (Int32.toInt64 v3) fun v4 => zl (v2 + v4) fun v5 => zl (x4 + (1 : Int32)) fun v6 => k47 v5 x3 v6 S)
def X8_digest_l47 (k33 : Int64 → Int32 → zMem → Option (Int64 × zMem)) : Nat → Int64 → Int32 → Int32 → zMem → Option (Int64 × zMem)
  | 0, _, _, _, _ => none
  | n + 1, y1, x3, x4, S => X8_digest_b47 k33 (X8_digest_l47 k33 n) y1 x3 x4 S
def X8_digest_b96 (k82 : Int64 → Int32 → zMem → Option (Int64 × zMem)) (k96 : Int64 → Int32 → Int32 → zMem → Option (Int64 × zMem)) (y1 : Int64) (x3 : Int32) (x4 : Int32) (S : zMem) : Option (Int64 × zMem) := if (5 : Int32) ≤ x4 then (zl (x3 + (1 : Int32)) fun v1 => k82 y1 v1 S) else (zl ((31 : Int64) * y1) fun v2 => zb (f_X8_ofLetter x3 x4 S) fun v3 S => zl (Int32.toInt64 v3) fun v4 => zl (v2 + v4) fun v5 => zl (x4 + (1 : Int32)) fun v6 => k96 v5 x3 v6 S)
def X8_digest_l96 (k82 : Int64 → Int32 → zMem → Option (Int64 × zMem)) : Nat → Int64 → Int32 → Int32 → zMem → Option (Int64 × zMem)
  | 0, _, _, _, _ => none
  | n + 1, y1, x3, x4, S => X8_digest_b96 k82 (X8_digest_l96 k82 n) y1 x3 x4 S
def X8_digest_b176 (k141 : Int64 → Int32 → Int32 → zMem → Option (Int64 × zMem)) (x4 : Int32) (x5 : Int32) (s0 : Int64) (s1 : Int32) (S : zMem) : Option (Int64 × zMem) := zl (Int32.toInt64 s1) fun v1 => zl (s0 + v1) fun v2 => zl (x5 + (1 : Int32)) fun v3 => k141 v2 x4 v3 S
def X8_digest_b235 (k235 : Int64 → Int32 → Int32 → zMem → Option (Int64 × zMem)) (y1 : Int64) (x4 : Int32) (x5 : Int32) (S : zMem) : Option (Int64 × zMem) := if x4 ≤ x5 then (some (y1, S)) else (zc (zi x5 4) (zb (f_X7_mixedInto (16 + 2 * Int32.toNatClampNeg x5) y1 S) fun v2 S => zl (x5 + (1 : Int32)) fun v3 => k235 v2 x4 v3 S))
def X8_digest_l235 : Nat → Int64 → Int32 → Int32 → zMem → Option (Int64 × zMem)
  | 0, _, _, _, _ => none
  | n + 1, y1, x4, x5, S => X8_digest_b235 (X8_digest_l235 n) y1 x4 x5 S
def X8_digest_b197 (k197 : Int64 → Int32 → Int32 → zMem → Option (Int64 × zMem)) (y1 : Int64) (x4 : Int32) (x5 : Int32) (S : zMem) : Option (Int64 × zMem) := if x4 ≤ x5 then (X8_digest_l235 zF y1 (4 : Int32) (0 : Int32) S) else (zc (zi x5 6) (zb (f_X7_mixedInto (4 + 2 * Int32.toNatClampNeg x5) y1 S) fun v2 S => zl (x5 + (1 : Int32)) fun v3 => k197 v2 x4 v3 S))
def X8_digest_l197 : Nat → Int64 → Int32 → Int32 → zMem → Option (Int64 × zMem)
  | 0, _, _, _, _ => none
  | n + 1, y1, x4, x5, S => X8_digest_b197 (X8_digest_l197 n) y1 x4 x5 S
def X8_digest_b141 (k141 : Int64 → Int32 → Int32 → zMem → Option (Int64 × zMem)) (y1 : Int64) (x4 : Int32) (x5 : Int32) (S : zMem) : Option (Int64 × zMem) := if x4 ≤ x5 then (X8_digest_l197 zF y1 (6 : Int32) (0 : Int32) S) else (zc (zi x5 3) (zl ((31 : Int64) * y1) fun v2 => zl (S.1 (45 + 5 * Int32.toNatClampNeg x5) 5) fun v3 => if v3 = 0 then (X8_digest_b176 k141 x4 x5 v2 (-1 : Int32) S) else (zl (S.1 (45 + 5 * Int32.toNatClampNeg x5) 6) fun v4 => X8_digest_b176 k141 x4 x5 v2 v4 S)))
def X8_digest_l141 : Nat → Int64 → Int32 → Int32 → zMem → Option (Int64 × zMem)
  | 0, _, _, _, _ => none
  | n + 1, y1, x4, x5, S => X8_digest_b141 (X8_digest_l141 n) y1 x4 x5 S
def X8_digest_b82 (k82 : Int64 → Int32 → zMem → Option (Int64 × zMem)) (y1 : Int64) (x3 : Int32) (S : zMem) : Option (Int64 × zMem) := zl (S.1 (24) 5) fun v1 => if v1 ≤ x3 then (X8_digest_l141 zF y1 (3 : Int32) (0 : Int32) S) else (X8_digest_l96 k82 zF y1 x3 (0 : Int32) S)
def X8_digest_l82 : Nat → Int64 → Int32 → zMem → Option (Int64 × zMem)
  | 0, _, _, _ => none
  | n + 1, y1, x3, S => X8_digest_b82 (X8_digest_l82 n) y1 x3 S
def X8_digest_b33 (k33 : Int64 → Int32 → zMem → Option (Int64 × zMem)) (y1 : Int64) (x3 : Int32) (S : zMem) : Option (Int64 × zMem) := zl (S.1 (24) 4) fun v1 => if v1 ≤ x3 then (X8_digest_l82 zF y1 (0 : Int32) S) else (X8_digest_l47 k33 zF y1 x3 (0 : Int32) S)
def X8_digest_l33 : Nat → Int64 → Int32 → zMem → Option (Int64 × zMem)
  | 0, _, _, _ => none
  | n + 1, y1, x3, S => X8_digest_b33 (X8_digest_l33 n) y1 x3 S
def X8_digest_b6 (k6 : Int64 → Int32 → zMem → Option (Int64 × zMem)) (y1 : Int64) (x3 : Int32) (S : zMem) : Option (Int64 × zMem) := if (14 : Int32) ≤ x3 then (X8_digest_l33 zF y1 (0 : Int32) S) else (zl ((31 : Int64) * y1) fun v1 => zb (f_X8_countOf x3 S) fun v2 S => zl (Int32.toInt64 v2) fun v3 => zl (v1 + v3) fun v4 => zl (x3 + (1 : Int32)) fun v5 => k6 v4 v5 S)
def X8_digest_l6 : Nat → Int64 → Int32 → zMem → Option (Int64 × zMem)
  | 0, _, _, _ => none
  | n + 1, y1, x3, S => X8_digest_b6 (X8_digest_l6 n) y1 x3 S
def X8_digest_b0 (S : zMem) : Option (Int64 × zMem) := X8_digest_l6 zF (17 : Int64) (0 : Int32) S
def f_X8_digest (S : zMem) : Option (Int64 × zMem) := X8_digest_b0  S
def X9_in_b18 (s0 : Int32) (S : zMem) : Option (Int32 × zMem) := zc (zbo s0) (some (s0, S))
def X9_in_b17 (S : zMem) : Option (Int32 × zMem) := X9_in_b18 (0 : Int32) S
def X9_in_b0 (y0 : Int64) (y2 : Int64) (y4 : Int64) (S : zMem) : Option (Int32 × zMem) := zl (lg_cmp y0 y2) fun v1 => if v1 < 0 then (X9_in_b17  S) else (zl (lg_cmp y0 y4) fun v2 => if 0 < v2 then (X9_in_b17  S) else (X9_in_b18 (1 : Int32) S))
def f_X9_in (y0 : Int64) (y2 : Int64) (y4 : Int64) (S : zMem) : Option (Int32 × zMem) := X9_in_b0 y0 y2 y4 S
def X9_isRow_b0 (x0 : Int32) (S : zMem) : Option (Int32 × zMem) := zl (Int32.toInt64 x0) fun v1 => zb (f_X9_in v1 (0 : Int64) (5 : Int64) S) fun v2 S => zc (zbo v2) (some (v2, S))
def f_X9_isRow (x0 : Int32) (S : zMem) : Option (Int32 × zMem) := X9_isRow_b0 x0 S
def X9_find_b0 (x1 : Int32) (S : zMem) : Option (Int32 × zMem) := zl (zp S (0) (upd (S.1 (0)) 13 x1)) fun S => zc (zi x1 6) (zl (S.1 (9) (Int32.toNatClampNeg x1)) fun v1 => zl (v1 + (1 : Int32)) fun v2 => zc (zi x1 6) (zl (zp S (9) (upd (S.1 (9)) (Int32.toNatClampNeg x1) v2)) fun S => some ((-3 : Int32), S)))
def f_X9_find (x1 : Int32) (S : zMem) : Option (Int32 × zMem) := X9_find_b0 x1 S
def X9_makeRow_b9 (k9 : Int32 → Int32 → zMem → Option (Unit × zMem)) (x1 : Int32) (x3 : Int32) (S : zMem) : Option (Unit × zMem) := if (40 : Int32) ≤ x3 then (some ((), S)) else (zl ((40 : Int32) * x1) fun v1 => zl (v1 + x3) fun v2 => zc (zi v2 240) (zl (zp S (6) (upd (S.1 (6)) (Int32.toNatClampNeg v2) (0 : Int32))) fun S => zl (x3 + (1 : Int32)) fun v3 => k9 x1 v3 S))
def X9_makeRow_l9 : Nat → Int32 → Int32 → zMem → Option (Unit × zMem)
  | 0, _, _, _ => none
  | n + 1, x1, x3, S => X9_makeRow_b9 (X9_makeRow_l9 n) x1 x3 S
def X9_makeRow_b0 (x1 : Int32) (x2 : Int32) (S : zMem) : Option (Unit × zMem) := zc (zi x1 6) (zl (zp S (5) (upd (S.1 (5)) (Int32.toNatClampNeg x1) x2)) fun S => X9_makeRow_l9 zF x1 (0 : Int32) S)
def f_X9_makeRow (x1 : Int32) (x2 : Int32) (S : zMem) : Option (Unit × zMem) := X9_makeRow_b0 x1 x2 S
def X9_row_b13 (S : zMem) : Option (Int32 × zMem) := some ((-1 : Int32), S)
def X9_row_b0 (x1 : Int32) (x2 : Int32) (S : zMem) : Option (Int32 × zMem) := zb (f_X9_isRow x1 S) fun v1 S => if v1 = 0 then (X9_row_b13  S) else (if x2 ≤ (40 : Int32) then (if 0 ≤ x2 then (zb (f_X9_makeRow x1 x2 S) fun v2 S => some (x2, S)) else (zb (f_X9_find (5 : Int32) S) fun v3 S => some (v3, S))) else (X9_row_b13  S))
def f_X9_row (x1 : Int32) (x2 : Int32) (S : zMem) : Option (Int32 × zMem) := X9_row_b0 x1 x2 S
def X9_refused_b55 (s0 : Int32) (S : zMem) : Option (Int32 × zMem) := some (s0, S)
def X9_refused_b0 (x1 : Int32) (x2 : Int32) (S : zMem) : Option (Int32 × zMem) := zb (f_X9_isRow x1 S) fun v1 S => if v1 = 0 then (X9_refused_b55 (-1 : Int32) S) else (zc (zi x1 6) (zl (S.1 (5) (Int32.toNatClampNeg x1)) fun v2 => if 0 ≤ v2 then (zl (Int32.toInt64 x2) fun v3 => zc (zi x1 6) (zl (S.1 (5) (Int32.toNatClampNeg x1)) fun v4 => zl (v4 - (1 : Int32)) fun v5 => zl (Int32.toInt64 v5) fun v6 => zb (f_X9_in v3 (0 : Int64) v6 S) fun v7 S => if v7 = 0 then (zb (f_X9_find (2 : Int32) S) fun v8 S => X9_refused_b55 v8 S) else (X9_refused_b55 (0 : Int32) S))) else (zb (f_X9_find (1 : Int32) S) fun v9 S => X9_refused_b55 v9 S)))
def f_X9_refused (x1 : Int32) (x2 : Int32) (S : zMem) : Option (Int32 × zMem) := X9_refused_b0 x1 x2 S
def X9_tell_b0 (x1 : Int32) (S : zMem) : Option (Int32 × zMem) := zl (zp S (0) (upd (S.1 (0)) 10 x1)) fun S => some ((1 : Int32), S)
def f_X9_tell (x1 : Int32) (S : zMem) : Option (Int32 × zMem) := X9_tell_b0 x1 S
def X9_lay_b0 (x1 : Int32) (x2 : Int32) (x3 : Int32) (S : zMem) : Option (Int32 × zMem) := zb (f_X9_refused x1 x2 S) fun v1 S => if v1 = 0 then (zl ((40 : Int32) * x1) fun v2 => zl (v2 + x2) fun v3 => zc (zi v3 240) (zl (S.1 (6) (Int32.toNatClampNeg v3)) fun v4 => zl ((40 : Int32) * x1) fun v5 => zl (v5 + x2) fun v6 => zc (zi v6 240) (zl (zp S (6) (upd (S.1 (6)) (Int32.toNatClampNeg v6) x3)) fun S => zb (f_X9_tell v4 S) fun v7 S => some (v7, S)))) else (some (v1, S))
def f_X9_lay (x1 : Int32) (x2 : Int32) (x3 : Int32) (S : zMem) : Option (Int32 × zMem) := X9_lay_b0 x1 x2 x3 S
def X9_at_b30 (s0 : Int32) (S : zMem) : Option (Int32 × zMem) := some (s0, S)
def X9_at_b0 (x1 : Int32) (x2 : Int32) (S : zMem) : Option (Int32 × zMem) := zb (f_X9_refused x1 x2 S) fun v1 S => if v1 = 0 then (zl ((40 : Int32) * x1) fun v2 => zl (v2 + x2) fun v3 => zc (zi v3 240) (zl (S.1 (6) (Int32.toNatClampNeg v3)) fun v4 => zb (f_X9_tell v4 S) fun v5 S => X9_at_b30 v5 S)) else (X9_at_b30 v1 S)
def f_X9_at (x1 : Int32) (x2 : Int32) (S : zMem) : Option (Int32 × zMem) := X9_at_b0 x1 x2 S
def X9_tear_b0 (x1 : Int32) (S : zMem) : Option (Int32 × zMem) := zb (f_X9_isRow x1 S) fun v1 S => if v1 = 0 then (some ((-1 : Int32), S)) else (zc (zi x1 6) (zl (S.1 (5) (Int32.toNatClampNeg x1)) fun v2 => if 0 ≤ v2 then (zc (zi x1 6) (zl (zp S (5) (upd (S.1 (5)) (Int32.toNatClampNeg x1) (-1 : Int32))) fun S => some ((1 : Int32), S))) else (zb (f_X9_find (1 : Int32) S) fun v3 S => some (v3, S))))
def f_X9_tear (x1 : Int32) (S : zMem) : Option (Int32 × zMem) := X9_tear_b0 x1 S
def X9_isSpan_b25 (s0 : Int32) (S : zMem) : Option (Int32 × zMem) := zc (zbo s0) (some (s0, S))
def X9_isSpan_b24 (S : zMem) : Option (Int32 × zMem) := X9_isSpan_b25 (0 : Int32) S
def X9_isSpan_b0 (x1 : Int32) (x2 : Int32) (x3 : Int32) (S : zMem) : Option (Int32 × zMem) := if x2 < 0 then (X9_isSpan_b24  S) else (zl (Int32.toInt64 x2) fun v1 => zl (Int32.toInt64 x3) fun v2 => zl (v1 + v2) fun v3 => zc (zi x1 6) (zl (S.1 (5) (Int32.toNatClampNeg x1)) fun v4 => zl (Int32.toInt64 v4) fun v5 => zl (lg_cmp v3 v5) fun v6 => if 0 < v6 then (X9_isSpan_b24  S) else (X9_isSpan_b25 (1 : Int32) S)))
def f_X9_isSpan (x1 : Int32) (x2 : Int32) (x3 : Int32) (S : zMem) : Option (Int32 × zMem) := X9_isSpan_b0 x1 x2 x3 S
def X9_copy_b14 (S : zMem) : Option (Int32 × zMem) := some ((-1 : Int32), S)
def X9_copy_b45 (S : zMem) : Option (Int32 × zMem) := zb (f_X9_find (1 : Int32) S) fun v1 S => some (v1, S)
def X9_copy_b74 (S : zMem) : Option (Int32 × zMem) := zb (f_X9_find (2 : Int32) S) fun v1 S => some (v1, S)
def X9_copy_b120 (k96 : Int32 → Int32 → Int32 → Int32 → Int32 → Int32 → Int32 → zMem → Option (Int32 × zMem)) (x1 : Int32) (x2 : Int32) (x3 : Int32) (x4 : Int32) (x5 : Int32) (x6 : Int32) (x7 : Int32) (s0 : Int32) (S : zMem) : Option (Int32 × zMem) := zl ((40 : Int32) * x3) fun v1 => zl (v1 + x4) fun v2 => zl (v2 + s0) fun v3 => zl ((40 : Int32) * x1) fun v4 => zl (v4 + x2) fun v5 => zl (v5 + s0) fun v6 => zc (zi v6 240) (zl (S.1 (6) (Int32.toNatClampNeg v6)) fun v7 => zc (zi v3 240) (zl (zp S (6) (upd (S.1 (6)) (Int32.toNatClampNeg v3) v7)) fun S => zl (x7 + (1 : Int32)) fun v8 => k96 x1 x2 x3 x4 x5 x6 v8 S))
def X9_copy_b96 (k96 : Int32 → Int32 → Int32 → Int32 → Int32 → Int32 → Int32 → zMem → Option (Int32 × zMem)) (x1 : Int32) (x2 : Int32) (x3 : Int32) (x4 : Int32) (x5 : Int32) (x6 : Int32) (x7 : Int32) (S : zMem) : Option (Int32 × zMem) := if x5 ≤ x7 then (some ((1 : Int32), S)) else (if x6 = 0 then (X9_copy_b120 k96 x1 x2 x3 x4 x5 x6 x7 x7 S) else (zl (x5 - (1 : Int32)) fun v1 => zl (v1 - x7) fun v2 => X9_copy_b120 k96 x1 x2 x3 x4 x5 x6 x7 v2 S))
def X9_copy_l96 : Nat → Int32 → Int32 → Int32 → Int32 → Int32 → Int32 → Int32 → zMem → Option (Int32 × zMem)
  | 0, _, _, _, _, _, _, _, _ => none
  | n + 1, x1, x2, x3, x4, x5, x6, x7, S => X9_copy_b96 (X9_copy_l96 n) x1 x2 x3 x4 x5 x6 x7 S
def X9_copy_b91 (x1 : Int32) (x2 : Int32) (x3 : Int32) (x4 : Int32) (x5 : Int32) (s0 : Int32) (S : zMem) : Option (Int32 × zMem) := X9_copy_l96 zF x1 x2 x3 x4 x5 s0 (0 : Int32) S
def X9_copy_b0 (x1 : Int32) (x2 : Int32) (x3 : Int32) (x4 : Int32) (x5 : Int32) (S : zMem) : Option (Int32 × zMem) := zb (f_X9_isRow x1 S) fun v1 S => if v1 = 0 then (X9_copy_b14  S) else (zb (f_X9_isRow x3 S) fun v2 S => if v2 = 0 then (X9_copy_b14  S) else (if 0 ≤ x5 then (zc (zi x1 6) (zl (S.1 (5) (Int32.toNatClampNeg x1)) fun v3 => if v3 < 0 then (X9_copy_b45  S) else (zc (zi x3 6) (zl (S.1 (5) (Int32.toNatClampNeg x3)) fun v4 => if 0 ≤ v4 then (zb (f_X9_isSpan x1 x2 x5 S) fun v5 S => if v5 = 0 then (X9_copy_b74  S) else (zb (f_X9_isSpan x3 x4 x5 S) fun v6 S => if v6 = 0 then (X9_copy_b74  S) else (if x4 ≤ x2 then (X9_copy_b91 x1 x2 x3 x4 x5 (0 : Int32) S) else (X9_copy_b91 x1 x2 x3 x4 x5 (1 : Int32) S)))) else (X9_copy_b45  S))))) else (zb (f_X9_find (5 : Int32) S) fun v7 S => some (v7, S))))
def f_X9_copy (x1 : Int32) (x2 : Int32) (x3 : Int32) (x4 : Int32) (x5 : Int32) (S : zMem) : Option (Int32 × zMem) := X9_copy_b0 x1 x2 x3 x4 x5 S
def X9_mean_b44 (k44 : Int32 → Int64 → Int32 → zMem → Option (Int32 × zMem)) (x1 : Int32) (y2 : Int64) (x4 : Int32) (S : zMem) : Option (Int32 × zMem) := zc (zi x1 6) (zl (S.1 (5) (Int32.toNatClampNeg x1)) fun v1 => if v1 ≤ x4 then (zc (zi x1 6) (zl (S.1 (5) (Int32.toNatClampNeg x1)) fun v2 => zl (Int32.toInt64 v2) fun v3 => zc (decide (¬ v3 = 0)) (zl (y2 / v3) fun v4 => zl (Int64.toInt32 v4) fun v5 => zb (f_X9_tell v5 S) fun v6 S => some (v6, S)))) else (zl ((40 : Int32) * x1) fun v7 => zl (v7 + x4) fun v8 => zc (zi v8 240) (zl (S.1 (6) (Int32.toNatClampNeg v8)) fun v9 => zl (Int32.toInt64 v9) fun v10 => zl (y2 + v10) fun v11 => zl (x4 + (1 : Int32)) fun v12 => k44 x1 v11 v12 S)))
def X9_mean_l44 : Nat → Int32 → Int64 → Int32 → zMem → Option (Int32 × zMem)
  | 0, _, _, _, _ => none
  | n + 1, x1, y2, x4, S => X9_mean_b44 (X9_mean_l44 n) x1 y2 x4 S
def X9_mean_b0 (x1 : Int32) (S : zMem) : Option (Int32 × zMem) := zb (f_X9_isRow x1 S) fun v1 S => if v1 = 0 then (some ((-1 : Int32), S)) else (zc (zi x1 6) (zl (S.1 (5) (Int32.toNatClampNeg x1)) fun v2 => if 0 ≤ v2 then (zc (zi x1 6) (zl (S.1 (5) (Int32.toNatClampNeg x1)) fun v3 => if v3 = 0 then (zb (f_X9_find (4 : Int32) S) fun v4 S => some (v4, S)) else (X9_mean_l44 zF x1 (0 : Int64) (0 : Int32) S))) else (zb (f_X9_find (1 : Int32) S) fun v5 S => some (v5, S))))
def f_X9_mean (x1 : Int32) (S : zMem) : Option (Int32 × zMem) := X9_mean_b0 x1 S
def X9_isText_b0 (x0 : Int32) (S : zMem) : Option (Int32 × zMem) := zl (Int32.toInt64 x0) fun v1 => zb (f_X9_in v1 (0 : Int64) (3 : Int64) S) fun v2 S => zc (zbo v2) (some (v2, S))
def f_X9_isText (x0 : Int32) (S : zMem) : Option (Int32 × zMem) := X9_isText_b0 x0 S
def X9_text_b13 (S : zMem) : Option (Int32 × zMem) := some ((-1 : Int32), S)
def X9_text_b34 (k34 : Int32 → Int32 → Int32 → zMem → Option (Int32 × zMem)) (x1 : Int32) (x2 : Int32) (x3 : Int32) (S : zMem) : Option (Int32 × zMem) := if (60 : Int32) ≤ x3 then (some (x2, S)) else (zl ((60 : Int32) * x1) fun v1 => zl (v1 + x3) fun v2 => zc (zi v2 240) (zl (zp S (8) (upd (S.1 (8)) (Int32.toNatClampNeg v2) (32 : Int32))) fun S => zl (x3 + (1 : Int32)) fun v3 => k34 x1 x2 v3 S))
def X9_text_l34 : Nat → Int32 → Int32 → Int32 → zMem → Option (Int32 × zMem)
  | 0, _, _, _, _ => none
  | n + 1, x1, x2, x3, S => X9_text_b34 (X9_text_l34 n) x1 x2 x3 S
def X9_text_b0 (x1 : Int32) (x2 : Int32) (S : zMem) : Option (Int32 × zMem) := zb (f_X9_isText x1 S) fun v1 S => if v1 = 0 then (X9_text_b13  S) else (if x2 ≤ (60 : Int32) then (if 0 ≤ x2 then (zc (zi x1 4) (zl (zp S (7) (upd (S.1 (7)) (Int32.toNatClampNeg x1) x2)) fun S => X9_text_l34 zF x1 x2 (0 : Int32) S)) else (zb (f_X9_find (5 : Int32) S) fun v2 S => some (v2, S))) else (X9_text_b13  S))
def f_X9_text (x1 : Int32) (x2 : Int32) (S : zMem) : Option (Int32 × zMem) := X9_text_b0 x1 x2 S
def X9_put_b0 (x1 : Int32) (x2 : Int32) (x3 : Int32) (S : zMem) : Option (Int32 × zMem) := zb (f_X9_isText x1 S) fun v1 S => if v1 = 0 then (some ((-1 : Int32), S)) else (zc (zi x1 4) (zl (S.1 (7) (Int32.toNatClampNeg x1)) fun v2 => if 0 ≤ v2 then (zl (Int32.toInt64 x2) fun v3 => zc (zi x1 4) (zl (S.1 (7) (Int32.toNatClampNeg x1)) fun v4 => zl (v4 - (1 : Int32)) fun v5 => zl (Int32.toInt64 v5) fun v6 => zb (f_X9_in v3 (0 : Int64) v6 S) fun v7 S => if v7 = 0 then (zb (f_X9_find (2 : Int32) S) fun v15 S => some (v15, S)) else (zl ((60 : Int32) * x1) fun v8 => zl (v8 + x2) fun v9 => zc (zi v9 240) (zl (S.1 (8) (Int32.toNatClampNeg v9)) fun v10 => zl ((60 : Int32) * x1) fun v11 => zl (v11 + x2) fun v12 => zl ((Int32.toInt8 x3).toInt32) fun v13 => zc (zi v12 240) (zl (zp S (8) (upd (S.1 (8)) (Int32.toNatClampNeg v12) v13)) fun S => zl (v10 + (1000 : Int32)) fun v14 => some (v14, S)))))) else (zb (f_X9_find (1 : Int32) S) fun v16 S => some (v16, S))))
def f_X9_put (x1 : Int32) (x2 : Int32) (x3 : Int32) (S : zMem) : Option (Int32 × zMem) := X9_put_b0 x1 x2 x3 S
def X9_here_b0 (S : zMem) : Option (Int32 × zMem) := zl (S.1 (0) 15) fun v1 => zl (S.1 (0) 16) fun v2 => zl (v1 + v2) fun v3 => zc (zi v3 240) (zl (S.1 (8) (Int32.toNatClampNeg v3)) fun v4 => some (v4, S))
def f_X9_here (S : zMem) : Option (Int32 × zMem) := X9_here_b0  S
def X9_skip_b33 (S : zMem) : Option (Unit × zMem) := some ((), S)
def X9_skip_b0 (k0 : zMem → Option (Unit × zMem)) (S : zMem) : Option (Unit × zMem) := zl (S.1 (0) 16) fun v1 => zl (S.1 (0) 17) fun v2 => if v2 ≤ v1 then (X9_skip_b33  S) else (zb (f_X9_here  S) fun v3 S => if v3 = (32 : Int32) then (zl (S.1 (0) 16) fun v4 => zl (v4 + (1 : Int32)) fun v5 => zl (zp S (0) (upd (S.1 (0)) 16 v5)) fun S => k0  S) else (X9_skip_b33  S))
def X9_skip_l0 : Nat → zMem → Option (Unit × zMem)
  | 0, _ => none
  | n + 1, S => X9_skip_b0 (X9_skip_l0 n)  S
def f_X9_skip (S : zMem) : Option (Unit × zMem) := X9_skip_l0 zF  S
def X9_figure_b30 (S : zMem) : Option (Int32 × zMem) := some ((-9 : Int32), S)
def X9_figure_b0 (x1 : Int32) (S : zMem) : Option (Int32 × zMem) := zl (S.1 (0) 16) fun v1 => zl (S.1 (0) 17) fun v2 => if v1 = v2 then (X9_figure_b30  S) else (zb (f_X9_here  S) fun v3 S => zl (Int32.toInt64 v3) fun v4 => zl ((48 : Int32) + x1) fun v5 => zl (Int32.toInt64 v5) fun v6 => zb (f_X9_in v4 (48 : Int64) v6 S) fun v7 S => if v7 = 0 then (X9_figure_b30  S) else (zl (S.1 (0) 16) fun v8 => zl (v8 + (1 : Int32)) fun v9 => zl (zp S (0) (upd (S.1 (0)) 16 v9)) fun S => zl (S.1 (0) 15) fun v10 => zl (S.1 (0) 16) fun v11 => zl (v10 + v11) fun v12 => zl (v12 - (1 : Int32)) fun v13 => zc (zi v13 240) (zl (S.1 (8) (Int32.toNatClampNeg v13)) fun v14 => zl (v14 - (48 : Int32)) fun v15 => some (v15, S))))
def f_X9_figure (x1 : Int32) (S : zMem) : Option (Int32 × zMem) := X9_figure_b0 x1 S
def X9_readsHead_b24 (S : zMem) : Option (Int32 × zMem) := zc (zbo (0 : Int32)) (some ((0 : Int32), S))
def X9_readsHead_b83 (s0 : Int32) (S : zMem) : Option (Int32 × zMem) := zc (zbo s0) (some (s0, S))
def X9_readsHead_b66 (s1 : Int32) (S : zMem) : Option (Int32 × zMem) := zl (zp S (0) (upd (S.1 (0)) 19 s1)) fun S => zl (S.1 (0) 19) fun v1 => if v1 = (-9 : Int32) then (X9_readsHead_b83 (0 : Int32) S) else (X9_readsHead_b83 (1 : Int32) S)
def X9_readsHead_b0 (S : zMem) : Option (Int32 × zMem) := zb (f_X9_skip  S) fun v1 S => zl (S.1 (0) 16) fun v2 => zl (S.1 (0) 17) fun v3 => if v2 = v3 then (X9_readsHead_b24  S) else (zb (f_X9_here  S) fun v4 S => if v4 = (112 : Int32) then (zl (S.1 (0) 16) fun v5 => zl (v5 + (1 : Int32)) fun v6 => zl (zp S (0) (upd (S.1 (0)) 16 v6)) fun S => zb (f_X9_figure (9 : Int32) S) fun v7 S => zl (zp S (0) (upd (S.1 (0)) 18 v7)) fun S => zl (S.1 (0) 18) fun v8 => if v8 = (-9 : Int32) then (X9_readsHead_b66 (-9 : Int32) S) else (zb (f_X9_figure (2 : Int32) S) fun v9 S => X9_readsHead_b66 v9 S)) else (X9_readsHead_b24  S))
def f_X9_readsHead (S : zMem) : Option (Int32 × zMem) := X9_readsHead_b0  S
def X9_twoFigures_b29 (x1 : Int32) (x2 : Int32) (x3 : Int32) (s0 : Int32) (S : zMem) : Option (Int32 × zMem) := if s0 = (-9 : Int32) then (some ((-9 : Int32), S)) else (zl ((10 : Int32) * x3) fun v1 => zl (v1 + s0) fun v2 => if v2 ≤ x1 then (zl ((10 : Int32) * x3) fun v3 => zl (v3 + s0) fun v4 => some (v4, S)) else (zl (zp S (0) (upd (S.1 (0)) 16 x2)) fun S => some ((-9 : Int32), S)))
def X9_twoFigures_b0 (x1 : Int32) (S : zMem) : Option (Int32 × zMem) := zl (S.1 (0) 16) fun v1 => zb (f_X9_figure (9 : Int32) S) fun v2 S => if v2 = (-9 : Int32) then (X9_twoFigures_b29 x1 v1 v2 (-9 : Int32) S) else (zb (f_X9_figure (9 : Int32) S) fun v3 S => X9_twoFigures_b29 x1 v1 v2 v3 S)
def f_X9_twoFigures (x1 : Int32) (S : zMem) : Option (Int32 × zMem) := X9_twoFigures_b0 x1 S
def X9_readsHouse_b16 (S : zMem) : Option (Int32 × zMem) := zc (zbo (0 : Int32)) (some ((0 : Int32), S))
def X9_readsHouse_b0 (S : zMem) : Option (Int32 × zMem) := zl (S.1 (0) 20) fun v1 => if v1 = (6 : Int32) then (X9_readsHouse_b16  S) else (zl (S.1 (0) 22) fun v2 => if v2 ≤ 0 then (zl (S.1 (0) 16) fun v3 => zl (v3 + (1 : Int32)) fun v4 => zl (zp S (0) (upd (S.1 (0)) 16 v4)) fun S => zb (f_X9_twoFigures (20 : Int32) S) fun v5 S => if v5 = (-9 : Int32) then (zc (zbo (0 : Int32)) (some ((0 : Int32), S))) else (zl (S.1 (0) 20) fun v6 => zc (zi v6 6) (zl (zp S (10) (upd (S.1 (10)) (Int32.toNatClampNeg v6) v5)) fun S => zl (S.1 (0) 20) fun v7 => zl (v7 + (1 : Int32)) fun v8 => zl (zp S (0) (upd (S.1 (0)) 20 v8)) fun S => zc (zbo (1 : Int32)) (some ((1 : Int32), S))))) else (X9_readsHouse_b16  S))
def f_X9_readsHouse (S : zMem) : Option (Int32 × zMem) := X9_readsHouse_b0  S
def X9_kindOfLetter_b62 (s0 : Int32) (S : zMem) : Option (Int32 × zMem) := some (s0, S)
def X9_kindOfLetter_b0 (x0 : Int32) (S : zMem) : Option (Int32 × zMem) := if x0 = (108 : Int32) then (X9_kindOfLetter_b62 (0 : Int32) S) else (if x0 = (116 : Int32) then (X9_kindOfLetter_b62 (1 : Int32) S) else (if x0 = (98 : Int32) then (X9_kindOfLetter_b62 (2 : Int32) S) else (if x0 = (118 : Int32) then (X9_kindOfLetter_b62 (3 : Int32) S) else (if x0 = (107 : Int32) then (X9_kindOfLetter_b62 (4 : Int32) S) else (if x0 = (102 : Int32) then (X9_kindOfLetter_b62 (5 : Int32) S) else (X9_kindOfLetter_b62 (-9 : Int32) S))))))
def f_X9_kindOfLetter (x0 : Int32) (S : zMem) : Option (Int32 × zMem) := X9_kindOfLetter_b0 x0 S
def X9_readsLetter_b37 (S : zMem) : Option (Int32 × zMem) := zc (zbo (0 : Int32)) (some ((0 : Int32), S))
def X9_readsLetter_b77 (x1 : Int32) (x2 : Int32) (x3 : Int32) (s0 : Int32) (S : zMem) : Option (Int32 × zMem) := if s0 = (-9 : Int32) then (zc (zbo (0 : Int32)) (some ((0 : Int32), S))) else (zc (zi x1 18) (zl (zp S (11) (upd (S.1 (11)) (Int32.toNatClampNeg x1) x2)) fun S => zl (x1 + (1 : Int32)) fun v1 => zc (zi v1 18) (zl (zp S (11) (upd (S.1 (11)) (Int32.toNatClampNeg v1) x3)) fun S => zl (x1 + (2 : Int32)) fun v2 => zc (zi v2 18) (zl (zp S (11) (upd (S.1 (11)) (Int32.toNatClampNeg v2) s0)) fun S => zl (S.1 (0) 22) fun v3 => zl (v3 + (1 : Int32)) fun v4 => zl (zp S (0) (upd (S.1 (0)) 22 v4)) fun S => zc (zbo (1 : Int32)) (some ((1 : Int32), S))))))
def X9_readsLetter_b0 (S : zMem) : Option (Int32 × zMem) := zl (S.1 (0) 22) fun v1 => zl ((3 : Int32) * v1) fun v2 => zb (f_X9_here  S) fun v3 S => zb (f_X9_kindOfLetter v3 S) fun v4 S => if v4 = (-9 : Int32) then (X9_readsLetter_b37  S) else (zl (S.1 (0) 22) fun v5 => if v5 = (6 : Int32) then (X9_readsLetter_b37  S) else (zl (S.1 (0) 20) fun v6 => if v6 = 0 then (X9_readsLetter_b37  S) else (zl (S.1 (0) 16) fun v7 => zl (v7 + (1 : Int32)) fun v8 => zl (zp S (0) (upd (S.1 (0)) 16 v8)) fun S => zl (S.1 (0) 20) fun v9 => zl (v9 - (1 : Int32)) fun v10 => zb (f_X9_figure v10 S) fun v11 S => if v11 = (-9 : Int32) then (X9_readsLetter_b77 v2 v4 v11 (-9 : Int32) S) else (zb (f_X9_figure (9 : Int32) S) fun v12 S => X9_readsLetter_b77 v2 v4 v11 v12 S))))
def f_X9_readsLetter (S : zMem) : Option (Int32 × zMem) := X9_readsLetter_b0  S
def X9_faultOf_b81 (k46 : Int32 → zMem → Option (Int32 × zMem)) (s0 : Int32) (S : zMem) : Option (Int32 × zMem) := if s0 = 0 then (k46 s0 S) else (zb (f_X9_skip  S) fun v1 S => k46 s0 S)
def X9_faultOf_b113 (s0 : Int32) (S : zMem) : Option (Int32 × zMem) := some (s0, S)
def X9_faultOf_b109 (S : zMem) : Option (Int32 × zMem) := zl (S.1 (0) 16) fun v1 => X9_faultOf_b113 v1 S
def X9_faultOf_b93 (x2 : Int32) (S : zMem) : Option (Int32 × zMem) := if x2 = 0 then (X9_faultOf_b109  S) else (zl (S.1 (0) 22) fun v1 => if v1 ≤ 0 then (X9_faultOf_b109  S) else (X9_faultOf_b113 (-9 : Int32) S))
def X9_faultOf_b46 (k46 : Int32 → zMem → Option (Int32 × zMem)) (x2 : Int32) (S : zMem) : Option (Int32 × zMem) := if x2 = 0 then (X9_faultOf_b93 x2 S) else (zl (S.1 (0) 16) fun v1 => zl (S.1 (0) 17) fun v2 => if v2 ≤ v1 then (X9_faultOf_b93 x2 S) else (zb (f_X9_here  S) fun v3 S => if v3 = (104 : Int32) then (zb (f_X9_readsHouse  S) fun v5 S => X9_faultOf_b81 k46 v5 S) else (zb (f_X9_readsLetter  S) fun v4 S => X9_faultOf_b81 k46 v4 S)))
def X9_faultOf_l46 : Nat → Int32 → zMem → Option (Int32 × zMem)
  | 0, _, _ => none
  | n + 1, x2, S => X9_faultOf_b46 (X9_faultOf_l46 n) x2 S
def X9_faultOf_b0 (x1 : Int32) (S : zMem) : Option (Int32 × zMem) := zl ((60 : Int32) * x1) fun v1 => zl (zp S (0) (upd (S.1 (0)) 15 v1)) fun S => zl (zp S (0) (upd (S.1 (0)) 16 (0 : Int32))) fun S => zc (zi x1 4) (zl (S.1 (7) (Int32.toNatClampNeg x1)) fun v2 => zl (zp S (0) (upd (S.1 (0)) 17 v2)) fun S => zl (zp S (0) (upd (S.1 (0)) 20 (0 : Int32))) fun S => zl (zp S (0) (upd (S.1 (0)) 22 (0 : Int32))) fun S => zb (f_X9_readsHead  S) fun v3 S => if v3 = 0 then (X9_faultOf_l46 zF v3 S) else (zb (f_X9_skip  S) fun v4 S => X9_faultOf_l46 zF v3 S))
def f_X9_faultOf (x1 : Int32) (S : zMem) : Option (Int32 × zMem) := X9_faultOf_b0 x1 S
def X9_fault_b31 (s0 : Int32) (S : zMem) : Option (Int32 × zMem) := some (s0, S)
def X9_fault_b0 (x1 : Int32) (S : zMem) : Option (Int32 × zMem) := zb (f_X9_isText x1 S) fun v1 S => if v1 = 0 then (some ((-1 : Int32), S)) else (zc (zi x1 4) (zl (S.1 (7) (Int32.toNatClampNeg x1)) fun v2 => if 0 ≤ v2 then (zb (f_X9_faultOf x1 S) fun v3 S => X9_fault_b31 v3 S) else (zb (f_X9_find (1 : Int32) S) fun v4 S => X9_fault_b31 v4 S)))
def f_X9_fault (x1 : Int32) (S : zMem) : Option (Int32 × zMem) := X9_fault_b0 x1 S
def X9_post_b190 (k190 : Int32 → zMem → Option (Int32 × zMem)) (x2 : Int32) (S : zMem) : Option (Int32 × zMem) := if (4 : Int32) ≤ x2 then (zl (S.1 (0) 2) fun v1 => some (v1, S)) else (zl ((698 : Int32) * x2) fun v2 => zl (v2 + (0 : Int32)) fun v3 => zc (zi v3 2810) (zl (zp S (1) (upd (S.1 (1)) (Int32.toNatClampNeg v3) (-1 : Int32))) fun S => zl (x2 + (1 : Int32)) fun v4 => k190 v4 S))
def X9_post_l190 : Nat → Int32 → zMem → Option (Int32 × zMem)
  | 0, _, _ => none
  | n + 1, x2, S => X9_post_b190 (X9_post_l190 n) x2 S
def X9_post_b128 (k128 : Int32 → zMem → Option (Int32 × zMem)) (x2 : Int32) (S : zMem) : Option (Int32 × zMem) := zl (S.1 (0) 2) fun v1 => if v1 ≤ x2 then (X9_post_l190 zF (1 : Int32) S) else (zl ((3 : Int32) * x2) fun v2 => zc (zi v2 18) (zl (S.1 (11) (Int32.toNatClampNeg v2)) fun v3 => zc (zi x2 6) (zl (zp S (2) (upd (S.1 (2)) (Int32.toNatClampNeg x2) v3)) fun S => zl ((3 : Int32) * x2) fun v4 => zl (v4 + (1 : Int32)) fun v5 => zc (zi v5 18) (zl (S.1 (11) (Int32.toNatClampNeg v5)) fun v6 => zc (zi x2 6) (zl (zp S (3) (upd (S.1 (3)) (Int32.toNatClampNeg x2) v6)) fun S => zl ((3 : Int32) * x2) fun v7 => zl (v7 + (2 : Int32)) fun v8 => zc (zi v8 18) (zl (S.1 (11) (Int32.toNatClampNeg v8)) fun v9 => zc (zi x2 6) (zl (zp S (4) (upd (S.1 (4)) (Int32.toNatClampNeg x2) v9)) fun S => zl (x2 + (1 : Int32)) fun v10 => k128 v10 S)))))))
def X9_post_l128 : Nat → Int32 → zMem → Option (Int32 × zMem)
  | 0, _, _ => none
  | n + 1, x2, S => X9_post_b128 (X9_post_l128 n) x2 S
def X9_post_b97 (k97 : Int32 → zMem → Option (Int32 × zMem)) (x2 : Int32) (S : zMem) : Option (Int32 × zMem) := zl (S.1 (0) 1) fun v1 => if v1 ≤ x2 then (X9_post_l128 zF (0 : Int32) S) else (zl ((6 : Int32) + x2) fun v2 => zc (zi x2 6) (zl (S.1 (10) (Int32.toNatClampNeg x2)) fun v3 => zc (zi v2 2810) (zl (zp S (1) (upd (S.1 (1)) (Int32.toNatClampNeg v2) v3)) fun S => zl (x2 + (1 : Int32)) fun v4 => k97 v4 S)))
def X9_post_l97 : Nat → Int32 → zMem → Option (Int32 × zMem)
  | 0, _, _ => none
  | n + 1, x2, S => X9_post_b97 (X9_post_l97 n) x2 S
def X9_post_b39 (k39 : Int32 → zMem → Option (Int32 × zMem)) (x2 : Int32) (S : zMem) : Option (Int32 × zMem) := if (698 : Int32) ≤ x2 then (zl (S.1 (0) 18) fun v1 => zc (zi (2 : Int32) 2810) (zl (zp S (1) (upd (S.1 (1)) (Int32.toNatClampNeg (2 : Int32)) v1)) fun S => zl (S.1 (0) 19) fun v2 => zc (zi (3 : Int32) 2810) (zl (zp S (1) (upd (S.1 (1)) (Int32.toNatClampNeg (3 : Int32)) v2)) fun S => zl (S.1 (0) 20) fun v3 => zl (zp S (0) (upd (S.1 (0)) 1 v3)) fun S => zl (S.1 (0) 22) fun v4 => zl (zp S (0) (upd (S.1 (0)) 2 v4)) fun S => X9_post_l97 zF (0 : Int32) S))) else (zc (zi x2 2810) (zl (zp S (1) (upd (S.1 (1)) (Int32.toNatClampNeg x2) (0 : Int32))) fun S => zl (x2 + (1 : Int32)) fun v5 => k39 v5 S))
def X9_post_l39 : Nat → Int32 → zMem → Option (Int32 × zMem)
  | 0, _, _ => none
  | n + 1, x2, S => X9_post_b39 (X9_post_l39 n) x2 S
def X9_post_b0 (x1 : Int32) (S : zMem) : Option (Int32 × zMem) := zb (f_X9_isText x1 S) fun v1 S => if v1 = 0 then (some ((-1 : Int32), S)) else (zc (zi x1 4) (zl (S.1 (7) (Int32.toNatClampNeg x1)) fun v2 => if 0 ≤ v2 then (zb (f_X9_faultOf x1 S) fun v3 S => if v3 = (-9 : Int32) then (X9_post_l39 zF (0 : Int32) S) else (some ((-4 : Int32), S))) else (zb (f_X9_find (1 : Int32) S) fun v4 S => some (v4, S))))
def f_X9_post (x1 : Int32) (S : zMem) : Option (Int32 × zMem) := X9_post_b0 x1 S
def X9_isHouse_b0 (x1 : Int32) (S : zMem) : Option (Int32 × zMem) := zl (Int32.toInt64 x1) fun v1 => zl (S.1 (0) 1) fun v2 => zl (v2 - (1 : Int32)) fun v3 => zl (Int32.toInt64 v3) fun v4 => zb (f_X9_in v1 (0 : Int64) v4 S) fun v5 S => zc (zbo v5) (some (v5, S))
def f_X9_isHouse (x1 : Int32) (S : zMem) : Option (Int32 × zMem) := X9_isHouse_b0 x1 S
def X9_toHouse_b30 (k4 : Int32 → Int32 → Int32 → zMem → Option (Int32 × zMem)) (x1 : Int32) (x3 : Int32) (s0 : Int32) (s1 : Int32) (S : zMem) : Option (Int32 × zMem) := zl (s0 ||| s1) fun v1 => zl (x3 + (1 : Int32)) fun v2 => k4 x1 v1 v2 S
def X9_toHouse_b4 (k4 : Int32 → Int32 → Int32 → zMem → Option (Int32 × zMem)) (x1 : Int32) (x2 : Int32) (x3 : Int32) (S : zMem) : Option (Int32 × zMem) := zl (S.1 (0) 2) fun v1 => if v1 ≤ x3 then (some (x2, S)) else (zc (zi x3 6) (zl (S.1 (3) (Int32.toNatClampNeg x3)) fun v2 => if v2 = x1 then (zl ((1 : Int32) <<< (x3 &&& 31)) fun v3 => X9_toHouse_b30 k4 x1 x3 x2 v3 S) else (X9_toHouse_b30 k4 x1 x3 x2 (0 : Int32) S)))
def X9_toHouse_l4 : Nat → Int32 → Int32 → Int32 → zMem → Option (Int32 × zMem)
  | 0, _, _, _, _ => none
  | n + 1, x1, x2, x3, S => X9_toHouse_b4 (X9_toHouse_l4 n) x1 x2 x3 S
def X9_toHouse_b0 (x1 : Int32) (S : zMem) : Option (Int32 × zMem) := X9_toHouse_l4 zF x1 (0 : Int32) (0 : Int32) S
def f_X9_toHouse (x1 : Int32) (S : zMem) : Option (Int32 × zMem) := X9_toHouse_b0 x1 S
def X9_farFrom_b21 (s0 : Int32) (S : zMem) : Option (Int32 × zMem) := some (s0, S)
def X9_farFrom_b0 (x1 : Int32) (x2 : Int32) (S : zMem) : Option (Int32 × zMem) := zl (x1 + (4 : Int32)) fun v1 => zc (zi v1 2810) (zl (S.1 (1) (Int32.toNatClampNeg v1)) fun v2 => zl (v2 - x2) fun v3 => if 0 ≤ v3 then (X9_farFrom_b21 v3 S) else (zl (-v3) fun v4 => X9_farFrom_b21 v4 S))
def f_X9_farFrom (x1 : Int32) (x2 : Int32) (S : zMem) : Option (Int32 × zMem) := X9_farFrom_b0 x1 x2 S
def X9_houseTold_b35 (s0 : Int32) (S : zMem) : Option (Int32 × zMem) := some (s0, S)
def X9_houseTold_b0 (x1 : Int32) (x2 : Int32) (S : zMem) : Option (Int32 × zMem) := if x2 = 0 then (zl ((6 : Int32) + x1) fun v3 => zc (zi v3 2810) (zl (S.1 (1) (Int32.toNatClampNeg v3)) fun v4 => X9_houseTold_b35 v4 S)) else (if x2 = (1 : Int32) then (zb (f_X9_toHouse x1 S) fun v2 S => X9_houseTold_b35 v2 S) else (zb (f_X9_farFrom (0 : Int32) x1 S) fun v1 S => X9_houseTold_b35 v1 S))
def f_X9_houseTold (x1 : Int32) (x2 : Int32) (S : zMem) : Option (Int32 × zMem) := X9_houseTold_b0 x1 x2 S
def X9_house_b34 (s0 : Int32) (S : zMem) : Option (Int32 × zMem) := some (s0, S)
def X9_house_b33 (S : zMem) : Option (Int32 × zMem) := X9_house_b34 (-1 : Int32) S
def X9_house_b0 (x1 : Int32) (x2 : Int32) (S : zMem) : Option (Int32 × zMem) := zb (f_X9_isHouse x1 S) fun v1 S => if v1 = 0 then (X9_house_b33  S) else (zl (Int32.toInt64 x2) fun v2 => zb (f_X9_in v2 (0 : Int64) (2 : Int64) S) fun v3 S => if v3 = 0 then (X9_house_b33  S) else (zb (f_X9_houseTold x1 x2 S) fun v4 S => zb (f_X9_tell v4 S) fun v5 S => X9_house_b34 v5 S))
def f_X9_house (x1 : Int32) (x2 : Int32) (S : zMem) : Option (Int32 × zMem) := X9_house_b0 x1 x2 S
def X9_isLetter_b0 (x1 : Int32) (S : zMem) : Option (Int32 × zMem) := zl (Int32.toInt64 x1) fun v1 => zl (S.1 (0) 2) fun v2 => zl (v2 - (1 : Int32)) fun v3 => zl (Int32.toInt64 v3) fun v4 => zb (f_X9_in v1 (0 : Int64) v4 S) fun v5 S => zc (zbo v5) (some (v5, S))
def f_X9_isLetter (x1 : Int32) (S : zMem) : Option (Int32 × zMem) := X9_isLetter_b0 x1 S
def X9_has_b14 (s0 : Int32) (S : zMem) : Option (Int32 × zMem) := zc (zbo s0) (some (s0, S))
def X9_has_b0 (x0 : Int32) (x1 : Int32) (S : zMem) : Option (Int32 × zMem) := zl (x0 >>> (x1 &&& 31)) fun v1 => zl (v1 &&& (1 : Int32)) fun v2 => if v2 = (1 : Int32) then (X9_has_b14 (1 : Int32) S) else (X9_has_b14 (0 : Int32) S)
def f_X9_has (x0 : Int32) (x1 : Int32) (S : zMem) : Option (Int32 × zMem) := X9_has_b0 x0 x1 S
def X9_layTried_b2 (k2 : Int32 → zMem → Option (Unit × zMem)) (x1 : Int32) (S : zMem) : Option (Unit × zMem) := if (18 : Int32) ≤ x1 then (some ((), S)) else (zl ((2792 : Int32) + x1) fun v1 => zc (zi x1 2810) (zl (S.1 (1) (Int32.toNatClampNeg x1)) fun v2 => zc (zi v1 2810) (zl (zp S (1) (upd (S.1 (1)) (Int32.toNatClampNeg v1) v2)) fun S => zl (x1 + (1 : Int32)) fun v3 => k2 v3 S)))
def X9_layTried_l2 : Nat → Int32 → zMem → Option (Unit × zMem)
  | 0, _, _ => none
  | n + 1, x1, S => X9_layTried_b2 (X9_layTried_l2 n) x1 S
def X9_layTried_b0 (S : zMem) : Option (Unit × zMem) := X9_layTried_l2 zF (0 : Int32) S
def f_X9_layTried (S : zMem) : Option (Unit × zMem) := X9_layTried_b0  S
def X9_kept_b18 (s0 : Int32) (S : zMem) : Option (Int32 × zMem) := some (s0, S)
def X9_kept_b0 (x0 : Int32) (x1 : Int32) (S : zMem) : Option (Int32 × zMem) := if 0 ≤ x0 then (if x0 ≤ x1 then (X9_kept_b18 x0 S) else (X9_kept_b18 x1 S)) else (X9_kept_b18 (0 : Int32) S)
def f_X9_kept (x0 : Int32) (x1 : Int32) (S : zMem) : Option (Int32 × zMem) := X9_kept_b0 x0 x1 S
def X9_endsBy_b52 (s0 : Int32) (S : zMem) : Option (Int32 × zMem) := some (s0, S)
def X9_endsBy_b69 (s0 : Int32) (S : zMem) : Option (Int32 × zMem) := some (s0, S)
def X9_endsBy_b53 (x1 : Int32) (x2 : Int32) (S : zMem) : Option (Int32 × zMem) := zl (x1 + x2) fun v1 => if v1 ≤ (9 : Int32) then (zl (x1 + x2) fun v2 => X9_endsBy_b69 v2 S) else (X9_endsBy_b69 (9 : Int32) S)
def X9_endsBy_b80 (s0 : Int32) (S : zMem) : Option (Int32 × zMem) := some (s0, S)
def X9_endsBy_b0 (x0 : Int32) (x1 : Int32) (x2 : Int32) (S : zMem) : Option (Int32 × zMem) := zl (x1 + x2) fun v1 => zl (v1 / (2 : Int32)) fun v2 => if x0 = (1 : Int32) then (some (x1, S)) else (if x0 = (2 : Int32) then (if (5 : Int32) ≤ v2 then (X9_endsBy_b52 v2 S) else (X9_endsBy_b52 (5 : Int32) S)) else (if x0 = (3 : Int32) then (X9_endsBy_b53 x1 x2 S) else (if x0 = (4 : Int32) then (if (5 : Int32) ≤ x1 then (X9_endsBy_b80 x1 S) else (X9_endsBy_b80 (5 : Int32) S)) else (if x0 = (5 : Int32) then (X9_endsBy_b53 x1 x2 S) else (some (v2, S))))))
def f_X9_endsBy (x0 : Int32) (x1 : Int32) (x2 : Int32) (S : zMem) : Option (Int32 × zMem) := X9_endsBy_b0 x0 x1 x2 S
def X9_carries_b175 (x1 : Int32) (x2 : Int32) (x5 : Int32) (x6 : Int32) (s0 : Int32) (S : zMem) : Option (Int32 × zMem) := zl (x1 + (2 : Int32)) fun v1 => zl (x5 + s0) fun v2 => zb (f_X9_kept v2 (9 : Int32) S) fun v3 S => zc (zi v1 2810) (zl (zp S (1) (upd (S.1 (1)) (Int32.toNatClampNeg v1) v3)) fun S => zl (x1 + (5 : Int32)) fun v4 => zc (zi v4 2810) (zl (S.1 (1) (Int32.toNatClampNeg v4)) fun v5 => zl ((1 : Int32) <<< (x2 &&& 31)) fun v6 => zl (v5 ||| v6) fun v7 => zc (zi v4 2810) (zl (zp S (1) (upd (S.1 (1)) (Int32.toNatClampNeg v4) v7)) fun S => zl (x1 + (12 : Int32)) fun v8 => zl (v8 + x2) fun v9 => zc (zi v9 2810) (zl (zp S (1) (upd (S.1 (1)) (Int32.toNatClampNeg v9) x6)) fun S => some (x6, S)))))
def X9_carries_b45 (x1 : Int32) (x2 : Int32) (s0 : Int32) (S : zMem) : Option (Int32 × zMem) := zl (x1 + (2 : Int32)) fun v1 => zc (zi v1 2810) (zl (S.1 (1) (Int32.toNatClampNeg v1)) fun v2 => zl (v2 + s0) fun v3 => zb (f_X9_kept v3 (9 : Int32) S) fun v4 S => zc (zi x2 6) (zl (S.1 (2) (Int32.toNatClampNeg x2)) fun v5 => zc (zi x2 6) (zl (S.1 (4) (Int32.toNatClampNeg x2)) fun v6 => zb (f_X9_endsBy v5 v6 v4 S) fun v7 S => zl (x1 + (4 : Int32)) fun v8 => zc (zi x2 6) (zl (S.1 (3) (Int32.toNatClampNeg x2)) fun v9 => zc (zi v8 2810) (zl (zp S (1) (upd (S.1 (1)) (Int32.toNatClampNeg v8) v9)) fun S => zl (x1 + (6 : Int32)) fun v10 => zc (zi x2 6) (zl (S.1 (3) (Int32.toNatClampNeg x2)) fun v11 => zl (v10 + v11) fun v12 => zl (x1 + (6 : Int32)) fun v13 => zc (zi x2 6) (zl (S.1 (3) (Int32.toNatClampNeg x2)) fun v14 => zl (v13 + v14) fun v15 => zc (zi v15 2810) (zl (S.1 (1) (Int32.toNatClampNeg v15)) fun v16 => zl (v16 + v7) fun v17 => zl (v17 - (5 : Int32)) fun v18 => zb (f_X9_kept v18 (20 : Int32) S) fun v19 S => zc (zi v12 2810) (zl (zp S (1) (upd (S.1 (1)) (Int32.toNatClampNeg v12) v19)) fun S => zc (zi x2 6) (zl (S.1 (2) (Int32.toNatClampNeg x2)) fun v20 => if v20 = (5 : Int32) then (X9_carries_b175 x1 x2 v4 v7 (0 : Int32) S) else (if v7 ≤ (5 : Int32) then (if (4 : Int32) ≤ v7 then (X9_carries_b175 x1 x2 v4 v7 (0 : Int32) S) else (X9_carries_b175 x1 x2 v4 v7 (-1 : Int32) S)) else (X9_carries_b175 x1 x2 v4 v7 (1 : Int32) S))))))))))))
def X9_carries_b0 (x1 : Int32) (x2 : Int32) (S : zMem) : Option (Int32 × zMem) := zc (zi x2 6) (zl (S.1 (3) (Int32.toNatClampNeg x2)) fun v1 => zb (f_X9_farFrom x1 v1 S) fun v2 S => zl (x1 + (3 : Int32)) fun v3 => zc (zi v3 2810) (zl (S.1 (1) (Int32.toNatClampNeg v3)) fun v4 => if v4 = 0 then (zl (-v2) fun v7 => X9_carries_b45 x1 x2 v7 S) else (zl (x1 + (3 : Int32)) fun v5 => zc (zi v5 2810) (zl (S.1 (1) (Int32.toNatClampNeg v5)) fun v6 => if v6 = (2 : Int32) then (X9_carries_b45 x1 x2 v2 S) else (X9_carries_b45 x1 x2 (0 : Int32) S)))))
def f_X9_carries (x1 : Int32) (x2 : Int32) (S : zMem) : Option (Int32 × zMem) := X9_carries_b0 x1 x2 S
def X9_letterTold_b80 (s0 : Int32) (S : zMem) : Option (Int32 × zMem) := some (s0, S)
def X9_letterTold_b0 (x1 : Int32) (x2 : Int32) (S : zMem) : Option (Int32 × zMem) := if x2 = (0 : Int32) then (zc (zi x1 6) (zl (S.1 (2) (Int32.toNatClampNeg x1)) fun v1 => some (v1, S))) else (if x2 = (1 : Int32) then (zc (zi x1 6) (zl (S.1 (3) (Int32.toNatClampNeg x1)) fun v3 => some (v3, S))) else (if x2 = (2 : Int32) then (zc (zi x1 6) (zl (S.1 (4) (Int32.toNatClampNeg x1)) fun v5 => some (v5, S))) else (if x2 = (3 : Int32) then (zc (zi (5 : Int32) 2810) (zl (S.1 (1) (Int32.toNatClampNeg (5 : Int32))) fun v7 => zb (f_X9_has v7 x1 S) fun v8 S => if v8 = 0 then (X9_letterTold_b80 (-9 : Int32) S) else (zl ((12 : Int32) + x1) fun v9 => zc (zi v9 2810) (zl (S.1 (1) (Int32.toNatClampNeg v9)) fun v10 => X9_letterTold_b80 v10 S)))) else (zb (f_X9_layTried  S) fun v12 S => zb (f_X9_carries (2792 : Int32) x1 S) fun v13 S => some (v13, S)))))
def f_X9_letterTold (x1 : Int32) (x2 : Int32) (S : zMem) : Option (Int32 × zMem) := X9_letterTold_b0 x1 x2 S
def X9_letter_b34 (s0 : Int32) (S : zMem) : Option (Int32 × zMem) := some (s0, S)
def X9_letter_b33 (S : zMem) : Option (Int32 × zMem) := X9_letter_b34 (-1 : Int32) S
def X9_letter_b0 (x1 : Int32) (x2 : Int32) (S : zMem) : Option (Int32 × zMem) := zb (f_X9_isLetter x1 S) fun v1 S => if v1 = 0 then (X9_letter_b33  S) else (zl (Int32.toInt64 x2) fun v2 => zb (f_X9_in v2 (0 : Int64) (4 : Int64) S) fun v3 S => if v3 = 0 then (X9_letter_b33  S) else (zb (f_X9_letterTold x1 x2 S) fun v4 S => zb (f_X9_tell v4 S) fun v5 S => X9_letter_b34 v5 S))
def f_X9_letter (x1 : Int32) (x2 : Int32) (S : zMem) : Option (Int32 × zMem) := X9_letter_b0 x1 x2 S
def X9_isOf_b37 (s0 : Int32) (S : zMem) : Option (Int32 × zMem) := zc (zbo s0) (some (s0, S))
def X9_isOf_b32 (S : zMem) : Option (Int32 × zMem) := X9_isOf_b37 (1 : Int32) S
def X9_isOf_b36 (S : zMem) : Option (Int32 × zMem) := X9_isOf_b37 (0 : Int32) S
def X9_isOf_b22 (x2 : Int32) (x3 : Int32) (S : zMem) : Option (Int32 × zMem) := if x2 = (3 : Int32) then (if x3 = (5 : Int32) then (X9_isOf_b32  S) else (X9_isOf_b36  S)) else (X9_isOf_b36  S)
def X9_isOf_b0 (x1 : Int32) (x2 : Int32) (S : zMem) : Option (Int32 × zMem) := zc (zi x1 6) (zl (S.1 (2) (Int32.toNatClampNeg x1)) fun v1 => if v1 = x2 then (X9_isOf_b32  S) else (if x2 = (1 : Int32) then (if v1 = (4 : Int32) then (X9_isOf_b32  S) else (X9_isOf_b22 x2 v1 S)) else (X9_isOf_b22 x2 v1 S)))
def f_X9_isOf (x1 : Int32) (x2 : Int32) (S : zMem) : Option (Int32 × zMem) := X9_isOf_b0 x1 x2 S
def X9_mark_b20 (S : zMem) : Option (Int32 × zMem) := some ((-1 : Int32), S)
def X9_mark_b101 (s0 : Int32) (S : zMem) : Option (Int32 × zMem) := some (s0, S)
def X9_mark_b8 (x1 : Int32) (x2 : Int32) (S : zMem) : Option (Int32 × zMem) := zl (Int32.toInt64 x2) fun v1 => zb (f_X9_in v1 (1 : Int64) (5 : Int64) S) fun v2 S => if v2 = 0 then (X9_mark_b20  S) else (zb (f_X9_isOf x1 x2 S) fun v3 S => if v3 = 0 then (zb (f_X9_find (3 : Int32) S) fun v20 S => some (v20, S)) else (zc (zi (2 : Int32) 2810) (zl (S.1 (1) (Int32.toNatClampNeg (2 : Int32))) fun v4 => zc (zi x1 6) (zl (S.1 (4) (Int32.toNatClampNeg x1)) fun v5 => if x2 = (1 : Int32) then (if v4 ≤ v5 then (zl (v5 - v4) fun v6 => X9_mark_b101 v6 S) else (zl (v4 - v5) fun v7 => X9_mark_b101 v7 S)) else (if x2 = (2 : Int32) then (zb (f_X9_endsBy (2 : Int32) v5 v4 S) fun v9 S => zb (f_X9_endsBy (0 : Int32) v5 v4 S) fun v10 S => zl (v9 - v10) fun v11 => some (v11, S)) else (if x2 = (3 : Int32) then (zl ((9 : Int32) - v5) fun v13 => some (v13, S)) else (if x2 = (4 : Int32) then (zb (f_X9_endsBy (4 : Int32) v5 (0 : Int32) S) fun v15 S => zl (v15 - v5) fun v16 => some (v16, S)) else (zl ((9 : Int32) - v4) fun v18 => zb (f_X9_endsBy (5 : Int32) v5 v18 S) fun v19 S => some (v19, S)))))))))
def X9_mark_b0 (x1 : Int32) (x2 : Int32) (S : zMem) : Option (Int32 × zMem) := zb (f_X9_isLetter x1 S) fun v1 S => if v1 = 0 then (X9_mark_b20  S) else (X9_mark_b8 x1 x2 S)
def f_X9_mark (x1 : Int32) (x2 : Int32) (S : zMem) : Option (Int32 × zMem) := X9_mark_b0 x1 x2 S
def X9_keepPast_b2 (k2 : Int32 → zMem → Option (Unit × zMem)) (x1 : Int32) (S : zMem) : Option (Unit × zMem) := if (17 : Int32) ≤ x1 then (zc (zi (0 : Int32) 2810) (zl (S.1 (1) (Int32.toNatClampNeg (0 : Int32))) fun v1 => zl (v1 + (1 : Int32)) fun v2 => zc (zi (0 : Int32) 2810) (zl (zp S (1) (upd (S.1 (1)) (Int32.toNatClampNeg (0 : Int32)) v2)) fun S => some ((), S)))) else (zc (zi (0 : Int32) 2810) (zl (S.1 (1) (Int32.toNatClampNeg (0 : Int32))) fun v3 => zl ((17 : Int32) * v3) fun v4 => zl ((18 : Int32) + v4) fun v5 => zl (v5 + x1) fun v6 => zl ((1 : Int32) + x1) fun v7 => zc (zi v7 2810) (zl (S.1 (1) (Int32.toNatClampNeg v7)) fun v8 => zc (zi v6 2810) (zl (zp S (1) (upd (S.1 (1)) (Int32.toNatClampNeg v6) v8)) fun S => zl (x1 + (1 : Int32)) fun v9 => k2 v9 S))))
def X9_keepPast_l2 : Nat → Int32 → zMem → Option (Unit × zMem)
  | 0, _, _ => none
  | n + 1, x1, S => X9_keepPast_b2 (X9_keepPast_l2 n) x1 S
def X9_keepPast_b0 (S : zMem) : Option (Unit × zMem) := X9_keepPast_l2 zF (0 : Int32) S
def f_X9_keepPast (S : zMem) : Option (Unit × zMem) := X9_keepPast_b0  S
def X9_carry_b0 (x1 : Int32) (S : zMem) : Option (Int32 × zMem) := zb (f_X9_isLetter x1 S) fun v1 S => if v1 = 0 then (some ((-1 : Int32), S)) else (zc (zi (5 : Int32) 2810) (zl (S.1 (1) (Int32.toNatClampNeg (5 : Int32))) fun v2 => zb (f_X9_has v2 x1 S) fun v3 S => if v3 = 0 then (zc (zi (0 : Int32) 2810) (zl (S.1 (1) (Int32.toNatClampNeg (0 : Int32))) fun v4 => if v4 = (40 : Int32) then (some ((-2 : Int32), S)) else (zb (f_X9_keepPast  S) fun v5 S => zb (f_X9_carries (0 : Int32) x1 S) fun v6 S => some (v6, S)))) else (some ((-4 : Int32), S))))
def f_X9_carry (x1 : Int32) (S : zMem) : Option (Int32 × zMem) := X9_carry_b0 x1 S
def X9_bribe_b32 (S : zMem) : Option (Int32 × zMem) := some ((-4 : Int32), S)
def X9_bribe_b0 (x1 : Int32) (S : zMem) : Option (Int32 × zMem) := zl (Int32.toInt64 x1) fun v1 => zb (f_X9_in v1 (1 : Int64) (9 : Int64) S) fun v2 S => if v2 = 0 then (some ((-1 : Int32), S)) else (zl (S.1 (0) 2) fun v3 => if v3 = 0 then (X9_bribe_b32  S) else (zc (zi (2 : Int32) 2810) (zl (S.1 (1) (Int32.toNatClampNeg (2 : Int32))) fun v4 => if v4 = (9 : Int32) then (X9_bribe_b32  S) else (zc (zi (0 : Int32) 2810) (zl (S.1 (1) (Int32.toNatClampNeg (0 : Int32))) fun v5 => if v5 = (40 : Int32) then (some ((-2 : Int32), S)) else (zb (f_X9_keepPast  S) fun v6 S => zc (zi (2 : Int32) 2810) (zl (S.1 (1) (Int32.toNatClampNeg (2 : Int32))) fun v7 => zl (v7 + x1) fun v8 => zb (f_X9_kept v8 (9 : Int32) S) fun v9 S => zc (zi (2 : Int32) 2810) (zl (zp S (1) (upd (S.1 (1)) (Int32.toNatClampNeg (2 : Int32)) v9)) fun S => zc (zi (2 : Int32) 2810) (zl (S.1 (1) (Int32.toNatClampNeg (2 : Int32))) fun v10 => some (v10, S))))))))))
def f_X9_bribe (x1 : Int32) (S : zMem) : Option (Int32 × zMem) := X9_bribe_b0 x1 S
def X9_weather_b33 (S : zMem) : Option (Int32 × zMem) := some ((-4 : Int32), S)
def X9_weather_b0 (x1 : Int32) (S : zMem) : Option (Int32 × zMem) := zl (Int32.toInt64 x1) fun v1 => zb (f_X9_in v1 (0 : Int64) (2 : Int64) S) fun v2 S => if v2 = 0 then (some ((-1 : Int32), S)) else (zc (zi (3 : Int32) 2810) (zl (S.1 (1) (Int32.toNatClampNeg (3 : Int32))) fun v3 => zl (S.1 (0) 2) fun v4 => if v4 = 0 then (X9_weather_b33  S) else (if v3 = x1 then (X9_weather_b33  S) else (zc (zi (0 : Int32) 2810) (zl (S.1 (1) (Int32.toNatClampNeg (0 : Int32))) fun v5 => if v5 = (40 : Int32) then (some ((-2 : Int32), S)) else (zb (f_X9_keepPast  S) fun v6 S => zc (zi (3 : Int32) 2810) (zl (zp S (1) (upd (S.1 (1)) (Int32.toNatClampNeg (3 : Int32)) x1)) fun S => some (v3, S))))))))
def f_X9_weather (x1 : Int32) (S : zMem) : Option (Int32 × zMem) := X9_weather_b0 x1 S
def X9_bits_b4 (k4 : Int32 → Int32 → Int32 → zMem → Option (Int32 × zMem)) (x0 : Int32) (x1 : Int32) (x2 : Int32) (S : zMem) : Option (Int32 × zMem) := if (6 : Int32) ≤ x2 then (some (x1, S)) else (zl (x0 >>> (x2 &&& 31)) fun v1 => zl (v1 &&& (1 : Int32)) fun v2 => zl (x1 + v2) fun v3 => zl (x2 + (1 : Int32)) fun v4 => k4 x0 v3 v4 S)
def X9_bits_l4 : Nat → Int32 → Int32 → Int32 → zMem → Option (Int32 × zMem)
  | 0, _, _, _, _ => none
  | n + 1, x0, x1, x2, S => X9_bits_b4 (X9_bits_l4 n) x0 x1 x2 S
def X9_bits_b0 (x0 : Int32) (S : zMem) : Option (Int32 × zMem) := X9_bits_l4 zF x0 (0 : Int32) (0 : Int32) S
def f_X9_bits (x0 : Int32) (S : zMem) : Option (Int32 × zMem) := X9_bits_b0 x0 S
def X9_beginDay_b0 (x1 : Int32) (S : zMem) : Option (Unit × zMem) := zl (x1 + (4 : Int32)) fun v1 => zc (zi v1 2810) (zl (zp S (1) (upd (S.1 (1)) (Int32.toNatClampNeg v1) (0 : Int32))) fun S => zl (x1 + (5 : Int32)) fun v2 => zc (zi v2 2810) (zl (zp S (1) (upd (S.1 (1)) (Int32.toNatClampNeg v2) (0 : Int32))) fun S => zl (x1 + (1 : Int32)) fun v3 => zc (zi v3 2810) (zl (S.1 (1) (Int32.toNatClampNeg v3)) fun v4 => zl (v4 + (1 : Int32)) fun v5 => zc (zi v3 2810) (zl (zp S (1) (upd (S.1 (1)) (Int32.toNatClampNeg v3) v5)) fun S => some ((), S)))))
def f_X9_beginDay (x1 : Int32) (S : zMem) : Option (Unit × zMem) := X9_beginDay_b0 x1 S
def X9_day_b0 (S : zMem) : Option (Int32 × zMem) := zl (S.1 (0) 2) fun v1 => if v1 = 0 then (some ((-4 : Int32), S)) else (zc (zi (0 : Int32) 2810) (zl (S.1 (1) (Int32.toNatClampNeg (0 : Int32))) fun v2 => if v2 = (40 : Int32) then (some ((-2 : Int32), S)) else (zb (f_X9_keepPast  S) fun v3 S => zc (zi (5 : Int32) 2810) (zl (S.1 (1) (Int32.toNatClampNeg (5 : Int32))) fun v4 => zb (f_X9_bits v4 S) fun v5 S => zb (f_X9_beginDay (0 : Int32) S) fun v6 S => some (v5, S)))))
def f_X9_day (S : zMem) : Option (Int32 × zMem) := X9_day_b0  S
def X9_undo_b67 (x1 : Int32) (x2 : Int32) (S : zMem) : Option (Int32 × zMem) := zc (zi (0 : Int32) 2810) (zl (zp S (1) (upd (S.1 (1)) (Int32.toNatClampNeg (0 : Int32)) x1)) fun S => some (x2, S))
def X9_undo_b29 (k29 : Int32 → Int32 → Int32 → zMem → Option (Int32 × zMem)) (x1 : Int32) (x2 : Int32) (x3 : Int32) (S : zMem) : Option (Int32 × zMem) := if (17 : Int32) ≤ x3 then (X9_undo_b67 x1 x2 S) else (if x2 ≤ 0 then (X9_undo_b67 x1 x2 S) else (zl ((1 : Int32) + x3) fun v1 => zl ((17 : Int32) * x1) fun v2 => zl ((18 : Int32) + v2) fun v3 => zl (v3 + x3) fun v4 => zc (zi v4 2810) (zl (S.1 (1) (Int32.toNatClampNeg v4)) fun v5 => zc (zi v1 2810) (zl (zp S (1) (upd (S.1 (1)) (Int32.toNatClampNeg v1) v5)) fun S => zl (x3 + (1 : Int32)) fun v6 => k29 x1 x2 v6 S))))
def X9_undo_l29 : Nat → Int32 → Int32 → Int32 → zMem → Option (Int32 × zMem)
  | 0, _, _, _, _ => none
  | n + 1, x1, x2, x3, S => X9_undo_b29 (X9_undo_l29 n) x1 x2 x3 S
def X9_undo_b0 (x1 : Int32) (S : zMem) : Option (Int32 × zMem) := zl (Int32.toInt64 x1) fun v1 => zc (zi (0 : Int32) 2810) (zl (S.1 (1) (Int32.toNatClampNeg (0 : Int32))) fun v2 => zl (Int32.toInt64 v2) fun v3 => zb (f_X9_in v1 (0 : Int64) v3 S) fun v4 S => if v4 = 0 then (some ((-1 : Int32), S)) else (zc (zi (0 : Int32) 2810) (zl (S.1 (1) (Int32.toNatClampNeg (0 : Int32))) fun v5 => zl (v5 - x1) fun v6 => X9_undo_l29 zF x1 v6 (0 : Int32) S)))
def f_X9_undo (x1 : Int32) (S : zMem) : Option (Int32 × zMem) := X9_undo_b0 x1 S
def X9_copyPost_b2 (k2 : Int32 → Int32 → Int32 → zMem → Option (Unit × zMem)) (x1 : Int32) (x2 : Int32) (x3 : Int32) (S : zMem) : Option (Unit × zMem) := if (698 : Int32) ≤ x3 then (some ((), S)) else (zl (x2 + x3) fun v1 => zl (x1 + x3) fun v2 => zc (zi v2 2810) (zl (S.1 (1) (Int32.toNatClampNeg v2)) fun v3 => zc (zi v1 2810) (zl (zp S (1) (upd (S.1 (1)) (Int32.toNatClampNeg v1) v3)) fun S => zl (x3 + (1 : Int32)) fun v4 => k2 x1 x2 v4 S)))
def X9_copyPost_l2 : Nat → Int32 → Int32 → Int32 → zMem → Option (Unit × zMem)
  | 0, _, _, _, _ => none
  | n + 1, x1, x2, x3, S => X9_copyPost_b2 (X9_copyPost_l2 n) x1 x2 x3 S
def X9_copyPost_b0 (x1 : Int32) (x2 : Int32) (S : zMem) : Option (Unit × zMem) := X9_copyPost_l2 zF x1 x2 (0 : Int32) S
def f_X9_copyPost (x1 : Int32) (x2 : Int32) (S : zMem) : Option (Unit × zMem) := X9_copyPost_b0 x1 x2 S
def X9_keep_b0 (x1 : Int32) (S : zMem) : Option (Int32 × zMem) := zl (Int32.toInt64 x1) fun v1 => zb (f_X9_in v1 (0 : Int64) (2 : Int64) S) fun v2 S => if v2 = 0 then (some ((-1 : Int32), S)) else (zl (S.1 (0) 2) fun v3 => if v3 = 0 then (some ((-4 : Int32), S)) else (zl ((1 : Int32) + x1) fun v4 => zl ((698 : Int32) * v4) fun v5 => zb (f_X9_copyPost (0 : Int32) v5 S) fun v6 S => zc (zi (0 : Int32) 2810) (zl (S.1 (1) (Int32.toNatClampNeg (0 : Int32))) fun v7 => some (v7, S))))
def f_X9_keep (x1 : Int32) (S : zMem) : Option (Int32 × zMem) := X9_keep_b0 x1 S
def X9_on_b0 (x1 : Int32) (S : zMem) : Option (Int32 × zMem) := zl (Int32.toInt64 x1) fun v1 => zb (f_X9_in v1 (0 : Int64) (2 : Int64) S) fun v2 S => if v2 = 0 then (some ((-1 : Int32), S)) else (zl ((1 : Int32) + x1) fun v3 => zl ((698 : Int32) * v3) fun v4 => zl (v4 + (0 : Int32)) fun v5 => zc (zi v5 2810) (zl (S.1 (1) (Int32.toNatClampNeg v5)) fun v6 => if 0 ≤ v6 then (zl ((1 : Int32) + x1) fun v7 => zl ((698 : Int32) * v7) fun v8 => zb (f_X9_copyPost v8 (0 : Int32) S) fun v9 S => zc (zi (0 : Int32) 2810) (zl (S.1 (1) (Int32.toNatClampNeg (0 : Int32))) fun v10 => some (v10, S))) else (zb (f_X9_find (1 : Int32) S) fun v11 S => some (v11, S))))
def f_X9_on (x1 : Int32) (S : zMem) : Option (Int32 × zMem) := X9_on_b0 x1 S
def X9_ends_b47 (s0 : Int32) (S : zMem) : Option (Int32 × zMem) := some (s0, S)
def X9_ends_b46 (S : zMem) : Option (Int32 × zMem) := X9_ends_b47 (-1 : Int32) S
def X9_ends_b0 (x1 : Int32) (x2 : Int32) (x3 : Int32) (S : zMem) : Option (Int32 × zMem) := zb (f_X9_isLetter x1 S) fun v1 S => if v1 = 0 then (X9_ends_b46  S) else (zl (Int32.toInt64 x2) fun v2 => zb (f_X9_in v2 (0 : Int64) (9 : Int64) S) fun v3 S => if v3 = 0 then (X9_ends_b46  S) else (zl (Int32.toInt64 x3) fun v4 => zb (f_X9_in v4 (0 : Int64) (9 : Int64) S) fun v5 S => if v5 = 0 then (X9_ends_b46  S) else (zc (zi x1 6) (zl (S.1 (2) (Int32.toNatClampNeg x1)) fun v6 => zb (f_X9_endsBy v6 x2 x3 S) fun v7 S => X9_ends_b47 v7 S))))
def f_X9_ends (x1 : Int32) (x2 : Int32) (x3 : Int32) (S : zMem) : Option (Int32 × zMem) := X9_ends_b0 x1 x2 x3 S
def X9_bond_b0 (x1 : Int32) (S : zMem) : Option (Int32 × zMem) := zb (f_X9_isLetter x1 S) fun v1 S => if v1 = 0 then (some ((-1 : Int32), S)) else (zb (f_X9_layTried  S) fun v2 S => zb (f_X9_carries (2792 : Int32) x1 S) fun v3 S => zc (zi (2794 : Int32) 2810) (zl (S.1 (1) (Int32.toNatClampNeg (2794 : Int32))) fun v4 => zl (zp S (0) (upd (S.1 (0)) 10 v4)) fun S => zc (zi x1 6) (zl (S.1 (3) (Int32.toNatClampNeg x1)) fun v5 => zl ((2798 : Int32) + v5) fun v6 => zc (zi v6 2810) (zl (S.1 (1) (Int32.toNatClampNeg v6)) fun v7 => some (v7, S)))))
def f_X9_bond (x1 : Int32) (S : zMem) : Option (Int32 × zMem) := X9_bond_b0 x1 S
def X9_least_b20 (S : zMem) : Option (Int32 × zMem) := some ((-1 : Int32), S)
def X9_least_b24 (k24 : Int32 → Int32 → Int32 → zMem → Option (Int32 × zMem)) (x1 : Int32) (x2 : Int32) (x3 : Int32) (S : zMem) : Option (Int32 × zMem) := if (10 : Int32) ≤ x3 then (some ((-9 : Int32), S)) else (zb (f_X9_layTried  S) fun v1 S => zc (zi (2 : Int32) 2810) (zl (S.1 (1) (Int32.toNatClampNeg (2 : Int32))) fun v2 => zl (v2 + x3) fun v3 => zb (f_X9_kept v3 (9 : Int32) S) fun v4 S => zc (zi (2794 : Int32) 2810) (zl (zp S (1) (upd (S.1 (1)) (Int32.toNatClampNeg (2794 : Int32)) v4)) fun S => zb (f_X9_carries (2792 : Int32) x1 S) fun v5 S => if v5 < x2 then (zl (x3 + (1 : Int32)) fun v6 => k24 x1 x2 v6 S) else (some (x3, S)))))
def X9_least_l24 : Nat → Int32 → Int32 → Int32 → zMem → Option (Int32 × zMem)
  | 0, _, _, _, _ => none
  | n + 1, x1, x2, x3, S => X9_least_b24 (X9_least_l24 n) x1 x2 x3 S
def X9_least_b0 (x1 : Int32) (x2 : Int32) (S : zMem) : Option (Int32 × zMem) := zb (f_X9_isLetter x1 S) fun v1 S => if v1 = 0 then (X9_least_b20  S) else (zl (Int32.toInt64 x2) fun v2 => zb (f_X9_in v2 (0 : Int64) (9 : Int64) S) fun v3 S => if v3 = 0 then (X9_least_b20  S) else (X9_least_l24 zF x1 x2 (0 : Int32) S))
def f_X9_least (x1 : Int32) (x2 : Int32) (S : zMem) : Option (Int32 × zMem) := X9_least_b0 x1 x2 S
def X9_beginLine_b2 (k2 : Int32 → zMem → Option (Unit × zMem)) (x1 : Int32) (S : zMem) : Option (Unit × zMem) := if (6 : Int32) ≤ x1 then (some ((), S)) else (zc (zi x1 6) (zl (zp S (12) (upd (S.1 (12)) (Int32.toNatClampNeg x1) (0 : Int32))) fun S => zl (x1 + (1 : Int32)) fun v1 => k2 v1 S))
def X9_beginLine_l2 : Nat → Int32 → zMem → Option (Unit × zMem)
  | 0, _, _ => none
  | n + 1, x1, S => X9_beginLine_b2 (X9_beginLine_l2 n) x1 S
def X9_beginLine_b0 (S : zMem) : Option (Unit × zMem) := X9_beginLine_l2 zF (0 : Int32) S
def f_X9_beginLine (S : zMem) : Option (Unit × zMem) := X9_beginLine_b0  S
def X9_lettersOf_b43 (k7 : Int32 → Int32 → Int32 → Int32 → zMem → Option (Int32 × zMem)) (x1 : Int32) (x2 : Int32) (x4 : Int32) (s0 : Int32) (S : zMem) : Option (Int32 × zMem) := zc (zi x4 6) (zl (S.1 (12) (Int32.toNatClampNeg x4)) fun v1 => zl ((1 : Int32) <<< (v1 &&& 31)) fun v2 => zl (x2 ||| v2) fun v3 => zl (x4 + (1 : Int32)) fun v4 => k7 x1 v3 s0 v4 S)
def X9_lettersOf_b42 (k7 : Int32 → Int32 → Int32 → Int32 → zMem → Option (Int32 × zMem)) (x1 : Int32) (x2 : Int32) (x4 : Int32) (S : zMem) : Option (Int32 × zMem) := X9_lettersOf_b43 k7 x1 x2 x4 (0 : Int32) S
def X9_lettersOf_b71 (s0 : Int32) (S : zMem) : Option (Int32 × zMem) := some (s0, S)
def X9_lettersOf_b7 (k7 : Int32 → Int32 → Int32 → Int32 → zMem → Option (Int32 × zMem)) (x1 : Int32) (x2 : Int32) (x3 : Int32) (x4 : Int32) (S : zMem) : Option (Int32 × zMem) := if x1 ≤ x4 then (if x3 = 0 then (X9_lettersOf_b71 (-1 : Int32) S) else (X9_lettersOf_b71 x2 S)) else (if x3 = 0 then (X9_lettersOf_b42 k7 x1 x2 x4 S) else (zc (zi (5 : Int32) 2810) (zl (S.1 (1) (Int32.toNatClampNeg (5 : Int32))) fun v1 => zl (x2 ||| v1) fun v2 => zc (zi x4 6) (zl (S.1 (12) (Int32.toNatClampNeg x4)) fun v3 => zb (f_X9_has v2 v3 S) fun v4 S => if v4 = 0 then (X9_lettersOf_b43 k7 x1 x2 x4 (1 : Int32) S) else (X9_lettersOf_b42 k7 x1 x2 x4 S)))))
def X9_lettersOf_l7 : Nat → Int32 → Int32 → Int32 → Int32 → zMem → Option (Int32 × zMem)
  | 0, _, _, _, _, _ => none
  | n + 1, x1, x2, x3, x4, S => X9_lettersOf_b7 (X9_lettersOf_l7 n) x1 x2 x3 x4 S
def X9_lettersOf_b0 (x1 : Int32) (S : zMem) : Option (Int32 × zMem) := X9_lettersOf_l7 zF x1 (0 : Int32) (1 : Int32) (0 : Int32) S
def f_X9_lettersOf (x1 : Int32) (S : zMem) : Option (Int32 × zMem) := X9_lettersOf_b0 x1 S
def X9_endTogether_b8 (k8 : Int32 → Int32 → Int32 → zMem → Option (Int32 × zMem)) (x1 : Int32) (x2 : Int32) (x3 : Int32) (S : zMem) : Option (Int32 × zMem) := if x1 ≤ x3 then (some (x2, S)) else (zc (zi x3 6) (zl (S.1 (12) (Int32.toNatClampNeg x3)) fun v1 => zb (f_X9_carries (2792 : Int32) v1 S) fun v2 S => zl (x2 + v2) fun v3 => zl (x3 + (1 : Int32)) fun v4 => k8 x1 v3 v4 S))
def X9_endTogether_l8 : Nat → Int32 → Int32 → Int32 → zMem → Option (Int32 × zMem)
  | 0, _, _, _, _ => none
  | n + 1, x1, x2, x3, S => X9_endTogether_b8 (X9_endTogether_l8 n) x1 x2 x3 S
def X9_endTogether_b0 (x1 : Int32) (S : zMem) : Option (Int32 × zMem) := zb (f_X9_layTried  S) fun v1 S => X9_endTogether_l8 zF x1 (0 : Int32) (0 : Int32) S
def f_X9_endTogether (x1 : Int32) (S : zMem) : Option (Int32 × zMem) := X9_endTogether_b0 x1 S
def X9_keepLine_b2 (k2 : Int32 → Int32 → zMem → Option (Unit × zMem)) (x1 : Int32) (x2 : Int32) (S : zMem) : Option (Unit × zMem) := if x1 ≤ x2 then (some ((), S)) else (zc (zi x2 6) (zl (S.1 (12) (Int32.toNatClampNeg x2)) fun v1 => zc (zi x2 6) (zl (zp S (13) (upd (S.1 (13)) (Int32.toNatClampNeg x2) v1)) fun S => zl (x2 + (1 : Int32)) fun v2 => k2 x1 v2 S)))
def X9_keepLine_l2 : Nat → Int32 → Int32 → zMem → Option (Unit × zMem)
  | 0, _, _, _ => none
  | n + 1, x1, x2, S => X9_keepLine_b2 (X9_keepLine_l2 n) x1 x2 S
def X9_keepLine_b0 (x1 : Int32) (S : zMem) : Option (Unit × zMem) := X9_keepLine_l2 zF x1 (0 : Int32) S
def f_X9_keepLine (x1 : Int32) (S : zMem) : Option (Unit × zMem) := X9_keepLine_b0 x1 S
def X9_nextLine_b59 (s0 : Int32) (S : zMem) : Option (Int32 × zMem) := zc (zbo s0) (some (s0, S))
def X9_nextLine_b50 (x2 : Int32) (S : zMem) : Option (Int32 × zMem) := if x2 < 0 then (X9_nextLine_b59 (0 : Int32) S) else (X9_nextLine_b59 (1 : Int32) S)
def X9_nextLine_b36 (x2 : Int32) (S : zMem) : Option (Int32 × zMem) := if x2 < 0 then (X9_nextLine_b50 x2 S) else (zc (zi x2 6) (zl (S.1 (12) (Int32.toNatClampNeg x2)) fun v1 => zl (v1 + (1 : Int32)) fun v2 => zc (zi x2 6) (zl (zp S (12) (upd (S.1 (12)) (Int32.toNatClampNeg x2) v2)) fun S => X9_nextLine_b50 x2 S)))
def X9_nextLine_b4 (k4 : Int32 → zMem → Option (Int32 × zMem)) (x2 : Int32) (S : zMem) : Option (Int32 × zMem) := if x2 < 0 then (X9_nextLine_b36 x2 S) else (zc (zi x2 6) (zl (S.1 (12) (Int32.toNatClampNeg x2)) fun v1 => zl (S.1 (0) 2) fun v2 => zl (v2 - (1 : Int32)) fun v3 => if v1 = v3 then (zc (zi x2 6) (zl (zp S (12) (upd (S.1 (12)) (Int32.toNatClampNeg x2) (0 : Int32))) fun S => zl (x2 + (-1 : Int32)) fun v4 => k4 v4 S)) else (X9_nextLine_b36 x2 S)))
def X9_nextLine_l4 : Nat → Int32 → zMem → Option (Int32 × zMem)
  | 0, _, _ => none
  | n + 1, x2, S => X9_nextLine_b4 (X9_nextLine_l4 n) x2 S
def X9_nextLine_b0 (x1 : Int32) (S : zMem) : Option (Int32 × zMem) := zl (x1 - (1 : Int32)) fun v1 => X9_nextLine_l4 zF v1 S
def f_X9_nextLine (x1 : Int32) (S : zMem) : Option (Int32 × zMem) := X9_nextLine_b0 x1 S
def X9_tellLine_b8 (k8 : Int32 → Int32 → Int32 → zMem → Option (Unit × zMem)) (x1 : Int32) (x2 : Int32) (x3 : Int32) (S : zMem) : Option (Unit × zMem) := if x1 ≤ x3 then (some ((), S)) else (zl ((40 : Int32) * x2) fun v1 => zl (v1 + x3) fun v2 => zc (zi x3 6) (zl (S.1 (13) (Int32.toNatClampNeg x3)) fun v3 => zc (zi v2 240) (zl (zp S (6) (upd (S.1 (6)) (Int32.toNatClampNeg v2) v3)) fun S => zl (x3 + (1 : Int32)) fun v4 => k8 x1 x2 v4 S)))
def X9_tellLine_l8 : Nat → Int32 → Int32 → Int32 → zMem → Option (Unit × zMem)
  | 0, _, _, _, _ => none
  | n + 1, x1, x2, x3, S => X9_tellLine_b8 (X9_tellLine_l8 n) x1 x2 x3 S
def X9_tellLine_b0 (x1 : Int32) (x2 : Int32) (S : zMem) : Option (Unit × zMem) := zb (f_X9_makeRow x2 x1 S) fun v1 S => X9_tellLine_l8 zF x1 x2 (0 : Int32) S
def f_X9_tellLine (x1 : Int32) (x2 : Int32) (S : zMem) : Option (Unit × zMem) := X9_tellLine_b0 x1 x2 S
def X9_round_b25 (S : zMem) : Option (Int32 × zMem) := some ((-1 : Int32), S)
def X9_round_b97 (k56 : Int32 → Int32 → Int32 → Int32 → Int32 → zMem → Option (Int32 × zMem)) (x1 : Int32) (x2 : Int32) (x3 : Int32) (x4 : Int32) (S : zMem) : Option (Int32 × zMem) := zb (f_X9_nextLine x3 S) fun v1 S => k56 x1 x2 x3 x4 v1 S
def X9_round_b79 (k56 : Int32 → Int32 → Int32 → Int32 → Int32 → zMem → Option (Int32 × zMem)) (x1 : Int32) (x2 : Int32) (x3 : Int32) (x4 : Int32) (s0 : Int32) (S : zMem) : Option (Int32 × zMem) := if s0 ≤ x4 then (X9_round_b97 k56 x1 x2 x3 x4 S) else (zb (f_X9_keepLine x3 S) fun v1 S => X9_round_b97 k56 x1 x2 x3 s0 S)
def X9_round_b56 (k56 : Int32 → Int32 → Int32 → Int32 → Int32 → zMem → Option (Int32 × zMem)) (x1 : Int32) (x2 : Int32) (x3 : Int32) (x4 : Int32) (x5 : Int32) (S : zMem) : Option (Int32 × zMem) := if x5 = 0 then (zb (f_X9_tellLine x3 x2 S) fun v1 S => some (x4, S)) else (zb (f_X9_lettersOf x3 S) fun v2 S => if v2 = x1 then (zb (f_X9_endTogether x3 S) fun v3 S => X9_round_b79 k56 x1 x2 x3 x4 v3 S) else (X9_round_b79 k56 x1 x2 x3 x4 (-1 : Int32) S))
def X9_round_l56 : Nat → Int32 → Int32 → Int32 → Int32 → Int32 → zMem → Option (Int32 × zMem)
  | 0, _, _, _, _, _, _ => none
  | n + 1, x1, x2, x3, x4, x5, S => X9_round_b56 (X9_round_l56 n) x1 x2 x3 x4 x5 S
def X9_round_b0 (x1 : Int32) (x2 : Int32) (S : zMem) : Option (Int32 × zMem) := zl (Int32.toInt64 x1) fun v1 => zl (S.1 (0) 2) fun v2 => zl ((1 : Int32) <<< (v2 &&& 31)) fun v3 => zl (v3 - (1 : Int32)) fun v4 => zl (Int32.toInt64 v4) fun v5 => zb (f_X9_in v1 (0 : Int64) v5 S) fun v6 S => if v6 = 0 then (X9_round_b25  S) else (zb (f_X9_isRow x2 S) fun v7 S => if v7 = 0 then (X9_round_b25  S) else (zc (zi (5 : Int32) 2810) (zl (S.1 (1) (Int32.toNatClampNeg (5 : Int32))) fun v8 => zl (x1 &&& v8) fun v9 => if v9 = 0 then (zb (f_X9_bits x1 S) fun v10 S => zb (f_X9_beginLine  S) fun v11 S => X9_round_l56 zF x1 x2 v10 (-1 : Int32) (1 : Int32) S) else (some ((-4 : Int32), S)))))
def f_X9_round (x1 : Int32) (x2 : Int32) (S : zMem) : Option (Int32 × zMem) := X9_round_b0 x1 x2 S
def X9_plan_b27 (S : zMem) : Option (Int32 × zMem) := some ((-1 : Int32), S)
def X9_plan_b99 (k32 : Int32 → Int32 → Int32 → Int32 → zMem → Option (Int32 × zMem)) (k48 : Int32 → Int32 → Int32 → Int32 → Int32 → zMem → Option (Int32 × zMem)) (x1 : Int32) (x2 : Int32) (x3 : Int32) (x4 : Int32) (S : zMem) : Option (Int32 × zMem) := zb (f_X9_nextLine x4 S) fun v1 S => k48 x1 x2 x3 x4 v1 S
def X9_plan_b48 (k32 : Int32 → Int32 → Int32 → Int32 → zMem → Option (Int32 × zMem)) (k48 : Int32 → Int32 → Int32 → Int32 → Int32 → zMem → Option (Int32 × zMem)) (x1 : Int32) (x2 : Int32) (x3 : Int32) (x4 : Int32) (x5 : Int32) (S : zMem) : Option (Int32 × zMem) := if x5 = 0 then (zl (x4 + (1 : Int32)) fun v1 => k32 x1 x2 x3 v1 S) else (zb (f_X9_lettersOf x4 S) fun v2 S => if v2 < 0 then (X9_plan_b99 k32 k48 x1 x2 x3 x4 S) else (zb (f_X9_endTogether x4 S) fun v3 S => zl ((2798 : Int32) + x1) fun v4 => zc (zi v4 2810) (zl (S.1 (1) (Int32.toNatClampNeg v4)) fun v5 => if v5 < x2 then (X9_plan_b99 k32 k48 x1 x2 x3 x4 S) else (zb (f_X9_keepLine x4 S) fun v6 S => zb (f_X9_tellLine x4 x3 S) fun v7 S => some (x4, S)))))
def X9_plan_l48 (k32 : Int32 → Int32 → Int32 → Int32 → zMem → Option (Int32 × zMem)) : Nat → Int32 → Int32 → Int32 → Int32 → Int32 → zMem → Option (Int32 × zMem)
  | 0, _, _, _, _, _, _ => none
  | n + 1, x1, x2, x3, x4, x5, S => X9_plan_b48 k32 (X9_plan_l48 k32 n) x1 x2 x3 x4 x5 S
def X9_plan_b32 (k32 : Int32 → Int32 → Int32 → Int32 → zMem → Option (Int32 × zMem)) (x1 : Int32) (x2 : Int32) (x3 : Int32) (x4 : Int32) (S : zMem) : Option (Int32 × zMem) := zl (S.1 (0) 2) fun v1 => if v1 < x4 then (some ((-9 : Int32), S)) else (zb (f_X9_beginLine  S) fun v2 S => X9_plan_l48 k32 zF x1 x2 x3 x4 (1 : Int32) S)
def X9_plan_l32 : Nat → Int32 → Int32 → Int32 → Int32 → zMem → Option (Int32 × zMem)
  | 0, _, _, _, _, _ => none
  | n + 1, x1, x2, x3, x4, S => X9_plan_b32 (X9_plan_l32 n) x1 x2 x3 x4 S
def X9_plan_b0 (x1 : Int32) (x2 : Int32) (x3 : Int32) (S : zMem) : Option (Int32 × zMem) := zb (f_X9_isHouse x1 S) fun v1 S => if v1 = 0 then (X9_plan_b27  S) else (zl (Int32.toInt64 x2) fun v2 => zb (f_X9_in v2 (0 : Int64) (20 : Int64) S) fun v3 S => if v3 = 0 then (X9_plan_b27  S) else (zb (f_X9_isRow x3 S) fun v4 S => if v4 = 0 then (X9_plan_b27  S) else (X9_plan_l32 zF x1 x2 x3 (0 : Int32) S)))
def f_X9_plan (x1 : Int32) (x2 : Int32) (x3 : Int32) (S : zMem) : Option (Int32 × zMem) := X9_plan_b0 x1 x2 x3 S
def X9_noLetters_b109 (k40 : Int32 → Int32 → Int32 → Int32 → zMem → Option (Int32 × zMem)) (x1 : Int32) (x4 : Int32) (x5 : Int32) (s0 : Int32) (s1 : Int32) (S : zMem) : Option (Int32 × zMem) := zl (s0 ||| s1) fun v1 => zl (x5 + (1 : Int32)) fun v2 => k40 x1 v1 x4 v2 S
def X9_noLetters_b93 (k40 : Int32 → Int32 → Int32 → Int32 → zMem → Option (Int32 × zMem)) (x1 : Int32) (x3 : Int32) (x5 : Int32) (x6 : Int32) (s0 : Int32) (S : zMem) : Option (Int32 × zMem) := if s0 = 0 then (X9_noLetters_b109 k40 x1 s0 x5 x3 (0 : Int32) S) else (zl ((1 : Int32) <<< (x6 &&& 31)) fun v1 => X9_noLetters_b109 k40 x1 s0 x5 x3 v1 S)
def X9_noLetters_b92 (k40 : Int32 → Int32 → Int32 → Int32 → zMem → Option (Int32 × zMem)) (x1 : Int32) (x3 : Int32) (x5 : Int32) (x6 : Int32) (S : zMem) : Option (Int32 × zMem) := X9_noLetters_b93 k40 x1 x3 x5 x6 (0 : Int32) S
def X9_noLetters_b131 (s0 : Int32) (S : zMem) : Option (Int32 × zMem) := some (s0, S)
def X9_noLetters_b117 (x4 : Int32) (S : zMem) : Option (Int32 × zMem) := if x4 = 0 then (zb (f_X9_find (3 : Int32) S) fun v1 S => X9_noLetters_b131 v1 S) else (X9_noLetters_b131 (0 : Int32) S)
def X9_noLetters_b40 (k40 : Int32 → Int32 → Int32 → Int32 → zMem → Option (Int32 × zMem)) (x1 : Int32) (x3 : Int32) (x4 : Int32) (x5 : Int32) (S : zMem) : Option (Int32 × zMem) := zc (zi x1 6) (zl (S.1 (5) (Int32.toNatClampNeg x1)) fun v1 => if v1 ≤ x5 then (X9_noLetters_b117 x4 S) else (if x4 = 0 then (X9_noLetters_b117 x4 S) else (zl ((40 : Int32) * x1) fun v2 => zl (v2 + x5) fun v3 => zc (zi v3 240) (zl (S.1 (6) (Int32.toNatClampNeg v3)) fun v4 => zb (f_X9_isLetter v4 S) fun v5 S => if v5 = 0 then (X9_noLetters_b92 k40 x1 x3 x5 v4 S) else (zb (f_X9_has x3 v4 S) fun v6 S => if v6 = 0 then (X9_noLetters_b93 k40 x1 x3 x5 v4 (1 : Int32) S) else (X9_noLetters_b92 k40 x1 x3 x5 v4 S))))))
def X9_noLetters_l40 : Nat → Int32 → Int32 → Int32 → Int32 → zMem → Option (Int32 × zMem)
  | 0, _, _, _, _, _ => none
  | n + 1, x1, x3, x4, x5, S => X9_noLetters_b40 (X9_noLetters_l40 n) x1 x3 x4 x5 S
def X9_noLetters_b0 (x1 : Int32) (x2 : Int32) (S : zMem) : Option (Int32 × zMem) := zc (zi x1 6) (zl (S.1 (5) (Int32.toNatClampNeg x1)) fun v1 => if 0 ≤ v1 then (zc (zi x1 6) (zl (S.1 (5) (Int32.toNatClampNeg x1)) fun v2 => if v2 ≤ (6 : Int32) then (X9_noLetters_l40 zF x1 x2 (1 : Int32) (0 : Int32) S) else (zb (f_X9_find (5 : Int32) S) fun v3 S => some (v3, S)))) else (zb (f_X9_find (1 : Int32) S) fun v4 S => some (v4, S)))
def f_X9_noLetters (x1 : Int32) (x2 : Int32) (S : zMem) : Option (Int32 × zMem) := X9_noLetters_b0 x1 x2 S
def X9_rest_b27 (S : zMem) : Option (Int32 × zMem) := some ((-1 : Int32), S)
def X9_rest_b68 (k52 : Int32 → Int32 → Int32 → Int32 → zMem → Option (Int32 × zMem)) (k68 : Int32 → Int32 → Int32 → Int32 → Int32 → zMem → Option (Int32 × zMem)) (x1 : Int32) (x2 : Int32) (x3 : Int32) (x5 : Int32) (x6 : Int32) (S : zMem) : Option (Int32 × zMem) := zc (zi x3 6) (zl (S.1 (5) (Int32.toNatClampNeg x3)) fun v1 => if v1 ≤ x6 then (zl (x5 + (1 : Int32)) fun v2 => k52 x1 x2 x3 v2 S) else (zl ((40 : Int32) * x3) fun v3 => zl (v3 + x6) fun v4 => zc (zi v4 240) (zl (S.1 (6) (Int32.toNatClampNeg v4)) fun v5 => zb (f_X9_carries (2792 : Int32) v5 S) fun v6 S => zl (x6 + (1 : Int32)) fun v7 => k68 x1 x2 x3 x5 v7 S)))
def X9_rest_l68 (k52 : Int32 → Int32 → Int32 → Int32 → zMem → Option (Int32 × zMem)) : Nat → Int32 → Int32 → Int32 → Int32 → Int32 → zMem → Option (Int32 × zMem)
  | 0, _, _, _, _, _, _ => none
  | n + 1, x1, x2, x3, x5, x6, S => X9_rest_b68 k52 (X9_rest_l68 k52 n) x1 x2 x3 x5 x6 S
def X9_rest_b52 (k52 : Int32 → Int32 → Int32 → Int32 → zMem → Option (Int32 × zMem)) (x1 : Int32) (x2 : Int32) (x3 : Int32) (x5 : Int32) (S : zMem) : Option (Int32 × zMem) := if x2 ≤ x5 then (zl ((2798 : Int32) + x1) fun v1 => zc (zi v1 2810) (zl (S.1 (1) (Int32.toNatClampNeg v1)) fun v2 => some (v2, S))) else (zb (f_X9_beginDay (2792 : Int32) S) fun v3 S => X9_rest_l68 k52 zF x1 x2 x3 x5 (0 : Int32) S)
def X9_rest_l52 : Nat → Int32 → Int32 → Int32 → Int32 → zMem → Option (Int32 × zMem)
  | 0, _, _, _, _, _ => none
  | n + 1, x1, x2, x3, x5, S => X9_rest_b52 (X9_rest_l52 n) x1 x2 x3 x5 S
def X9_rest_b0 (x1 : Int32) (x2 : Int32) (x3 : Int32) (S : zMem) : Option (Int32 × zMem) := zb (f_X9_isHouse x1 S) fun v1 S => if v1 = 0 then (X9_rest_b27  S) else (zl (Int32.toInt64 x2) fun v2 => zb (f_X9_in v2 (0 : Int64) (20 : Int64) S) fun v3 S => if v3 = 0 then (X9_rest_b27  S) else (zb (f_X9_isRow x3 S) fun v4 S => if v4 = 0 then (X9_rest_b27  S) else (zb (f_X9_noLetters x3 (0 : Int32) S) fun v5 S => if v5 = 0 then (zb (f_X9_layTried  S) fun v6 S => X9_rest_l52 zF x1 x2 x3 (0 : Int32) S) else (some (v5, S)))))
def f_X9_rest (x1 : Int32) (x2 : Int32) (x3 : Int32) (S : zMem) : Option (Int32 × zMem) := X9_rest_b0 x1 x2 x3 S
def X9_noPairs_b38 (S : zMem) : Option (Int32 × zMem) := zb (f_X9_find (5 : Int32) S) fun v1 S => some (v1, S)
def X9_noPairs_b89 (k48 : Int32 → Int32 → Int32 → zMem → Option (Int32 × zMem)) (x1 : Int32) (x3 : Int32) (s0 : Int32) (S : zMem) : Option (Int32 × zMem) := zl (x3 + (1 : Int32)) fun v1 => k48 x1 s0 v1 S
def X9_noPairs_b88 (k48 : Int32 → Int32 → Int32 → zMem → Option (Int32 × zMem)) (x1 : Int32) (x3 : Int32) (S : zMem) : Option (Int32 × zMem) := X9_noPairs_b89 k48 x1 x3 (0 : Int32) S
def X9_noPairs_b109 (s0 : Int32) (S : zMem) : Option (Int32 × zMem) := some (s0, S)
def X9_noPairs_b48 (k48 : Int32 → Int32 → Int32 → zMem → Option (Int32 × zMem)) (x1 : Int32) (x2 : Int32) (x3 : Int32) (S : zMem) : Option (Int32 × zMem) := zc (zi x1 6) (zl (S.1 (5) (Int32.toNatClampNeg x1)) fun v1 => if v1 ≤ x3 then (if x2 = 0 then (zb (f_X9_find (3 : Int32) S) fun v2 S => X9_noPairs_b109 v2 S) else (X9_noPairs_b109 (0 : Int32) S)) else (if x2 = 0 then (X9_noPairs_b88 k48 x1 x3 S) else (zl ((40 : Int32) * x1) fun v3 => zl (v3 + x3) fun v4 => zc (zi v4 240) (zl (S.1 (6) (Int32.toNatClampNeg v4)) fun v5 => zl (Int32.toInt64 v5) fun v6 => zb (f_X9_in v6 (0 : Int64) (9 : Int64) S) fun v7 S => if v7 = 0 then (X9_noPairs_b88 k48 x1 x3 S) else (X9_noPairs_b89 k48 x1 x3 (1 : Int32) S)))))
def X9_noPairs_l48 : Nat → Int32 → Int32 → Int32 → zMem → Option (Int32 × zMem)
  | 0, _, _, _, _ => none
  | n + 1, x1, x2, x3, S => X9_noPairs_b48 (X9_noPairs_l48 n) x1 x2 x3 S
def X9_noPairs_b0 (x1 : Int32) (S : zMem) : Option (Int32 × zMem) := zc (zi x1 6) (zl (S.1 (5) (Int32.toNatClampNeg x1)) fun v1 => if 0 ≤ v1 then (zc (zi x1 6) (zl (S.1 (5) (Int32.toNatClampNeg x1)) fun v2 => if (16 : Int32) < v2 then (X9_noPairs_b38  S) else (zc (zi x1 6) (zl (S.1 (5) (Int32.toNatClampNeg x1)) fun v3 => zl (v3 - v3 / (2 : Int32) * (2 : Int32)) fun v4 => if v4 = (1 : Int32) then (X9_noPairs_b38  S) else (X9_noPairs_l48 zF x1 (1 : Int32) (0 : Int32) S))))) else (zb (f_X9_find (1 : Int32) S) fun v5 S => some (v5, S)))
def f_X9_noPairs (x1 : Int32) (S : zMem) : Option (Int32 × zMem) := X9_noPairs_b0 x1 S
def X9_isSo_b61 (k6 : Int32 → Int32 → Int32 → Int32 → Int32 → zMem → Option (Int32 × zMem)) (x1 : Int32) (x2 : Int32) (x3 : Int32) (x5 : Int32) (s0 : Int32) (S : zMem) : Option (Int32 × zMem) := zl (x5 + (2 : Int32)) fun v1 => k6 x1 x2 x3 s0 v1 S
def X9_isSo_b60 (k6 : Int32 → Int32 → Int32 → Int32 → Int32 → zMem → Option (Int32 × zMem)) (x1 : Int32) (x2 : Int32) (x3 : Int32) (x5 : Int32) (S : zMem) : Option (Int32 × zMem) := X9_isSo_b61 k6 x1 x2 x3 x5 (0 : Int32) S
def X9_isSo_b6 (k6 : Int32 → Int32 → Int32 → Int32 → Int32 → zMem → Option (Int32 × zMem)) (x1 : Int32) (x2 : Int32) (x3 : Int32) (x4 : Int32) (x5 : Int32) (S : zMem) : Option (Int32 × zMem) := zc (zi x3 6) (zl (S.1 (5) (Int32.toNatClampNeg x3)) fun v1 => if v1 ≤ x5 then (zc (zbo x4) (some (x4, S))) else (if x4 = 0 then (X9_isSo_b60 k6 x1 x2 x3 x5 S) else (zl ((40 : Int32) * x3) fun v2 => zl (v2 + x5) fun v3 => zc (zi v3 240) (zl (S.1 (6) (Int32.toNatClampNeg v3)) fun v4 => zb (f_X9_endsBy x1 x2 v4 S) fun v5 S => zl ((40 : Int32) * x3) fun v6 => zl (v6 + x5) fun v7 => zl (v7 + (1 : Int32)) fun v8 => zc (zi v8 240) (zl (S.1 (6) (Int32.toNatClampNeg v8)) fun v9 => if v5 = v9 then (X9_isSo_b61 k6 x1 x2 x3 x5 (1 : Int32) S) else (X9_isSo_b60 k6 x1 x2 x3 x5 S))))))
def X9_isSo_l6 : Nat → Int32 → Int32 → Int32 → Int32 → Int32 → zMem → Option (Int32 × zMem)
  | 0, _, _, _, _, _, _ => none
  | n + 1, x1, x2, x3, x4, x5, S => X9_isSo_b6 (X9_isSo_l6 n) x1 x2 x3 x4 x5 S
def X9_isSo_b0 (x1 : Int32) (x2 : Int32) (x3 : Int32) (S : zMem) : Option (Int32 × zMem) := X9_isSo_l6 zF x1 x2 x3 (1 : Int32) (0 : Int32) S
def f_X9_isSo (x1 : Int32) (x2 : Int32) (x3 : Int32) (S : zMem) : Option (Int32 × zMem) := X9_isSo_b0 x1 x2 x3 S
def X9_wordsBy_b37 (k5 : Int32 → Int32 → Int32 → Int32 → zMem → Option (Int32 × zMem)) (x1 : Int32) (x2 : Int32) (x4 : Int32) (s0 : Int32) (s1 : Int32) (S : zMem) : Option (Int32 × zMem) := zl (s0 ||| s1) fun v1 => zl (x4 + (1 : Int32)) fun v2 => k5 x1 x2 v1 v2 S
def X9_wordsBy_b5 (k5 : Int32 → Int32 → Int32 → Int32 → zMem → Option (Int32 × zMem)) (x1 : Int32) (x2 : Int32) (x3 : Int32) (x4 : Int32) (S : zMem) : Option (Int32 × zMem) := if (10 : Int32) ≤ x4 then (some (x3, S)) else (zc (zi x1 6) (zl (S.1 (2) (Int32.toNatClampNeg x1)) fun v1 => zb (f_X9_isSo v1 x4 x2 S) fun v2 S => if v2 = 0 then (X9_wordsBy_b37 k5 x1 x2 x4 x3 (0 : Int32) S) else (zl ((1 : Int32) <<< (x4 &&& 31)) fun v3 => X9_wordsBy_b37 k5 x1 x2 x4 x3 v3 S)))
def X9_wordsBy_l5 : Nat → Int32 → Int32 → Int32 → Int32 → zMem → Option (Int32 × zMem)
  | 0, _, _, _, _, _ => none
  | n + 1, x1, x2, x3, x4, S => X9_wordsBy_b5 (X9_wordsBy_l5 n) x1 x2 x3 x4 S
def X9_wordsBy_b0 (x1 : Int32) (x2 : Int32) (S : zMem) : Option (Int32 × zMem) := X9_wordsBy_l5 zF x1 x2 (0 : Int32) (0 : Int32) S
def f_X9_wordsBy (x1 : Int32) (x2 : Int32) (S : zMem) : Option (Int32 × zMem) := X9_wordsBy_b0 x1 x2 S
def X9_meant_b15 (S : zMem) : Option (Int32 × zMem) := some ((-1 : Int32), S)
def X9_meant_b37 (s0 : Int32) (S : zMem) : Option (Int32 × zMem) := some (s0, S)
def X9_meant_b0 (x1 : Int32) (x2 : Int32) (S : zMem) : Option (Int32 × zMem) := zb (f_X9_isLetter x1 S) fun v1 S => if v1 = 0 then (X9_meant_b15  S) else (zb (f_X9_isRow x2 S) fun v2 S => if v2 = 0 then (X9_meant_b15  S) else (zb (f_X9_noPairs x2 S) fun v3 S => if v3 = 0 then (zb (f_X9_wordsBy x1 x2 S) fun v4 S => X9_meant_b37 v4 S) else (X9_meant_b37 v3 S)))
def f_X9_meant (x1 : Int32) (x2 : Int32) (S : zMem) : Option (Int32 × zMem) := X9_meant_b0 x1 x2 S
def X9_kinds_b15 (S : zMem) : Option (Int32 × zMem) := some ((-1 : Int32), S)
def X9_kinds_b68 (k35 : Int32 → Int32 → Int32 → Int32 → zMem → Option (Int32 × zMem)) (x1 : Int32) (x2 : Int32) (x5 : Int32) (s0 : Int32) (s1 : Int32) (S : zMem) : Option (Int32 × zMem) := zl (s0 ||| s1) fun v1 => zl (x5 + (1 : Int32)) fun v2 => k35 x1 x2 v1 v2 S
def X9_kinds_b35 (k35 : Int32 → Int32 → Int32 → Int32 → zMem → Option (Int32 × zMem)) (x1 : Int32) (x2 : Int32) (x4 : Int32) (x5 : Int32) (S : zMem) : Option (Int32 × zMem) := if (6 : Int32) ≤ x5 then (some (x4, S)) else (zc (zi x1 6) (zl (S.1 (4) (Int32.toNatClampNeg x1)) fun v1 => zb (f_X9_isSo x5 v1 x2 S) fun v2 S => if v2 = 0 then (X9_kinds_b68 k35 x1 x2 x5 x4 (0 : Int32) S) else (zl ((1 : Int32) <<< (x5 &&& 31)) fun v3 => X9_kinds_b68 k35 x1 x2 x5 x4 v3 S)))
def X9_kinds_l35 : Nat → Int32 → Int32 → Int32 → Int32 → zMem → Option (Int32 × zMem)
  | 0, _, _, _, _, _ => none
  | n + 1, x1, x2, x4, x5, S => X9_kinds_b35 (X9_kinds_l35 n) x1 x2 x4 x5 S
def X9_kinds_b0 (x1 : Int32) (x2 : Int32) (S : zMem) : Option (Int32 × zMem) := zb (f_X9_isLetter x1 S) fun v1 S => if v1 = 0 then (X9_kinds_b15  S) else (zb (f_X9_isRow x2 S) fun v2 S => if v2 = 0 then (X9_kinds_b15  S) else (zb (f_X9_noPairs x2 S) fun v3 S => if v3 = 0 then (X9_kinds_l35 zF x1 x2 (0 : Int32) (0 : Int32) S) else (some (v3, S))))
def f_X9_kinds (x1 : Int32) (x2 : Int32) (S : zMem) : Option (Int32 × zMem) := X9_kinds_b0 x1 x2 S
def X9_greatestPart_b78 (k6 : Int32 → Int32 → Int32 → Int32 → Int32 → zMem → Option (Int32 × zMem)) (k19 : Int32 → Int32 → Int32 → Int32 → Int32 → Int32 → Int32 → zMem → Option (Int32 × zMem)) (x1 : Int32) (x2 : Int32) (x3 : Int32) (x4 : Int32) (x5 : Int32) (x7 : Int32) (s0 : Int32) (s1 : Int32) (S : zMem) : Option (Int32 × zMem) := zl (s0 + s1) fun v1 => zl (x7 + (1 : Int32)) fun v2 => k19 x1 x2 x3 x4 x5 v1 v2 S
def X9_greatestPart_b77 (k6 : Int32 → Int32 → Int32 → Int32 → Int32 → zMem → Option (Int32 × zMem)) (k19 : Int32 → Int32 → Int32 → Int32 → Int32 → Int32 → Int32 → zMem → Option (Int32 × zMem)) (x1 : Int32) (x2 : Int32) (x3 : Int32) (x4 : Int32) (x5 : Int32) (x7 : Int32) (s0 : Int32) (S : zMem) : Option (Int32 × zMem) := X9_greatestPart_b78 k6 k19 x1 x2 x3 x4 x5 x7 s0 (0 : Int32) S
def X9_greatestPart_b101 (k6 : Int32 → Int32 → Int32 → Int32 → Int32 → zMem → Option (Int32 × zMem)) (x1 : Int32) (x2 : Int32) (x3 : Int32) (x5 : Int32) (s0 : Int32) (S : zMem) : Option (Int32 × zMem) := zl (x5 + (1 : Int32)) fun v1 => k6 x1 x2 x3 s0 v1 S
def X9_greatestPart_b19 (k6 : Int32 → Int32 → Int32 → Int32 → Int32 → zMem → Option (Int32 × zMem)) (k19 : Int32 → Int32 → Int32 → Int32 → Int32 → Int32 → Int32 → zMem → Option (Int32 × zMem)) (x1 : Int32) (x2 : Int32) (x3 : Int32) (x4 : Int32) (x5 : Int32) (x6 : Int32) (x7 : Int32) (S : zMem) : Option (Int32 × zMem) := if (10 : Int32) ≤ x7 then (if x6 ≤ x4 then (X9_greatestPart_b101 k6 x1 x2 x3 x5 x4 S) else (X9_greatestPart_b101 k6 x1 x2 x3 x5 x6 S)) else (zb (f_X9_has x2 x5 S) fun v1 S => if v1 = 0 then (X9_greatestPart_b77 k6 k19 x1 x2 x3 x4 x5 x7 x6 S) else (zb (f_X9_has x2 x7 S) fun v2 S => if v2 = 0 then (X9_greatestPart_b77 k6 k19 x1 x2 x3 x4 x5 x7 x6 S) else (zc (zi x1 6) (zl (S.1 (2) (Int32.toNatClampNeg x1)) fun v3 => zb (f_X9_endsBy v3 x5 x3 S) fun v4 S => zc (zi x1 6) (zl (S.1 (2) (Int32.toNatClampNeg x1)) fun v5 => zb (f_X9_endsBy v5 x7 x3 S) fun v6 S => if v4 = v6 then (X9_greatestPart_b78 k6 k19 x1 x2 x3 x4 x5 x7 x6 (1 : Int32) S) else (X9_greatestPart_b77 k6 k19 x1 x2 x3 x4 x5 x7 x6 S))))))
def X9_greatestPart_l19 (k6 : Int32 → Int32 → Int32 → Int32 → Int32 → zMem → Option (Int32 × zMem)) : Nat → Int32 → Int32 → Int32 → Int32 → Int32 → Int32 → Int32 → zMem → Option (Int32 × zMem)
  | 0, _, _, _, _, _, _, _, _ => none
  | n + 1, x1, x2, x3, x4, x5, x6, x7, S => X9_greatestPart_b19 k6 (X9_greatestPart_l19 k6 n) x1 x2 x3 x4 x5 x6 x7 S
def X9_greatestPart_b6 (k6 : Int32 → Int32 → Int32 → Int32 → Int32 → zMem → Option (Int32 × zMem)) (x1 : Int32) (x2 : Int32) (x3 : Int32) (x4 : Int32) (x5 : Int32) (S : zMem) : Option (Int32 × zMem) := if (10 : Int32) ≤ x5 then (some (x4, S)) else (X9_greatestPart_l19 k6 zF x1 x2 x3 x4 x5 (0 : Int32) (0 : Int32) S)
def X9_greatestPart_l6 : Nat → Int32 → Int32 → Int32 → Int32 → Int32 → zMem → Option (Int32 × zMem)
  | 0, _, _, _, _, _, _ => none
  | n + 1, x1, x2, x3, x4, x5, S => X9_greatestPart_b6 (X9_greatestPart_l6 n) x1 x2 x3 x4 x5 S
def X9_greatestPart_b0 (x1 : Int32) (x2 : Int32) (x3 : Int32) (S : zMem) : Option (Int32 × zMem) := X9_greatestPart_l6 zF x1 x2 x3 (0 : Int32) (0 : Int32) S
def f_X9_greatestPart (x1 : Int32) (x2 : Int32) (x3 : Int32) (S : zMem) : Option (Int32 × zMem) := X9_greatestPart_b0 x1 x2 x3 S
def X9_test_b15 (S : zMem) : Option (Int32 × zMem) := some ((-1 : Int32), S)
def X9_test_b104 (k56 : Int32 → Int32 → Int32 → Int32 → Int32 → zMem → Option (Int32 × zMem)) (x1 : Int32) (x4 : Int32) (x5 : Int32) (x7 : Int32) (s0 : Int32) (S : zMem) : Option (Int32 × zMem) := zl (x7 + (1 : Int32)) fun v1 => k56 x1 x4 x5 s0 v1 S
def X9_test_b88 (k56 : Int32 → Int32 → Int32 → Int32 → Int32 → zMem → Option (Int32 × zMem)) (x1 : Int32) (x4 : Int32) (x6 : Int32) (x7 : Int32) (x8 : Int32) (s0 : Int32) (S : zMem) : Option (Int32 × zMem) := if x6 ≤ x8 then (X9_test_b104 k56 x1 x4 s0 x7 x6 S) else (X9_test_b104 k56 x1 x4 s0 x7 x8 S)
def X9_test_b56 (k56 : Int32 → Int32 → Int32 → Int32 → Int32 → zMem → Option (Int32 × zMem)) (x1 : Int32) (x4 : Int32) (x5 : Int32) (x6 : Int32) (x7 : Int32) (S : zMem) : Option (Int32 × zMem) := if (10 : Int32) ≤ x7 then (zl (zp S (0) (upd (S.1 (0)) 10 x6)) fun S => some (x5, S)) else (zb (f_X9_greatestPart x1 x4 x7 S) fun v1 S => if x6 ≤ v1 then (X9_test_b88 k56 x1 x4 x6 x7 v1 x5 S) else (X9_test_b88 k56 x1 x4 x6 x7 v1 x7 S))
def X9_test_l56 : Nat → Int32 → Int32 → Int32 → Int32 → Int32 → zMem → Option (Int32 × zMem)
  | 0, _, _, _, _, _, _ => none
  | n + 1, x1, x4, x5, x6, x7, S => X9_test_b56 (X9_test_l56 n) x1 x4 x5 x6 x7 S
def X9_test_b0 (x1 : Int32) (x2 : Int32) (S : zMem) : Option (Int32 × zMem) := zb (f_X9_isLetter x1 S) fun v1 S => if v1 = 0 then (X9_test_b15  S) else (zb (f_X9_isRow x2 S) fun v2 S => if v2 = 0 then (X9_test_b15  S) else (zb (f_X9_noPairs x2 S) fun v3 S => if v3 = 0 then (zb (f_X9_wordsBy x1 x2 S) fun v4 S => if v4 = 0 then (some ((-9 : Int32), S)) else (X9_test_l56 zF x1 v4 (-9 : Int32) (99999 : Int32) (0 : Int32) S)) else (some (v3, S))))
def f_X9_test (x1 : Int32) (x2 : Int32) (S : zMem) : Option (Int32 × zMem) := X9_test_b0 x1 x2 S
def X9_noSets_b29 (s0 : Int32) (S : zMem) : Option (Int32 × zMem) := some (s0, S)
def X9_noSets_b0 (x1 : Int32) (S : zMem) : Option (Int32 × zMem) := zl (Int32.toInt64 x1) fun v1 => zb (f_X9_in v1 (0 : Int64) (54 : Int64) S) fun v2 S => if v2 = 0 then (X9_noSets_b29 (-1 : Int32) S) else (zl (S.1 (0) 2) fun v3 => if v3 = 0 then (X9_noSets_b29 (-4 : Int32) S) else (X9_noSets_b29 (0 : Int32) S))
def f_X9_noSets (x1 : Int32) (S : zMem) : Option (Int32 × zMem) := X9_noSets_b0 x1 S
def X9_wordsOf_b31 (k4 : Int32 → Int32 → Int32 → zMem → Option (Int32 × zMem)) (x1 : Int32) (x3 : Int32) (s0 : Int32) (s1 : Int32) (S : zMem) : Option (Int32 × zMem) := zl (s0 + s1) fun v1 => zl (x3 + (1 : Int32)) fun v2 => k4 x1 v1 v2 S
def X9_wordsOf_b4 (k4 : Int32 → Int32 → Int32 → zMem → Option (Int32 × zMem)) (x1 : Int32) (x2 : Int32) (x3 : Int32) (S : zMem) : Option (Int32 × zMem) := zl (S.1 (0) 2) fun v1 => if v1 ≤ x3 then (some (x2, S)) else (zb (f_X9_has x1 x3 S) fun v2 S => if v2 = 0 then (X9_wordsOf_b31 k4 x1 x3 x2 (0 : Int32) S) else (zc (zi x3 6) (zl (S.1 (4) (Int32.toNatClampNeg x3)) fun v3 => X9_wordsOf_b31 k4 x1 x3 x2 v3 S)))
def X9_wordsOf_l4 : Nat → Int32 → Int32 → Int32 → zMem → Option (Int32 × zMem)
  | 0, _, _, _, _ => none
  | n + 1, x1, x2, x3, S => X9_wordsOf_b4 (X9_wordsOf_l4 n) x1 x2 x3 S
def X9_wordsOf_b0 (x1 : Int32) (S : zMem) : Option (Int32 × zMem) := X9_wordsOf_l4 zF x1 (0 : Int32) (0 : Int32) S
def f_X9_wordsOf (x1 : Int32) (S : zMem) : Option (Int32 × zMem) := X9_wordsOf_b0 x1 S
def X9_sets_b80 (k30 : Int32 → Int32 → Int32 → zMem → Option (Int32 × zMem)) (x1 : Int32) (x3 : Int32) (x4 : Int32) (s1 : Int32) (S : zMem) : Option (Int32 × zMem) := zl (zp S (0) (upd (S.1 (0)) 10 s1)) fun S => zl (x4 + (-1 : Int32)) fun v1 => k30 x1 x3 v1 S
def X9_sets_b63 (k30 : Int32 → Int32 → Int32 → zMem → Option (Int32 × zMem)) (x1 : Int32) (x4 : Int32) (x5 : Int32) (s0 : Int32) (s1 : Int32) (S : zMem) : Option (Int32 × zMem) := zl (s0 + s1) fun v1 => if x5 = 0 then (zl (S.1 (0) 10) fun v2 => X9_sets_b80 k30 x1 v1 x4 v2 S) else (X9_sets_b80 k30 x1 v1 x4 x4 S)
def X9_sets_b50 (k30 : Int32 → Int32 → Int32 → zMem → Option (Int32 × zMem)) (x1 : Int32) (x3 : Int32) (x4 : Int32) (s0 : Int32) (S : zMem) : Option (Int32 × zMem) := if s0 = 0 then (X9_sets_b63 k30 x1 x4 s0 x3 (0 : Int32) S) else (X9_sets_b63 k30 x1 x4 s0 x3 (1 : Int32) S)
def X9_sets_b30 (k30 : Int32 → Int32 → Int32 → zMem → Option (Int32 × zMem)) (x1 : Int32) (x3 : Int32) (x4 : Int32) (S : zMem) : Option (Int32 × zMem) := if x4 < 0 then (zl (Int32.toInt64 x3) fun v1 => zl (zq S (0) (vp_updL (S.2 (0)) 11 v1)) fun S => zl (zq S (0) (vp_updL (S.2 (0)) 12 (1 : Int64))) fun S => some ((1 : Int32), S)) else (zb (f_X9_wordsOf x4 S) fun v2 S => if v2 = x1 then (X9_sets_b50 k30 x1 x3 x4 (1 : Int32) S) else (X9_sets_b50 k30 x1 x3 x4 (0 : Int32) S))
def X9_sets_l30 : Nat → Int32 → Int32 → Int32 → zMem → Option (Int32 × zMem)
  | 0, _, _, _, _ => none
  | n + 1, x1, x3, x4, S => X9_sets_b30 (X9_sets_l30 n) x1 x3 x4 S
def X9_sets_b0 (x1 : Int32) (S : zMem) : Option (Int32 × zMem) := zb (f_X9_noSets x1 S) fun v1 S => if v1 = 0 then (zl (zp S (0) (upd (S.1 (0)) 10 (-9 : Int32))) fun S => zl (S.1 (0) 2) fun v2 => zl ((1 : Int32) <<< (v2 &&& 31)) fun v3 => zl (v3 - (1 : Int32)) fun v4 => X9_sets_l30 zF x1 (0 : Int32) v4 S) else (some (v1, S))
def f_X9_sets (x1 : Int32) (S : zMem) : Option (Int32 × zMem) := X9_sets_b0 x1 S
def X9_sure_b66 (k33 : Int32 → Int32 → Int32 → Int32 → Int32 → Int32 → zMem → Option (Int32 × zMem)) (x1 : Int32) (x3 : Int32) (x4 : Int32) (x5 : Int32) (x6 : Int32) (x7 : Int32) (S : zMem) : Option (Int32 × zMem) := zl (x7 + (1 : Int32)) fun v1 => k33 x1 x3 x4 x5 x6 v1 S
def X9_sure_b33 (k33 : Int32 → Int32 → Int32 → Int32 → Int32 → Int32 → zMem → Option (Int32 × zMem)) (x1 : Int32) (x3 : Int32) (x4 : Int32) (x5 : Int32) (x6 : Int32) (x7 : Int32) (S : zMem) : Option (Int32 × zMem) := if x3 < x7 then (if x6 = 0 then (zb (f_X9_find (4 : Int32) S) fun v3 S => some (v3, S)) else (zl (x5 ^^^ (-1 : Int32)) fun v1 => zl (x3 &&& v1) fun v2 => zl (zp S (0) (upd (S.1 (0)) 10 v2)) fun S => some (x4, S))) else (zb (f_X9_wordsOf x7 S) fun v4 S => if v4 = x1 then (zl (x4 &&& x7) fun v5 => zl (x5 ||| x7) fun v6 => X9_sure_b66 k33 x1 x3 v5 v6 (1 : Int32) x7 S) else (X9_sure_b66 k33 x1 x3 x4 x5 x6 x7 S))
def X9_sure_l33 : Nat → Int32 → Int32 → Int32 → Int32 → Int32 → Int32 → zMem → Option (Int32 × zMem)
  | 0, _, _, _, _, _, _, _ => none
  | n + 1, x1, x3, x4, x5, x6, x7, S => X9_sure_b33 (X9_sure_l33 n) x1 x3 x4 x5 x6 x7 S
def X9_sure_b0 (x1 : Int32) (S : zMem) : Option (Int32 × zMem) := zb (f_X9_noSets x1 S) fun v1 S => if v1 = 0 then (zl (S.1 (0) 2) fun v2 => zl ((1 : Int32) <<< (v2 &&& 31)) fun v3 => zl (v3 - (1 : Int32)) fun v4 => X9_sure_l33 zF x1 v4 v4 (0 : Int32) (0 : Int32) (0 : Int32) S) else (some (v1, S))
def f_X9_sure (x1 : Int32) (S : zMem) : Option (Int32 × zMem) := X9_sure_b0 x1 S
def X9_beginTurn_b24 (s1 : Int32) (s2 : Int32) (S : zMem) : Option (Unit × zMem) := zc (zi s1 7) (zl (zp S (14) (upd (S.1 (14)) (Int32.toNatClampNeg s1) s2)) fun S => some ((), S))
def X9_beginTurn_b0 (x1 : Int32) (S : zMem) : Option (Unit × zMem) := zc (zi x1 6) (zl (zp S (12) (upd (S.1 (12)) (Int32.toNatClampNeg x1) (0 : Int32))) fun S => zl (x1 - x1 / (2 : Int32) * (2 : Int32)) fun v1 => if v1 = 0 then (X9_beginTurn_b24 x1 (-1 : Int32) S) else (X9_beginTurn_b24 x1 (99999 : Int32) S))
def f_X9_beginTurn (x1 : Int32) (S : zMem) : Option (Unit × zMem) := X9_beginTurn_b0 x1 S
def X9_isFree_b48 (k22 : Int32 → Int32 → Int32 → Int32 → zMem → Option (Int32 × zMem)) (x1 : Int32) (x2 : Int32) (x4 : Int32) (s0 : Int32) (S : zMem) : Option (Int32 × zMem) := zl (x4 + (1 : Int32)) fun v1 => k22 x1 x2 s0 v1 S
def X9_isFree_b47 (k22 : Int32 → Int32 → Int32 → Int32 → zMem → Option (Int32 × zMem)) (x1 : Int32) (x2 : Int32) (x4 : Int32) (S : zMem) : Option (Int32 × zMem) := X9_isFree_b48 k22 x1 x2 x4 (0 : Int32) S
def X9_isFree_b22 (k22 : Int32 → Int32 → Int32 → Int32 → zMem → Option (Int32 × zMem)) (x1 : Int32) (x2 : Int32) (x3 : Int32) (x4 : Int32) (S : zMem) : Option (Int32 × zMem) := if x1 ≤ x4 then (zc (zbo x3) (some (x3, S))) else (if x3 = 0 then (X9_isFree_b47 k22 x1 x2 x4 S) else (zc (zi x4 6) (zl (S.1 (12) (Int32.toNatClampNeg x4)) fun v1 => if v1 = x2 then (X9_isFree_b47 k22 x1 x2 x4 S) else (X9_isFree_b48 k22 x1 x2 x4 (1 : Int32) S))))
def X9_isFree_l22 : Nat → Int32 → Int32 → Int32 → Int32 → zMem → Option (Int32 × zMem)
  | 0, _, _, _, _, _ => none
  | n + 1, x1, x2, x3, x4, S => X9_isFree_b22 (X9_isFree_l22 n) x1 x2 x3 x4 S
def X9_isFree_b18 (x1 : Int32) (x2 : Int32) (s0 : Int32) (S : zMem) : Option (Int32 × zMem) := X9_isFree_l22 zF x1 x2 s0 (0 : Int32) S
def X9_isFree_b0 (x1 : Int32) (x2 : Int32) (S : zMem) : Option (Int32 × zMem) := zc (zi (5 : Int32) 2810) (zl (S.1 (1) (Int32.toNatClampNeg (5 : Int32))) fun v1 => zb (f_X9_has v1 x2 S) fun v2 S => if v2 = 0 then (X9_isFree_b18 x1 x2 (1 : Int32) S) else (X9_isFree_b18 x1 x2 (0 : Int32) S))
def f_X9_isFree (x1 : Int32) (x2 : Int32) (S : zMem) : Option (Int32 × zMem) := X9_isFree_b0 x1 x2 S
def X9_better_b29 (s0 : Int32) (S : zMem) : Option (Int32 × zMem) := some (s0, S)
def X9_better_b0 (x0 : Int32) (x1 : Int32) (x2 : Int32) (S : zMem) : Option (Int32 × zMem) := zl (x0 - x0 / (2 : Int32) * (2 : Int32)) fun v1 => if v1 = 0 then (if x1 ≤ x2 then (X9_better_b29 x2 S) else (X9_better_b29 x1 S)) else (if x2 ≤ x1 then (X9_better_b29 x2 S) else (X9_better_b29 x1 S))
def f_X9_better (x0 : Int32) (x1 : Int32) (x2 : Int32) (S : zMem) : Option (Int32 × zMem) := X9_better_b0 x0 x1 x2 S
def X9_duel_b202 (k74 : Int32 → Int32 → zMem → Option (Int32 × zMem)) (x3 : Int32) (x4 : Int32) (S : zMem) : Option (Int32 × zMem) := k74 x3 x4 S
def X9_duel_b127 (k74 : Int32 → Int32 → zMem → Option (Int32 × zMem)) (x3 : Int32) (x4 : Int32) (S : zMem) : Option (Int32 × zMem) := zc (zi x4 6) (zl (S.1 (12) (Int32.toNatClampNeg x4)) fun v1 => zl (S.1 (0) 2) fun v2 => if v1 = v2 then (zc (zi x4 7) (zl (S.1 (14) (Int32.toNatClampNeg x4)) fun v11 => zl (x4 + (-1 : Int32)) fun v12 => if v12 < 0 then (zc (zi (6 : Int32) 7) (zl (zp S (14) (upd (S.1 (14)) (Int32.toNatClampNeg (6 : Int32)) v11)) fun S => X9_duel_b202 k74 x3 v12 S)) else (zc (zi v12 7) (zl (S.1 (14) (Int32.toNatClampNeg v12)) fun v13 => zb (f_X9_better v12 v13 v11 S) fun v14 S => zc (zi v12 7) (zl (zp S (14) (upd (S.1 (14)) (Int32.toNatClampNeg v12) v14)) fun S => zc (zi v12 6) (zl (S.1 (12) (Int32.toNatClampNeg v12)) fun v15 => zl (v15 + (1 : Int32)) fun v16 => zc (zi v12 6) (zl (zp S (12) (upd (S.1 (12)) (Int32.toNatClampNeg v12) v16)) fun S => X9_duel_b202 k74 x3 v12 S))))))) else (zl (x3 - (1 : Int32)) fun v3 => if x4 = v3 then (zc (zi x4 7) (zl (S.1 (14) (Int32.toNatClampNeg x4)) fun v6 => zb (f_X9_endTogether x3 S) fun v7 S => zb (f_X9_better x4 v6 v7 S) fun v8 S => zc (zi x4 7) (zl (zp S (14) (upd (S.1 (14)) (Int32.toNatClampNeg x4) v8)) fun S => zc (zi x4 6) (zl (S.1 (12) (Int32.toNatClampNeg x4)) fun v9 => zl (v9 + (1 : Int32)) fun v10 => zc (zi x4 6) (zl (zp S (12) (upd (S.1 (12)) (Int32.toNatClampNeg x4) v10)) fun S => k74 x3 x4 S))))) else (zl (x4 + (1 : Int32)) fun v4 => zb (f_X9_beginTurn v4 S) fun v5 S => k74 x3 v4 S)))
def X9_duel_b83 (k74 : Int32 → Int32 → zMem → Option (Int32 × zMem)) (k83 : Int32 → Int32 → zMem → Option (Int32 × zMem)) (x3 : Int32) (x4 : Int32) (S : zMem) : Option (Int32 × zMem) := zc (zi x4 6) (zl (S.1 (12) (Int32.toNatClampNeg x4)) fun v1 => zl (S.1 (0) 2) fun v2 => if v2 ≤ v1 then (X9_duel_b127 k74 x3 x4 S) else (zc (zi x4 6) (zl (S.1 (12) (Int32.toNatClampNeg x4)) fun v3 => zb (f_X9_isFree x4 v3 S) fun v4 S => if v4 = 0 then (zc (zi x4 6) (zl (S.1 (12) (Int32.toNatClampNeg x4)) fun v5 => zl (v5 + (1 : Int32)) fun v6 => zc (zi x4 6) (zl (zp S (12) (upd (S.1 (12)) (Int32.toNatClampNeg x4) v6)) fun S => k83 x3 x4 S))) else (X9_duel_b127 k74 x3 x4 S))))
def X9_duel_l83 (k74 : Int32 → Int32 → zMem → Option (Int32 × zMem)) : Nat → Int32 → Int32 → zMem → Option (Int32 × zMem)
  | 0, _, _, _ => none
  | n + 1, x3, x4, S => X9_duel_b83 k74 (X9_duel_l83 k74 n) x3 x4 S
def X9_duel_b263 (S : zMem) : Option (Int32 × zMem) := zc (zi (6 : Int32) 7) (zl (S.1 (14) (Int32.toNatClampNeg (6 : Int32))) fun v1 => zl (zp S (0) (upd (S.1 (0)) 10 v1)) fun S => some ((1 : Int32), S))
def X9_duel_b74 (k74 : Int32 → Int32 → zMem → Option (Int32 × zMem)) (x3 : Int32) (x4 : Int32) (S : zMem) : Option (Int32 × zMem) := if x3 ≤ 0 then (X9_duel_b263  S) else (if x4 < 0 then (X9_duel_b263  S) else (X9_duel_l83 k74 zF x3 x4 S))
def X9_duel_l74 : Nat → Int32 → Int32 → zMem → Option (Int32 × zMem)
  | 0, _, _, _ => none
  | n + 1, x3, x4, S => X9_duel_b74 (X9_duel_l74 n) x3 x4 S
def X9_duel_b53 (s0 : Int32) (S : zMem) : Option (Int32 × zMem) := zc (zi (6 : Int32) 7) (zl (zp S (14) (upd (S.1 (14)) (Int32.toNatClampNeg (6 : Int32)) (0 : Int32))) fun S => if s0 ≤ 0 then (X9_duel_l74 zF s0 (0 : Int32) S) else (zb (f_X9_beginTurn (0 : Int32) S) fun v1 S => X9_duel_l74 zF s0 (0 : Int32) S))
def X9_duel_b0 (x1 : Int32) (S : zMem) : Option (Int32 × zMem) := zl (Int32.toInt64 x1) fun v1 => zb (f_X9_in v1 (0 : Int64) (3 : Int64) S) fun v2 S => if v2 = 0 then (some ((-1 : Int32), S)) else (zl (S.1 (0) 2) fun v3 => if v3 = 0 then (some ((-4 : Int32), S)) else (zl (S.1 (0) 2) fun v4 => zc (zi (5 : Int32) 2810) (zl (S.1 (1) (Int32.toNatClampNeg (5 : Int32))) fun v5 => zb (f_X9_bits v5 S) fun v6 S => zl (v4 - v6) fun v7 => zl ((2 : Int32) * x1) fun v8 => if v7 ≤ v8 then (X9_duel_b53 v7 S) else (zl ((2 : Int32) * x1) fun v9 => X9_duel_b53 v9 S))))
def f_X9_duel (x1 : Int32) (S : zMem) : Option (Int32 × zMem) := X9_duel_b0 x1 S
def X9_endLifted_b49 (k9 : Int32 → Int32 → Int32 → Int32 → zMem → Option (Int32 × zMem)) (x1 : Int32) (x2 : Int32) (x3 : Int32) (x4 : Int32) (s1 : Int32) (s2 : Int32) (s3 : Int32) (S : zMem) : Option (Int32 × zMem) := zl (s2 + s3) fun v1 => zb (f_X9_kept v1 (9 : Int32) S) fun v2 S => zc (zi s1 2810) (zl (zp S (1) (upd (S.1 (1)) (Int32.toNatClampNeg s1) v2)) fun S => zl ((40 : Int32) * x1) fun v3 => zl (v3 + x4) fun v4 => zc (zi v4 240) (zl (S.1 (6) (Int32.toNatClampNeg v4)) fun v5 => zb (f_X9_carries (2792 : Int32) v5 S) fun v6 S => zl (x3 + v6) fun v7 => zl (x4 + (1 : Int32)) fun v8 => k9 x1 x2 v7 v8 S))
def X9_endLifted_b9 (k9 : Int32 → Int32 → Int32 → Int32 → zMem → Option (Int32 × zMem)) (x1 : Int32) (x2 : Int32) (x3 : Int32) (x4 : Int32) (S : zMem) : Option (Int32 × zMem) := zc (zi x1 6) (zl (S.1 (5) (Int32.toNatClampNeg x1)) fun v1 => if v1 ≤ x4 then (some (x3, S)) else (zc (zi (2794 : Int32) 2810) (zl (S.1 (1) (Int32.toNatClampNeg (2794 : Int32))) fun v2 => zb (f_X9_has x2 x4 S) fun v3 S => if v3 = 0 then (X9_endLifted_b49 k9 x1 x2 x3 x4 (2794 : Int32) v2 (0 : Int32) S) else (X9_endLifted_b49 k9 x1 x2 x3 x4 (2794 : Int32) v2 (1 : Int32) S))))
def X9_endLifted_l9 : Nat → Int32 → Int32 → Int32 → Int32 → zMem → Option (Int32 × zMem)
  | 0, _, _, _, _, _ => none
  | n + 1, x1, x2, x3, x4, S => X9_endLifted_b9 (X9_endLifted_l9 n) x1 x2 x3 x4 S
def X9_endLifted_b0 (x1 : Int32) (x2 : Int32) (S : zMem) : Option (Int32 × zMem) := zb (f_X9_layTried  S) fun v1 S => X9_endLifted_l9 zF x1 x2 (0 : Int32) (0 : Int32) S
def f_X9_endLifted (x1 : Int32) (x2 : Int32) (S : zMem) : Option (Int32 × zMem) := X9_endLifted_b0 x1 x2 S
def X9_tellParts_b6 (k6 : Int64 → Int64 → Int64 → Int64 → zMem → Option (Unit × zMem)) (y1 : Int64) (y3 : Int64) (y5 : Int64) (y7 : Int64) (S : zMem) : Option (Unit × zMem) := zl (lg_cmp y7 (0 : Int64)) fun v1 => if v1 = 0 then (zc (decide (¬ y5 = 0)) (zl (y1 / y5) fun v2 => zl (zq S (0) (vp_updL (S.2 (0)) 11 v2)) fun S => zc (decide (¬ y5 = 0)) (zl (y3 / y5) fun v3 => zl (zq S (0) (vp_updL (S.2 (0)) 12 v3)) fun S => some ((), S)))) else (zc (decide (¬ y7 = 0)) (zl (y5 - y5 / y7 * y7) fun v4 => k6 y1 y3 y7 v4 S))
def X9_tellParts_l6 : Nat → Int64 → Int64 → Int64 → Int64 → zMem → Option (Unit × zMem)
  | 0, _, _, _, _, _ => none
  | n + 1, y1, y3, y5, y7, S => X9_tellParts_b6 (X9_tellParts_l6 n) y1 y3 y5 y7 S
def X9_tellParts_b0 (y1 : Int64) (y3 : Int64) (S : zMem) : Option (Unit × zMem) := X9_tellParts_l6 zF y1 y3 y1 y3 S
def f_X9_tellParts (y1 : Int64) (y3 : Int64) (S : zMem) : Option (Unit × zMem) := X9_tellParts_b0 y1 y3 S
def X9_tellLifts_b61 (k9 : Int32 → Int32 → Int32 → Int32 → Int64 → Int64 → Int32 → zMem → Option (Int32 × zMem)) (k28 : Int32 → Int32 → Int32 → Int32 → Int64 → Int64 → Int32 → Int64 → Int32 → zMem → Option (Int32 × zMem)) (x1 : Int32) (x2 : Int32) (x3 : Int32) (x4 : Int32) (y5 : Int64) (y7 : Int64) (x9 : Int32) (x12 : Int32) (s0 : Int64) (s1 : Int64) (S : zMem) : Option (Int32 × zMem) := zl (s0 * s1) fun v1 => zl (x12 + (1 : Int32)) fun v2 => k28 x1 x2 x3 x4 y5 y7 x9 v1 v2 S
def X9_tellLifts_b107 (k9 : Int32 → Int32 → Int32 → Int32 → Int64 → Int64 → Int32 → zMem → Option (Int32 × zMem)) (x1 : Int32) (x2 : Int32) (x3 : Int32) (x4 : Int32) (y7 : Int64) (x9 : Int32) (y10 : Int64) (s0 : Int64) (s1 : Int64) (S : zMem) : Option (Int32 × zMem) := zl (s0 + s1) fun v1 => zl (y7 + y10) fun v2 => zl (x9 + (1 : Int32)) fun v3 => k9 x1 x2 x3 x4 v1 v2 v3 S
def X9_tellLifts_b28 (k9 : Int32 → Int32 → Int32 → Int32 → Int64 → Int64 → Int32 → zMem → Option (Int32 × zMem)) (k28 : Int32 → Int32 → Int32 → Int32 → Int64 → Int64 → Int32 → Int64 → Int32 → zMem → Option (Int32 × zMem)) (x1 : Int32) (x2 : Int32) (x3 : Int32) (x4 : Int32) (y5 : Int64) (y7 : Int64) (x9 : Int32) (y10 : Int64) (x12 : Int32) (S : zMem) : Option (Int32 × zMem) := zc (zi x1 6) (zl (S.1 (5) (Int32.toNatClampNeg x1)) fun v1 => if v1 ≤ x12 then (zb (f_X9_endLifted x1 x9 S) fun v2 S => if x4 = 0 then (if v2 < x2 then (X9_tellLifts_b107 k9 x1 x2 x3 x4 y7 x9 y10 y5 (0 : Int64) S) else (X9_tellLifts_b107 k9 x1 x2 x3 x4 y7 x9 y10 y5 y10 S)) else (zl (Int32.toInt64 v2) fun v3 => zl (y10 * v3) fun v4 => X9_tellLifts_b107 k9 x1 x2 x3 x4 y7 x9 y10 y5 v4 S)) else (zb (f_X9_has x9 x12 S) fun v5 S => if v5 = 0 then (zl ((12 : Int32) - x3) fun v6 => zl (Int32.toInt64 v6) fun v7 => X9_tellLifts_b61 k9 k28 x1 x2 x3 x4 y5 y7 x9 x12 y10 v7 S) else (zl (Int32.toInt64 x3) fun v8 => X9_tellLifts_b61 k9 k28 x1 x2 x3 x4 y5 y7 x9 x12 y10 v8 S)))
def X9_tellLifts_l28 (k9 : Int32 → Int32 → Int32 → Int32 → Int64 → Int64 → Int32 → zMem → Option (Int32 × zMem)) : Nat → Int32 → Int32 → Int32 → Int32 → Int64 → Int64 → Int32 → Int64 → Int32 → zMem → Option (Int32 × zMem)
  | 0, _, _, _, _, _, _, _, _, _, _ => none
  | n + 1, x1, x2, x3, x4, y5, y7, x9, y10, x12, S => X9_tellLifts_b28 k9 (X9_tellLifts_l28 k9 n) x1 x2 x3 x4 y5 y7 x9 y10 x12 S
def X9_tellLifts_b9 (k9 : Int32 → Int32 → Int32 → Int32 → Int64 → Int64 → Int32 → zMem → Option (Int32 × zMem)) (x1 : Int32) (x2 : Int32) (x3 : Int32) (x4 : Int32) (y5 : Int64) (y7 : Int64) (x9 : Int32) (S : zMem) : Option (Int32 × zMem) := zc (zi x1 6) (zl (S.1 (5) (Int32.toNatClampNeg x1)) fun v1 => zl ((1 : Int32) <<< (v1 &&& 31)) fun v2 => if v2 ≤ x9 then (zb (f_X9_tellParts y5 y7 S) fun v3 S => some ((1 : Int32), S)) else (X9_tellLifts_l28 k9 zF x1 x2 x3 x4 y5 y7 x9 (1 : Int64) (0 : Int32) S))
def X9_tellLifts_l9 : Nat → Int32 → Int32 → Int32 → Int32 → Int64 → Int64 → Int32 → zMem → Option (Int32 × zMem)
  | 0, _, _, _, _, _, _, _, _ => none
  | n + 1, x1, x2, x3, x4, y5, y7, x9, S => X9_tellLifts_b9 (X9_tellLifts_l9 n) x1 x2 x3 x4 y5 y7 x9 S
def X9_tellLifts_b0 (x1 : Int32) (x2 : Int32) (x3 : Int32) (x4 : Int32) (S : zMem) : Option (Int32 × zMem) := X9_tellLifts_l9 zF x1 x2 x3 x4 (0 : Int64) (0 : Int64) (0 : Int32) S
def f_X9_tellLifts (x1 : Int32) (x2 : Int32) (x3 : Int32) (x4 : Int32) (S : zMem) : Option (Int32 × zMem) := X9_tellLifts_b0 x1 x2 x3 x4 S
def X9_odds_b31 (S : zMem) : Option (Int32 × zMem) := some ((-1 : Int32), S)
def X9_odds_b64 (s0 : Int32) (S : zMem) : Option (Int32 × zMem) := some (s0, S)
def X9_odds_b0 (x1 : Int32) (x2 : Int32) (x3 : Int32) (S : zMem) : Option (Int32 × zMem) := zb (f_X9_isRow x1 S) fun v1 S => if v1 = 0 then (X9_odds_b31  S) else (zl (Int32.toInt64 x2) fun v2 => zb (f_X9_in v2 (0 : Int64) (54 : Int64) S) fun v3 S => if v3 = 0 then (X9_odds_b31  S) else (zl (Int32.toInt64 x3) fun v4 => zb (f_X9_in v4 (0 : Int64) (12 : Int64) S) fun v5 S => if v5 = 0 then (X9_odds_b31  S) else (zc (zi (5 : Int32) 2810) (zl (S.1 (1) (Int32.toNatClampNeg (5 : Int32))) fun v6 => zb (f_X9_noLetters x1 v6 S) fun v7 S => if v7 = 0 then (zb (f_X9_tellLifts x1 x2 x3 (0 : Int32) S) fun v8 S => X9_odds_b64 v8 S) else (X9_odds_b64 v7 S)))))
def f_X9_odds (x1 : Int32) (x2 : Int32) (x3 : Int32) (S : zMem) : Option (Int32 × zMem) := X9_odds_b0 x1 x2 x3 S
def X9_mid_b19 (S : zMem) : Option (Int32 × zMem) := some ((-1 : Int32), S)
def X9_mid_b49 (s0 : Int32) (S : zMem) : Option (Int32 × zMem) := some (s0, S)
def X9_mid_b0 (x1 : Int32) (x2 : Int32) (S : zMem) : Option (Int32 × zMem) := zb (f_X9_isRow x1 S) fun v1 S => if v1 = 0 then (X9_mid_b19  S) else (zl (Int32.toInt64 x2) fun v2 => zb (f_X9_in v2 (0 : Int64) (12 : Int64) S) fun v3 S => if v3 = 0 then (X9_mid_b19  S) else (zc (zi (5 : Int32) 2810) (zl (S.1 (1) (Int32.toNatClampNeg (5 : Int32))) fun v4 => zb (f_X9_noLetters x1 v4 S) fun v5 S => if v5 = 0 then (zb (f_X9_tellLifts x1 (0 : Int32) x2 (1 : Int32) S) fun v6 S => X9_mid_b49 v6 S) else (X9_mid_b49 v5 S))))
def f_X9_mid (x1 : Int32) (x2 : Int32) (S : zMem) : Option (Int32 × zMem) := X9_mid_b0 x1 x2 S
def X9_byLot_b119 (S : zMem) : Option (Unit × zMem) := some ((), S)
def X9_byLot_b0 (y1 : Int64) (S : zMem) : Option (Unit × zMem) := zl (y1 / (8 : Int64)) fun v1 => zl (v1 - v1 / (8 : Int64) * (8 : Int64)) fun v2 => zl (Int64.toInt32 v2) fun v3 => zl (S.1 (0) 2) fun v4 => zl (Int32.toInt64 v4) fun v5 => zc (decide (¬ v5 = 0)) (zl (y1 - y1 / v5 * v5) fun v6 => zl (Int64.toInt32 v6) fun v7 => if (5 : Int32) ≤ v3 then (if v3 = (5 : Int32) then (zc (zi (2 : Int32) 2810) (zl (S.1 (1) (Int32.toNatClampNeg (2 : Int32))) fun v12 => zl (v12 + (1 : Int32)) fun v13 => zl (y1 / (64 : Int64)) fun v14 => zl (v14 - v14 / (9 : Int64) * (9 : Int64)) fun v15 => zl (Int64.toInt32 v15) fun v16 => zl (v13 + v16) fun v17 => zb (f_X9_kept v17 (9 : Int32) S) fun v18 S => zc (zi (2 : Int32) 2810) (zl (zp S (1) (upd (S.1 (1)) (Int32.toNatClampNeg (2 : Int32)) v18)) fun S => X9_byLot_b119  S))) else (if v3 = (6 : Int32) then (zl (y1 / (64 : Int64)) fun v9 => zl (v9 - v9 / (3 : Int64) * (3 : Int64)) fun v10 => zl (Int64.toInt32 v10) fun v11 => zc (zi (3 : Int32) 2810) (zl (zp S (1) (upd (S.1 (1)) (Int32.toNatClampNeg (3 : Int32)) v11)) fun S => X9_byLot_b119  S)) else (zb (f_X9_beginDay (0 : Int32) S) fun v8 S => X9_byLot_b119  S))) else (zc (zi (5 : Int32) 2810) (zl (S.1 (1) (Int32.toNatClampNeg (5 : Int32))) fun v19 => zb (f_X9_has v19 v7 S) fun v20 S => if v20 = 0 then (zb (f_X9_carries (0 : Int32) v7 S) fun v21 S => X9_byLot_b119  S) else (X9_byLot_b119  S))))
def f_X9_byLot (y1 : Int64) (S : zMem) : Option (Unit × zMem) := X9_byLot_b0 y1 S
def X9_allBonds_b4 (k4 : Int32 → Int32 → zMem → Option (Int32 × zMem)) (x1 : Int32) (x2 : Int32) (S : zMem) : Option (Int32 × zMem) := zl (S.1 (0) 1) fun v1 => if v1 ≤ x2 then (some (x1, S)) else (zl ((6 : Int32) + x2) fun v2 => zc (zi v2 2810) (zl (S.1 (1) (Int32.toNatClampNeg v2)) fun v3 => zl (x1 + v3) fun v4 => zl (x2 + (1 : Int32)) fun v5 => k4 v4 v5 S))
def X9_allBonds_l4 : Nat → Int32 → Int32 → zMem → Option (Int32 × zMem)
  | 0, _, _, _ => none
  | n + 1, x1, x2, S => X9_allBonds_b4 (X9_allBonds_l4 n) x1 x2 S
def X9_allBonds_b0 (S : zMem) : Option (Int32 × zMem) := X9_allBonds_l4 zF (0 : Int32) (0 : Int32) S
def f_X9_allBonds (S : zMem) : Option (Int32 × zMem) := X9_allBonds_b0  S
def X9_lots_b24 (S : zMem) : Option (Int32 × zMem) := some ((-1 : Int32), S)
def X9_lots_b58 (k58 : Int32 → Int64 → Int32 → zMem → Option (Int32 × zMem)) (x1 : Int32) (y3 : Int64) (x5 : Int32) (S : zMem) : Option (Int32 × zMem) := if x1 ≤ x5 then (zb (f_X9_allBonds  S) fun v1 S => some (v1, S)) else (zl (y3 * (48271 : Int64)) fun v2 => zl (v2 - v2 / (2147483647 : Int64) * (2147483647 : Int64)) fun v3 => zb (f_X9_keepPast  S) fun v4 S => zb (f_X9_byLot v3 S) fun v5 S => zl (x5 + (1 : Int32)) fun v6 => k58 x1 v3 v6 S)
def X9_lots_l58 : Nat → Int32 → Int64 → Int32 → zMem → Option (Int32 × zMem)
  | 0, _, _, _, _ => none
  | n + 1, x1, y3, x5, S => X9_lots_b58 (X9_lots_l58 n) x1 y3 x5 S
def X9_lots_b0 (x1 : Int32) (x2 : Int32) (S : zMem) : Option (Int32 × zMem) := zl (Int32.toInt64 x1) fun v1 => zb (f_X9_in v1 (1 : Int64) (20 : Int64) S) fun v2 S => if v2 = 0 then (X9_lots_b24  S) else (zl (Int32.toInt64 x2) fun v3 => zb (f_X9_in v3 (1 : Int64) (2147483646 : Int64) S) fun v4 S => if v4 = 0 then (X9_lots_b24  S) else (zl (S.1 (0) 2) fun v5 => if v5 = 0 then (some ((-4 : Int32), S)) else (zc (zi (0 : Int32) 2810) (zl (S.1 (1) (Int32.toNatClampNeg (0 : Int32))) fun v6 => zl (v6 + x1) fun v7 => if v7 ≤ (40 : Int32) then (zl (Int32.toInt64 x2) fun v8 => X9_lots_l58 zF x1 v8 (0 : Int32) S) else (some ((-2 : Int32), S))))))
def f_X9_lots (x1 : Int32) (x2 : Int32) (S : zMem) : Option (Int32 × zMem) := X9_lots_b0 x1 x2 S
def X9_asked_b0 (S : zMem) : Option (Int32 × zMem) := zl (S.1 (0) 10) fun v1 => some (v1, S)
def f_X9_asked (S : zMem) : Option (Int32 × zMem) := X9_asked_b0  S
def X9_upper_b0 (S : zMem) : Option (Int64 × zMem) := zl (S.2 (0) 11) fun v1 => some (v1, S)
def f_X9_upper (S : zMem) : Option (Int64 × zMem) := X9_upper_b0  S
def X9_lower_b0 (S : zMem) : Option (Int64 × zMem) := zl (S.2 (0) 12) fun v1 => some (v1, S)
def f_X9_lower (S : zMem) : Option (Int64 × zMem) := X9_lower_b0  S
def X9_those_b27 (k4 : Int32 → Int32 → Int32 → zMem → Option (Int32 × zMem)) (x1 : Int32) (x3 : Int32) (s0 : Int32) (s1 : Int32) (S : zMem) : Option (Int32 × zMem) := zl (s0 + s1) fun v1 => zl (x3 + (1 : Int32)) fun v2 => k4 x1 v1 v2 S
def X9_those_b4 (k4 : Int32 → Int32 → Int32 → zMem → Option (Int32 × zMem)) (x1 : Int32) (x2 : Int32) (x3 : Int32) (S : zMem) : Option (Int32 × zMem) := zl (S.1 (0) 2) fun v1 => if v1 ≤ x3 then (some (x2, S)) else (zb (f_X9_isOf x3 x1 S) fun v2 S => if v2 = 0 then (X9_those_b27 k4 x1 x3 x2 (0 : Int32) S) else (X9_those_b27 k4 x1 x3 x2 (1 : Int32) S))
def X9_those_l4 : Nat → Int32 → Int32 → Int32 → zMem → Option (Int32 × zMem)
  | 0, _, _, _, _ => none
  | n + 1, x1, x2, x3, S => X9_those_b4 (X9_those_l4 n) x1 x2 x3 S
def X9_those_b0 (x1 : Int32) (S : zMem) : Option (Int32 × zMem) := X9_those_l4 zF x1 (0 : Int32) (0 : Int32) S
def f_X9_those (x1 : Int32) (S : zMem) : Option (Int32 × zMem) := X9_those_b0 x1 S
def X9_thereOf_b89 (k4 : Int32 → Int32 → Int32 → zMem → Option (Int32 × zMem)) (x1 : Int32) (x3 : Int32) (s0 : Int32) (s1 : Int32) (S : zMem) : Option (Int32 × zMem) := zl (s0 + s1) fun v1 => zl (x3 + (1 : Int32)) fun v2 => k4 x1 v1 v2 S
def X9_thereOf_b58 (k4 : Int32 → Int32 → Int32 → zMem → Option (Int32 × zMem)) (x1 : Int32) (x3 : Int32) (s0 : Int32) (S : zMem) : Option (Int32 × zMem) := X9_thereOf_b89 k4 x1 x3 s0 (0 : Int32) S
def X9_thereOf_b88 (k4 : Int32 → Int32 → Int32 → zMem → Option (Int32 × zMem)) (x1 : Int32) (x3 : Int32) (s0 : Int32) (S : zMem) : Option (Int32 × zMem) := X9_thereOf_b89 k4 x1 x3 s0 (0 : Int32) S
def X9_thereOf_b4 (k4 : Int32 → Int32 → Int32 → zMem → Option (Int32 × zMem)) (x1 : Int32) (x2 : Int32) (x3 : Int32) (S : zMem) : Option (Int32 × zMem) := if (6 : Int32) ≤ x3 then (some (x2, S)) else (if x1 = (11 : Int32) then (zc (zi x3 6) (zl (S.1 (5) (Int32.toNatClampNeg x3)) fun v6 => if 0 ≤ v6 then (X9_thereOf_b89 k4 x1 x3 x2 (1 : Int32) S) else (X9_thereOf_b89 k4 x1 x3 x2 (0 : Int32) S))) else (if x1 = (12 : Int32) then (if (4 : Int32) ≤ x3 then (X9_thereOf_b58 k4 x1 x3 x2 S) else (zc (zi x3 4) (zl (S.1 (7) (Int32.toNatClampNeg x3)) fun v5 => if v5 < 0 then (X9_thereOf_b58 k4 x1 x3 x2 S) else (X9_thereOf_b89 k4 x1 x3 x2 (1 : Int32) S)))) else (if (3 : Int32) ≤ x3 then (X9_thereOf_b88 k4 x1 x3 x2 S) else (zl ((1 : Int32) + x3) fun v1 => zl ((698 : Int32) * v1) fun v2 => zl (v2 + (0 : Int32)) fun v3 => zc (zi v3 2810) (zl (S.1 (1) (Int32.toNatClampNeg v3)) fun v4 => if v4 < 0 then (X9_thereOf_b88 k4 x1 x3 x2 S) else (X9_thereOf_b89 k4 x1 x3 x2 (1 : Int32) S))))))
def X9_thereOf_l4 : Nat → Int32 → Int32 → Int32 → zMem → Option (Int32 × zMem)
  | 0, _, _, _, _ => none
  | n + 1, x1, x2, x3, S => X9_thereOf_b4 (X9_thereOf_l4 n) x1 x2 x3 S
def X9_thereOf_b0 (x1 : Int32) (S : zMem) : Option (Int32 × zMem) := X9_thereOf_l4 zF x1 (0 : Int32) (0 : Int32) S
def f_X9_thereOf (x1 : Int32) (S : zMem) : Option (Int32 × zMem) := X9_thereOf_b0 x1 S
def X9_countOf_b0 (x1 : Int32) (S : zMem) : Option (Int32 × zMem) := if x1 = (0 : Int32) then (zl (S.1 (0) 1) fun v1 => some (v1, S)) else (if x1 = (1 : Int32) then (zl (S.1 (0) 2) fun v3 => some (v3, S)) else (if x1 = (2 : Int32) then (zc (zi (1 : Int32) 2810) (zl (S.1 (1) (Int32.toNatClampNeg (1 : Int32))) fun v5 => some (v5, S))) else (if x1 = (3 : Int32) then (zc (zi (0 : Int32) 2810) (zl (S.1 (1) (Int32.toNatClampNeg (0 : Int32))) fun v7 => some (v7, S))) else (if x1 = (4 : Int32) then (zc (zi (2 : Int32) 2810) (zl (S.1 (1) (Int32.toNatClampNeg (2 : Int32))) fun v9 => some (v9, S))) else (if x1 = (5 : Int32) then (zc (zi (3 : Int32) 2810) (zl (S.1 (1) (Int32.toNatClampNeg (3 : Int32))) fun v11 => some (v11, S))) else (if x1 = (6 : Int32) then (zc (zi (4 : Int32) 2810) (zl (S.1 (1) (Int32.toNatClampNeg (4 : Int32))) fun v13 => some (v13, S))) else (if x1 = (7 : Int32) then (zc (zi (5 : Int32) 2810) (zl (S.1 (1) (Int32.toNatClampNeg (5 : Int32))) fun v15 => some (v15, S))) else (if x1 = (8 : Int32) then (zb (f_X9_allBonds  S) fun v17 S => some (v17, S)) else (if x1 = (9 : Int32) then (zb (f_X9_those (1 : Int32) S) fun v19 S => some (v19, S)) else (if x1 = (10 : Int32) then (zb (f_X9_those (3 : Int32) S) fun v21 S => some (v21, S)) else (zb (f_X9_thereOf x1 S) fun v23 S => some (v23, S))))))))))))
def f_X9_countOf (x1 : Int32) (S : zMem) : Option (Int32 × zMem) := X9_countOf_b0 x1 S
def X9_count_b21 (s0 : Int32) (S : zMem) : Option (Int32 × zMem) := some (s0, S)
def X9_count_b0 (x1 : Int32) (S : zMem) : Option (Int32 × zMem) := zl (Int32.toInt64 x1) fun v1 => zb (f_X9_in v1 (0 : Int64) (13 : Int64) S) fun v2 S => if v2 = 0 then (X9_count_b21 (-1 : Int32) S) else (zb (f_X9_countOf x1 S) fun v3 S => X9_count_b21 v3 S)
def f_X9_count (x1 : Int32) (S : zMem) : Option (Int32 × zMem) := X9_count_b0 x1 S
def X9_finding_b0 (S : zMem) : Option (Int32 × zMem) := zl (S.1 (0) 13) fun v1 => some (v1, S)
def f_X9_finding (S : zMem) : Option (Int32 × zMem) := X9_finding_b0  S
def X9_findings_b22 (s0 : Int32) (S : zMem) : Option (Int32 × zMem) := some (s0, S)
def X9_findings_b0 (x1 : Int32) (S : zMem) : Option (Int32 × zMem) := zl (Int32.toInt64 x1) fun v1 => zb (f_X9_in v1 (1 : Int64) (5 : Int64) S) fun v2 S => if v2 = 0 then (X9_findings_b22 (-1 : Int32) S) else (zc (zi x1 6) (zl (S.1 (9) (Int32.toNatClampNeg x1)) fun v3 => X9_findings_b22 v3 S))
def f_X9_findings (x1 : Int32) (S : zMem) : Option (Int32 × zMem) := X9_findings_b0 x1 S
def X9_digest_b161 (k138 : Int64 → Int32 → zMem → Option (Int64 × zMem)) (k161 : Int64 → Int32 → Int32 → zMem → Option (Int64 × zMem)) (y1 : Int64) (x3 : Int32) (x4 : Int32) (S : zMem) : Option (Int64 × zMem) := zc (zi x3 6) (zl (S.1 (5) (Int32.toNatClampNeg x3)) fun v1 => if v1 ≤ x4 then (zl (x3 + (1 : Int32)) fun v2 => k138 y1 v2 S) else (zl ((31 : Int64) * y1) fun v3 => zl ((40 : Int32) * x3) fun v4 => zl (v4 + x4) fun v5 => zc (zi v5 240) (zl (S.1 (6) (Int32.toNatClampNeg v5)) fun v6 => zl (Int32.toInt64 v6) fun v7 => zl (v3 + v7) fun v8 => zl (x4 + (1 : Int32)) fun v9 => k161 v8 x3 v9 S)))
def X9_digest_l161 (k138 : Int64 → Int32 → zMem → Option (Int64 × zMem)) : Nat → Int64 → Int32 → Int32 → zMem → Option (Int64 × zMem)
  | 0, _, _, _, _ => none
  | n + 1, y1, x3, x4, S => X9_digest_b161 k138 (X9_digest_l161 k138 n) y1 x3 x4 S
def X9_digest_b228 (k206 : Int64 → Int32 → zMem → Option (Int64 × zMem)) (k228 : Int64 → Int32 → Int32 → zMem → Option (Int64 × zMem)) (y1 : Int64) (x3 : Int32) (x4 : Int32) (S : zMem) : Option (Int64 × zMem) := zc (zi x3 4) (zl (S.1 (7) (Int32.toNatClampNeg x3)) fun v1 => if v1 ≤ x4 then (zl (x3 + (1 : Int32)) fun v2 => k206 y1 v2 S) else (zl ((31 : Int64) * y1) fun v3 => zl ((60 : Int32) * x3) fun v4 => zl (v4 + x4) fun v5 => zc (zi v5 240) (zl (S.1 (8) (Int32.toNatClampNeg v5)) fun v6 => zl (Int32.toInt64 v6) fun v7 => zl (v3 + v7) fun v8 => zl (x4 + (1 : Int32)) fun v9 => k228 v8 x3 v9 S)))
def X9_digest_l228 (k206 : Int64 → Int32 → zMem → Option (Int64 × zMem)) : Nat → Int64 → Int32 → Int32 → zMem → Option (Int64 × zMem)
  | 0, _, _, _, _ => none
  | n + 1, y1, x3, x4, S => X9_digest_b228 k206 (X9_digest_l228 k206 n) y1 x3 x4 S
def X9_digest_b206 (k206 : Int64 → Int32 → zMem → Option (Int64 × zMem)) (y1 : Int64) (x3 : Int32) (S : zMem) : Option (Int64 × zMem) := if (4 : Int32) ≤ x3 then (some (y1, S)) else (zl ((31 : Int64) * y1) fun v1 => zc (zi x3 4) (zl (S.1 (7) (Int32.toNatClampNeg x3)) fun v2 => zl (Int32.toInt64 v2) fun v3 => zl (v1 + v3) fun v4 => X9_digest_l228 k206 zF v4 x3 (0 : Int32) S))
def X9_digest_l206 : Nat → Int64 → Int32 → zMem → Option (Int64 × zMem)
  | 0, _, _, _ => none
  | n + 1, y1, x3, S => X9_digest_b206 (X9_digest_l206 n) y1 x3 S
def X9_digest_b138 (k138 : Int64 → Int32 → zMem → Option (Int64 × zMem)) (y1 : Int64) (x3 : Int32) (S : zMem) : Option (Int64 × zMem) := if (6 : Int32) ≤ x3 then (X9_digest_l206 zF y1 (0 : Int32) S) else (zl ((31 : Int64) * y1) fun v1 => zc (zi x3 6) (zl (S.1 (5) (Int32.toNatClampNeg x3)) fun v2 => zl (Int32.toInt64 v2) fun v3 => zl (v1 + v3) fun v4 => X9_digest_l161 k138 zF v4 x3 (0 : Int32) S))
def X9_digest_l138 : Nat → Int64 → Int32 → zMem → Option (Int64 × zMem)
  | 0, _, _, _ => none
  | n + 1, y1, x3, S => X9_digest_b138 (X9_digest_l138 n) y1 x3 S
def X9_digest_b105 (k105 : Int64 → Int32 → zMem → Option (Int64 × zMem)) (y1 : Int64) (x3 : Int32) (S : zMem) : Option (Int64 × zMem) := if (4 : Int32) ≤ x3 then (X9_digest_l138 zF y1 (0 : Int32) S) else (zl ((31 : Int64) * y1) fun v1 => zl ((698 : Int32) * x3) fun v2 => zl (v2 + (0 : Int32)) fun v3 => zc (zi v3 2810) (zl (S.1 (1) (Int32.toNatClampNeg v3)) fun v4 => zl (Int32.toInt64 v4) fun v5 => zl (v1 + v5) fun v6 => zl (x3 + (1 : Int32)) fun v7 => k105 v6 v7 S))
def X9_digest_l105 : Nat → Int64 → Int32 → zMem → Option (Int64 × zMem)
  | 0, _, _, _ => none
  | n + 1, y1, x3, S => X9_digest_b105 (X9_digest_l105 n) y1 x3 S
def X9_digest_b69 (k69 : Int64 → Int32 → zMem → Option (Int64 × zMem)) (y1 : Int64) (x3 : Int32) (S : zMem) : Option (Int64 × zMem) := zl (S.1 (0) 2) fun v1 => zl ((5 : Int32) * v1) fun v2 => if v2 ≤ x3 then (X9_digest_l105 zF y1 (1 : Int32) S) else (zl ((31 : Int64) * y1) fun v3 => zl (x3 / (5 : Int32)) fun v4 => zl (x3 - x3 / (5 : Int32) * (5 : Int32)) fun v5 => zb (f_X9_letterTold v4 v5 S) fun v6 S => zl (Int32.toInt64 v6) fun v7 => zl (v3 + v7) fun v8 => zl (x3 + (1 : Int32)) fun v9 => k69 v8 v9 S)
def X9_digest_l69 : Nat → Int64 → Int32 → zMem → Option (Int64 × zMem)
  | 0, _, _, _ => none
  | n + 1, y1, x3, S => X9_digest_b69 (X9_digest_l69 n) y1 x3 S
def X9_digest_b33 (k33 : Int64 → Int32 → zMem → Option (Int64 × zMem)) (y1 : Int64) (x3 : Int32) (S : zMem) : Option (Int64 × zMem) := zl (S.1 (0) 1) fun v1 => zl ((3 : Int32) * v1) fun v2 => if v2 ≤ x3 then (X9_digest_l69 zF y1 (0 : Int32) S) else (zl ((31 : Int64) * y1) fun v3 => zl (x3 / (3 : Int32)) fun v4 => zl (x3 - x3 / (3 : Int32) * (3 : Int32)) fun v5 => zb (f_X9_houseTold v4 v5 S) fun v6 S => zl (Int32.toInt64 v6) fun v7 => zl (v3 + v7) fun v8 => zl (x3 + (1 : Int32)) fun v9 => k33 v8 v9 S)
def X9_digest_l33 : Nat → Int64 → Int32 → zMem → Option (Int64 × zMem)
  | 0, _, _, _ => none
  | n + 1, y1, x3, S => X9_digest_b33 (X9_digest_l33 n) y1 x3 S
def X9_digest_b6 (k6 : Int64 → Int32 → zMem → Option (Int64 × zMem)) (y1 : Int64) (x3 : Int32) (S : zMem) : Option (Int64 × zMem) := if (14 : Int32) ≤ x3 then (X9_digest_l33 zF y1 (0 : Int32) S) else (zl ((31 : Int64) * y1) fun v1 => zb (f_X9_countOf x3 S) fun v2 S => zl (Int32.toInt64 v2) fun v3 => zl (v1 + v3) fun v4 => zl (x3 + (1 : Int32)) fun v5 => k6 v4 v5 S)
def X9_digest_l6 : Nat → Int64 → Int32 → zMem → Option (Int64 × zMem)
  | 0, _, _, _ => none
  | n + 1, y1, x3, S => X9_digest_b6 (X9_digest_l6 n) y1 x3 S
def X9_digest_b0 (S : zMem) : Option (Int64 × zMem) := X9_digest_l6 zF (17 : Int64) (0 : Int32) S
def f_X9_digest (S : zMem) : Option (Int64 × zMem) := X9_digest_b0  S
end
section
-- X8_within X8_isRow X8_refuse X7_lieAnew X8_row X7_isThere X7_has X8_tell X8_lay X8_at X7_goMissing X8_tear X7_hasSpan X8_copy X7_sum X8_mean X8_isText X8_text X8_put X5_figureAt X5_houseFault X1_bySign X5_letterFault X5_itemFault X5_postmanFault X5_faultOf X8_fault X6_become X4_begin X8_post X8_isHouse X6_lettersTo X8_ofHouse
theorem dX8_within_0 : decode cX8_within 0 = .ok (.iload_n 0, 1) := by decide +kernel
theorem dX8_within_1 : decode cX8_within 1 = .ok (.ifCond .lt 12, 3) := by decide +kernel
theorem dX8_within_4 : decode cX8_within 4 = .ok (.iload_n 0, 1) := by decide +kernel
theorem dX8_within_5 : decode cX8_within 5 = .ok (.iload_n 1, 1) := by decide +kernel
theorem dX8_within_6 : decode cX8_within 6 = .ok (.if_icmp .gt 7, 3) := by decide +kernel
theorem dX8_within_9 : decode cX8_within 9 = .ok (.iconst 1, 1) := by decide +kernel
theorem dX8_within_10 : decode cX8_within 10 = .ok (.goto 4, 3) := by decide +kernel
theorem dX8_within_13 : decode cX8_within 13 = .ok (.iconst 0, 1) := by decide +kernel
theorem dX8_within_14 : decode cX8_within 14 = .ok (.ireturn, 1) := by decide +kernel
set_option maxRecDepth 20000 in
theorem w_X8_within_b14 {w : zWd} {X : zX} {l0 : Launch} {r : Int32} {S1 : zMem} (C : zC LC w X l0 cX8_within RX8 2 1 (some .boolean)) {s0 : Int32} {S : zMem} {ls : Array Slot} (hl : lv_has ls 2 []) (h : X8_within_b14 s0 S = some (r, S1)) : zV LC w X (some (.int r)) S1 S 14 ls [.int s0] := by
  unfold X8_within_b14 at h
  exact v_zreturn 14 C dX8_within_14 h
set_option maxRecDepth 20000 in
theorem w_X8_within_b13 {w : zWd} {X : zX} {l0 : Launch} {r : Int32} {S1 : zMem} (C : zC LC w X l0 cX8_within RX8 2 1 (some .boolean)) {S : zMem} {ls : Array Slot} (hl : lv_has ls 2 []) (h : X8_within_b13  S = some (r, S1)) : zV LC w X (some (.int r)) S1 S 13 ls [] := by
  unfold X8_within_b13 at h
  refine v_iconst 13 C (v := (0 : Int32)) dX8_within_13 (by decide) ?_
  exact w_X8_within_b14 C (lv_sub hl [] rfl) h
set_option maxRecDepth 20000 in
theorem w_X8_within_b0 {w : zWd} {X : zX} {l0 : Launch} {r : Int32} {S1 : zMem} (C : zC LC w X l0 cX8_within RX8 2 1 (some .boolean)) {x0 : Int32} {x1 : Int32} {S : zMem} {ls : Array Slot} (hl : lv_has ls 2 [(0, .int x0), (1, .int x1)]) (h : X8_within_b0 x0 x1 S = some (r, S1)) : zV LC w X (some (.int r)) S1 S 0 ls [] := by
  unfold X8_within_b0 at h
  refine v_iload_n 0 C dX8_within_0 rfl (lv_at hl 0 rfl) ?_
  refine v_if_lt 1 13 C dX8_within_1 (by decide) h (fun h => ?_) (fun h => ?_)
  · exact w_X8_within_b13 C (lv_sub hl [] rfl) h
  · refine v_iload_n 4 C dX8_within_4 rfl (lv_at hl 0 rfl) ?_
    refine v_iload_n 5 C dX8_within_5 rfl (lv_at hl 1 rfl) ?_
    refine v_icmp_gt 6 13 C dX8_within_6 (by decide) h (fun h => ?_) (fun h => ?_)
    · exact w_X8_within_b13 C (lv_sub hl [] rfl) h
    · refine v_iconst 9 C (v := (1 : Int32)) dX8_within_9 (by decide) ?_
      refine v_goto 10 14 C dX8_within_10 (by decide) ?_
      exact w_X8_within_b14 C (lv_sub hl [] rfl) h
theorem c_X8_within {w : zWd} {l0 : Launch} {x0 : Int32} {x1 : Int32} {S S1 : zMem} {r : Int32} (h : f_X8_within x0 x1 S = some (r, S1)) : zMet LC w l0 yX8_within cX8_within 2 (some .boolean) 1 [.int x0, .int x1] S (some (.int r)) S1 :=
  zMet_of (by decide +kernel) (Nat.le_of_ble_eq_true rfl) (fun X ls C hl => w_X8_within_b0 C hl h)
theorem ml_X8_152 : Cond.methodLink RX8 152 yX8_within ∈ zT := zT_of (List.mem_of_getElem? (i := 370) (by decide +kernel)) rfl
theorem hy_X8_within : zYs yX8_within cX8_within 2 (some .boolean) 2 := ⟨⟨zT_of (List.mem_of_getElem? (i := 372) (by decide +kernel)) rfl, zT_of (List.mem_of_getElem? (i := 70) (by decide +kernel)) rfl, by decide, by decide +kernel, by decide +kernel, by decide +kernel⟩, zT_of (List.mem_of_getElem? (i := 371) (by decide +kernel)) rfl⟩
theorem dX8_isRow_0 : decode cX8_isRow 0 = .ok (.iload_n 0, 1) := by decide +kernel
theorem dX8_isRow_1 : decode cX8_isRow 1 = .ok (.iconst 5, 1) := by decide +kernel
theorem dX8_isRow_2 : decode cX8_isRow 2 = .ok (.invokestatic 152, 3) := by decide +kernel
theorem dX8_isRow_5 : decode cX8_isRow 5 = .ok (.ireturn, 1) := by decide +kernel
set_option maxRecDepth 20000 in
theorem w_X8_isRow_b0 {w : zWd} {X : zX} {l0 : Launch} {r : Int32} {S1 : zMem} (C : zC LC w X l0 cX8_isRow RX8 1 2 (some .boolean)) {x0 : Int32} {S : zMem} {ls : Array Slot} (hl : lv_has ls 1 [(0, .int x0)]) (h : X8_isRow_b0 x0 S = some (r, S1)) : zV LC w X (some (.int r)) S1 S 0 ls [] := by
  unfold X8_isRow_b0 at h
  refine v_iload_n 0 C dX8_isRow_0 rfl (lv_at hl 0 rfl) ?_
  refine v_iconst 1 C (v := (5 : Int32)) dX8_isRow_1 (by decide) ?_
  obtain ⟨v1, S, hc, h⟩ := zb_e h
  refine v_callSi 2 C [] dX8_isRow_2 ml_X8_152 hy_X8_within (c_X8_within  hc) (by decide) rfl hl.1 (Nat.le_of_ble_eq_true rfl) rfl ?_
  exact v_zreturn 5 C dX8_isRow_5 h
theorem c_X8_isRow {w : zWd} {l0 : Launch} {x0 : Int32} {S S1 : zMem} {r : Int32} (h : f_X8_isRow x0 S = some (r, S1)) : zMet LC w l0 yX8_isRow cX8_isRow 1 (some .boolean) 2 [.int x0] S (some (.int r)) S1 :=
  zMet_of (by decide +kernel) (Nat.le_of_ble_eq_true rfl) (fun X ls C hl => w_X8_isRow_b0 C hl h)
theorem fl_X8_330 : zFL RX8 330 7 11 := ⟨_, rfl, by decide, zT_of (List.mem_of_getElem? (i := 328) (by decide +kernel)) rfl⟩
theorem fp_7_11 : zFP 7 11 .int := fun q h => by cases h; exact ⟨rfl, by decide +kernel⟩
theorem fl_X8_69 : zFL RX8 69 7 10 := ⟨_, rfl, by decide, zT_of (List.mem_of_getElem? (i := 327) (by decide +kernel)) rfl⟩
theorem dX8_refuse_0 : decode cX8_refuse 0 = .ok (.aload_n 0, 1) := by decide +kernel
theorem dX8_refuse_1 : decode cX8_refuse 1 = .ok (.iload_n 1, 1) := by decide +kernel
theorem dX8_refuse_2 : decode cX8_refuse 2 = .ok (.putfield 330, 3) := by decide +kernel
theorem dX8_refuse_5 : decode cX8_refuse 5 = .ok (.aload_n 0, 1) := by decide +kernel
theorem dX8_refuse_6 : decode cX8_refuse 6 = .ok (.getfield 69, 3) := by decide +kernel
theorem dX8_refuse_9 : decode cX8_refuse 9 = .ok (.iload_n 1, 1) := by decide +kernel
theorem dX8_refuse_10 : decode cX8_refuse 10 = .ok (.dup2, 1) := by decide +kernel
theorem dX8_refuse_11 : decode cX8_refuse 11 = .ok (.iaload, 1) := by decide +kernel
theorem dX8_refuse_12 : decode cX8_refuse 12 = .ok (.iconst 1, 1) := by decide +kernel
theorem dX8_refuse_13 : decode cX8_refuse 13 = .ok (.iadd, 1) := by decide +kernel
theorem dX8_refuse_14 : decode cX8_refuse 14 = .ok (.iastore, 1) := by decide +kernel
theorem dX8_refuse_15 : decode cX8_refuse 15 = .ok (.bipush (-3), 2) := by decide +kernel
theorem dX8_refuse_17 : decode cX8_refuse 17 = .ok (.ireturn, 1) := by decide +kernel
set_option maxRecDepth 20000 in
theorem w_X8_refuse_b0 {w : zWd} {X : zX} {l0 : Launch} {r : Int32} {S1 : zMem} (C : zC LC w X l0 cX8_refuse RX8 2 1 (some .int)) {x1 : Int32} {S : zMem} {ls : Array Slot} (hl : lv_has ls 2 [(0, .ref (w.2.2.1 0)), (1, .int x1)]) (h : X8_refuse_b0 x1 S = some (r, S1)) : zV LC w X (some (.int r)) S1 S 0 ls [] := by
  unfold X8_refuse_b0 at h
  refine v_aload_n 0 C dX8_refuse_0 rfl (lv_at hl 0 rfl) ?_
  refine v_iload_n 1 C dX8_refuse_1 rfl (lv_at hl 1 rfl) ?_
  refine v_puti 2 C dX8_refuse_2 fl_X8_330 fp_7_11 rfl kC_0 h (fun S h => ?_)
  refine v_aload_n 5 C dX8_refuse_5 rfl (lv_at hl 0 rfl) ?_
  refine v_getr 6 (67) C dX8_refuse_6 fl_X8_69 rfl kC_0 rfl ?_
  refine v_iload_n 9 C dX8_refuse_9 rfl (lv_at hl 1 rfl) ?_
  refine v_dup2 10 C dX8_refuse_10 rfl rfl ?_
  refine v_iald 11 C dX8_refuse_11 kC_67 rfl h (fun v1 h => ?_)
  refine v_iconst 12 C (v := (1 : Int32)) dX8_refuse_12 (by decide) ?_
  refine v_iadd 13 C dX8_refuse_13 h (fun v2 h => ?_)
  refine v_iast 14 C dX8_refuse_14 kC_67 rfl h (fun S h => ?_)
  refine v_bipush 15 C (v := (-3 : Int32)) dX8_refuse_15 (by decide) ?_
  exact v_ireturn 17 C dX8_refuse_17 h
theorem c_X8_refuse {w : zWd} {l0 : Launch} {x1 : Int32} {S S1 : zMem} {r : Int32} (h : f_X8_refuse x1 S = some (r, S1)) : zMet LC w l0 yX8_refuse cX8_refuse 2 (some .int) 1 [.ref (w.2.2.1 0), .int x1] S (some (.int r)) S1 :=
  zMet_of (by decide +kernel) (Nat.le_of_ble_eq_true rfl) (fun X ls C hl => w_X8_refuse_b0 C hl h)
theorem fl_X7_13 : zFL RX7 13 6 0 := ⟨_, rfl, by decide, zT_of (List.mem_of_getElem? (i := 302) (by decide +kernel)) rfl⟩
theorem fl_X7_9 : zFL RX7 9 6 1 := ⟨_, rfl, by decide, zT_of (List.mem_of_getElem? (i := 307) (by decide +kernel)) rfl⟩
theorem fp_6_1 : zFP 6 1 .int := fun q h => by cases h; exact ⟨rfl, by decide +kernel⟩
theorem dX7_lieAnew_0 : decode cX7_lieAnew 0 = .ok (.iload_n 1, 1) := by decide +kernel
theorem dX7_lieAnew_1 : decode cX7_lieAnew 1 = .ok (.ifCond .lt 12, 3) := by decide +kernel
theorem dX7_lieAnew_4 : decode cX7_lieAnew 4 = .ok (.iload_n 1, 1) := by decide +kernel
theorem dX7_lieAnew_5 : decode cX7_lieAnew 5 = .ok (.aload_n 0, 1) := by decide +kernel
theorem dX7_lieAnew_6 : decode cX7_lieAnew 6 = .ok (.getfield 13, 3) := by decide +kernel
theorem dX7_lieAnew_9 : decode cX7_lieAnew 9 = .ok (.arraylength, 1) := by decide +kernel
theorem dX7_lieAnew_10 : decode cX7_lieAnew 10 = .ok (.if_icmp .le 4, 3) := by decide +kernel
theorem dX7_lieAnew_13 : decode cX7_lieAnew 13 = .ok (.return_, 1) := by decide +kernel
theorem dX7_lieAnew_14 : decode cX7_lieAnew 14 = .ok (.aload_n 0, 1) := by decide +kernel
theorem dX7_lieAnew_15 : decode cX7_lieAnew 15 = .ok (.iload_n 1, 1) := by decide +kernel
theorem dX7_lieAnew_16 : decode cX7_lieAnew 16 = .ok (.putfield 9, 3) := by decide +kernel
theorem dX7_lieAnew_19 : decode cX7_lieAnew 19 = .ok (.iconst 0, 1) := by decide +kernel
theorem dX7_lieAnew_20 : decode cX7_lieAnew 20 = .ok (.istore_n 3, 1) := by decide +kernel
theorem dX7_lieAnew_21 : decode cX7_lieAnew 21 = .ok (.iload_n 3, 1) := by decide +kernel
theorem dX7_lieAnew_22 : decode cX7_lieAnew 22 = .ok (.iload_n 1, 1) := by decide +kernel
theorem dX7_lieAnew_23 : decode cX7_lieAnew 23 = .ok (.if_icmp .ge 16, 3) := by decide +kernel
theorem dX7_lieAnew_26 : decode cX7_lieAnew 26 = .ok (.aload_n 0, 1) := by decide +kernel
theorem dX7_lieAnew_27 : decode cX7_lieAnew 27 = .ok (.getfield 13, 3) := by decide +kernel
theorem dX7_lieAnew_30 : decode cX7_lieAnew 30 = .ok (.iload_n 3, 1) := by decide +kernel
theorem dX7_lieAnew_31 : decode cX7_lieAnew 31 = .ok (.iload_n 2, 1) := by decide +kernel
theorem dX7_lieAnew_32 : decode cX7_lieAnew 32 = .ok (.iastore, 1) := by decide +kernel
theorem dX7_lieAnew_33 : decode cX7_lieAnew 33 = .ok (.iinc 3 1, 3) := by decide +kernel
theorem dX7_lieAnew_36 : decode cX7_lieAnew 36 = .ok (.goto (-15), 3) := by decide +kernel
theorem dX7_lieAnew_39 : decode cX7_lieAnew 39 = .ok (.return_, 1) := by decide +kernel
set_option maxRecDepth 20000 in
theorem w_X7_lieAnew_b13 {w : zWd} {X : zX} {l0 : Launch} {r : Unit} {S1 : zMem} (C : zC LC w X l0 cX7_lieAnew RX7 4 1 none) {S : zMem} {ls : Array Slot} (hl : lv_has ls 4 []) (h : X7_lieAnew_b13  S = some (r, S1)) : zV LC w X none S1 S 13 ls [] := by
  unfold X7_lieAnew_b13 at h
  exact v_return 13 C dX7_lieAnew_13 h
set_option maxRecDepth 20000 in
theorem w_X7_lieAnew_b21 {w : zWd} {X : zX} {l0 : Launch} {r : Unit} {S1 : zMem} (C : zC LC w X l0 cX7_lieAnew RX7 4 1 none) {k21 : Nat → Int32 → Int32 → Int32 → zMem → Option (Unit × zMem)} (hc21 : ∀ (c0 : Nat) (x1 : Int32) (x2 : Int32) (x3 : Int32) (S : zMem) (ls : Array Slot), lv_has ls 4 [(0, .ref (w.2.2.1 c0)), (1, .int x1), (2, .int x2), (3, .int x3)] → (c0 < LC.1 ∧ LC.2.1 c0 = 9) → k21 c0 x1 x2 x3 S = some (r, S1) → zV LC w X none S1 S 21 ls []) {c0 : Nat} {x1 : Int32} {x2 : Int32} {x3 : Int32} {S : zMem} {ls : Array Slot} (hl : lv_has ls 4 [(0, .ref (w.2.2.1 c0)), (1, .int x1), (2, .int x2), (3, .int x3)]) (hk_c0 : c0 < LC.1 ∧ LC.2.1 c0 = 9) (h : X7_lieAnew_b21 k21 c0 x1 x2 x3 S = some (r, S1)) : zV LC w X none S1 S 21 ls [] := by
  unfold X7_lieAnew_b21 at h
  refine v_iload_n 21 C dX7_lieAnew_21 rfl (lv_at hl 3 rfl) ?_
  refine v_iload_n 22 C dX7_lieAnew_22 rfl (lv_at hl 1 rfl) ?_
  refine v_icmp_ge 23 39 C dX7_lieAnew_23 (by decide) h (fun h => ?_) (fun h => ?_)
  · exact v_return 39 C dX7_lieAnew_39 h
  · refine v_aload_n 26 C dX7_lieAnew_26 rfl (lv_at hl 0 rfl) ?_
    refine v_getr 27 (c0 + 1) C dX7_lieAnew_27 fl_X7_13 rfl hk_c0 (rS1 hk_c0) ?_
    refine v_iload_n 30 C dX7_lieAnew_30 rfl (lv_at hl 3 rfl) ?_
    refine v_iload_n 31 C dX7_lieAnew_31 rfl (lv_at hl 2 rfl) ?_
    refine v_iast 32 C dX7_lieAnew_32 (kS1 hk_c0) rfl h (fun S h => ?_)
    refine v_iinc 33 C (nn := (1 : Int32)) (fun v => [(3, .int v), (0, .ref (w.2.2.1 c0)), (1, .int x1), (2, .int x2)]) dX7_lieAnew_33 hl (k := 3) rfl (by decide) (by decide) (fun _ => rfl) h (fun v1 ls hl h => ?_)
    refine v_goto 36 21 C dX7_lieAnew_36 (by decide) ?_
    exact hc21 _ _ _ _ _ _ (lv_sub hl [1, 2, 3, 0] rfl) hk_c0 h
theorem w_X7_lieAnew_l21 {w : zWd} {X : zX} {l0 : Launch} {r : Unit} {S1 : zMem} (C : zC LC w X l0 cX7_lieAnew RX7 4 1 none) : ∀ (n : Nat) (c0 : Nat) (x1 : Int32) (x2 : Int32) (x3 : Int32) (S : zMem) (ls : Array Slot), lv_has ls 4 [(0, .ref (w.2.2.1 c0)), (1, .int x1), (2, .int x2), (3, .int x3)] → (c0 < LC.1 ∧ LC.2.1 c0 = 9) → X7_lieAnew_l21 n c0 x1 x2 x3 S = some (r, S1) → zV LC w X none S1 S 21 ls [] := by
  intro n
  induction n with
  | zero =>
    intro c0 x1 x2 x3 S ls hl hk_c0 h
    cases (show (none : Option (Unit × zMem)) = some _ from h)
  | succ n ih =>
    intro c0 x1 x2 x3 S ls hl hk_c0 h
    exact w_X7_lieAnew_b21 C ih hl hk_c0 h
set_option maxRecDepth 20000 in
theorem w_X7_lieAnew_b0 {w : zWd} {X : zX} {l0 : Launch} {r : Unit} {S1 : zMem} (C : zC LC w X l0 cX7_lieAnew RX7 4 1 none) {c0 : Nat} {x1 : Int32} {x2 : Int32} {S : zMem} {ls : Array Slot} (hl : lv_has ls 4 [(0, .ref (w.2.2.1 c0)), (1, .int x1), (2, .int x2)]) (hk_c0 : c0 < LC.1 ∧ LC.2.1 c0 = 9) (h : X7_lieAnew_b0 c0 x1 x2 S = some (r, S1)) : zV LC w X none S1 S 0 ls [] := by
  unfold X7_lieAnew_b0 at h
  refine v_iload_n 0 C dX7_lieAnew_0 rfl (lv_at hl 1 rfl) ?_
  refine v_if_lt 1 13 C dX7_lieAnew_1 (by decide) h (fun h => ?_) (fun h => ?_)
  · exact w_X7_lieAnew_b13 C (lv_sub hl [] rfl) h
  · refine v_iload_n 4 C dX7_lieAnew_4 rfl (lv_at hl 1 rfl) ?_
    refine v_aload_n 5 C dX7_lieAnew_5 rfl (lv_at hl 0 rfl) ?_
    refine v_getr 6 (c0 + 1) C dX7_lieAnew_6 fl_X7_13 rfl hk_c0 (rS1 hk_c0) ?_
    refine v_ilen 9 C (v := (Int32.ofNat (lnC (c0 + 1)))) dX7_lieAnew_9 (kS1 hk_c0) rfl ?_
    refine v_icmp_le 10 14 C dX7_lieAnew_10 (by decide) h (fun h => ?_) (fun h => ?_)
    · refine v_aload_n 14 C dX7_lieAnew_14 rfl (lv_at hl 0 rfl) ?_
      refine v_iload_n 15 C dX7_lieAnew_15 rfl (lv_at hl 1 rfl) ?_
      refine v_puti 16 C dX7_lieAnew_16 fl_X7_9 fp_6_1 rfl hk_c0 h (fun S h => ?_)
      refine v_iconst 19 C (v := (0 : Int32)) dX7_lieAnew_19 (by decide) ?_
      refine v_istore_n 20 C [(3, .int (0 : Int32)), (0, .ref (w.2.2.1 c0)), (1, .int x1), (2, .int x2)] dX7_lieAnew_20 rfl hl (by decide) rfl (fun ls hl => ?_)
      exact w_X7_lieAnew_l21 C zF _ _ _ _ _ _ (lv_sub hl [1, 2, 3, 0] rfl) hk_c0 h
    · exact w_X7_lieAnew_b13 C (lv_sub hl [] rfl) h
theorem c_X7_lieAnew {w : zWd} {l0 : Launch} {c0 : Nat} {x1 : Int32} {x2 : Int32} {S S1 : zMem} {r : Unit} (hk_c0 : c0 < LC.1 ∧ LC.2.1 c0 = 9) (h : f_X7_lieAnew c0 x1 x2 S = some (r, S1)) : zMet LC w l0 yX7_lieAnew cX7_lieAnew 4 none 1 [.ref (w.2.2.1 c0), .int x1, .int x2] S none S1 :=
  zMet_of (by decide +kernel) (Nat.le_of_ble_eq_true rfl) (fun X ls C hl => w_X7_lieAnew_b0 C hl hk_c0 h)
theorem ml_X8_80 : Cond.methodLink RX8 80 yX8_isRow ∈ zT := zT_of (List.mem_of_getElem? (i := 367) (by decide +kernel)) rfl
theorem hy_X8_isRow : zYs yX8_isRow cX8_isRow 1 (some .boolean) 1 := ⟨⟨zT_of (List.mem_of_getElem? (i := 369) (by decide +kernel)) rfl, zT_of (List.mem_of_getElem? (i := 70) (by decide +kernel)) rfl, by decide, by decide +kernel, by decide +kernel, by decide +kernel⟩, zT_of (List.mem_of_getElem? (i := 368) (by decide +kernel)) rfl⟩
theorem fl_X8_11 : zFL RX8 11 7 0 := ⟨_, rfl, by decide, zT_of (List.mem_of_getElem? (i := 317) (by decide +kernel)) rfl⟩
theorem ml_X8_88 : Cond.methodLink RX8 88 yX7_lieAnew ∈ zT := zT_of (List.mem_of_getElem? (i := 377) (by decide +kernel)) rfl
theorem hy_X7_lieAnew : zYv yX7_lieAnew cX7_lieAnew 4 none 2 := ⟨⟨zT_of (List.mem_of_getElem? (i := 380) (by decide +kernel)) rfl, zT_of (List.mem_of_getElem? (i := 77) (by decide +kernel)) rfl, by decide, by decide +kernel, by decide +kernel, by decide +kernel⟩, zT_of (List.mem_of_getElem? (i := 378) (by decide +kernel)) rfl, zT_of (List.mem_of_getElem? (i := 379) (by decide +kernel)) rfl⟩
theorem ml_X8_84 : Cond.methodLink RX8 84 yX8_refuse ∈ zT := zT_of (List.mem_of_getElem? (i := 373) (by decide +kernel)) rfl
theorem hy_X8_refuse : zYv yX8_refuse cX8_refuse 2 (some .int) 1 := ⟨⟨zT_of (List.mem_of_getElem? (i := 376) (by decide +kernel)) rfl, zT_of (List.mem_of_getElem? (i := 70) (by decide +kernel)) rfl, by decide, by decide +kernel, by decide +kernel, by decide +kernel⟩, zT_of (List.mem_of_getElem? (i := 375) (by decide +kernel)) rfl, zT_of (List.mem_of_getElem? (i := 0) (by decide +kernel)) rfl⟩
theorem dX8_row_0 : decode cX8_row 0 = .ok (.iload_n 1, 1) := by decide +kernel
theorem dX8_row_1 : decode cX8_row 1 = .ok (.invokestatic 80, 3) := by decide +kernel
theorem dX8_row_4 : decode cX8_row 4 = .ok (.ifCond .eq 9, 3) := by decide +kernel
theorem dX8_row_7 : decode cX8_row 7 = .ok (.iload_n 2, 1) := by decide +kernel
theorem dX8_row_8 : decode cX8_row 8 = .ok (.bipush 40, 2) := by decide +kernel
theorem dX8_row_10 : decode cX8_row 10 = .ok (.if_icmp .le 5, 3) := by decide +kernel
theorem dX8_row_13 : decode cX8_row 13 = .ok (.iconst (-1), 1) := by decide +kernel
theorem dX8_row_14 : decode cX8_row 14 = .ok (.ireturn, 1) := by decide +kernel
theorem dX8_row_15 : decode cX8_row 15 = .ok (.iload_n 2, 1) := by decide +kernel
theorem dX8_row_16 : decode cX8_row 16 = .ok (.ifCond .ge 9, 3) := by decide +kernel
theorem dX8_row_19 : decode cX8_row 19 = .ok (.aload_n 0, 1) := by decide +kernel
theorem dX8_row_20 : decode cX8_row 20 = .ok (.iconst 5, 1) := by decide +kernel
theorem dX8_row_21 : decode cX8_row 21 = .ok (.invokevirtual 84, 3) := by decide +kernel
theorem dX8_row_24 : decode cX8_row 24 = .ok (.ireturn, 1) := by decide +kernel
theorem dX8_row_25 : decode cX8_row 25 = .ok (.aload_n 0, 1) := by decide +kernel
theorem dX8_row_26 : decode cX8_row 26 = .ok (.getfield 11, 3) := by decide +kernel
theorem dX8_row_29 : decode cX8_row 29 = .ok (.iload_n 1, 1) := by decide +kernel
theorem dX8_row_30 : decode cX8_row 30 = .ok (.aaload, 1) := by decide +kernel
theorem dX8_row_31 : decode cX8_row 31 = .ok (.iload_n 2, 1) := by decide +kernel
theorem dX8_row_32 : decode cX8_row 32 = .ok (.iconst 0, 1) := by decide +kernel
theorem dX8_row_33 : decode cX8_row 33 = .ok (.invokevirtual 88, 3) := by decide +kernel
theorem dX8_row_36 : decode cX8_row 36 = .ok (.iload_n 2, 1) := by decide +kernel
theorem dX8_row_37 : decode cX8_row 37 = .ok (.ireturn, 1) := by decide +kernel
set_option maxRecDepth 20000 in
theorem w_X8_row_b13 {w : zWd} {X : zX} {l0 : Launch} {r : Int32} {S1 : zMem} (C : zC LC w X l0 cX8_row RX8 3 3 (some .int)) {S : zMem} {ls : Array Slot} (hl : lv_has ls 3 []) (h : X8_row_b13  S = some (r, S1)) : zV LC w X (some (.int r)) S1 S 13 ls [] := by
  unfold X8_row_b13 at h
  refine v_iconst 13 C (v := (-1 : Int32)) dX8_row_13 (by decide) ?_
  exact v_ireturn 14 C dX8_row_14 h
set_option maxRecDepth 20000 in
theorem w_X8_row_b0 {w : zWd} {X : zX} {l0 : Launch} {r : Int32} {S1 : zMem} (C : zC LC w X l0 cX8_row RX8 3 3 (some .int)) {x1 : Int32} {x2 : Int32} {S : zMem} {ls : Array Slot} (hl : lv_has ls 3 [(0, .ref (w.2.2.1 0)), (1, .int x1), (2, .int x2)]) (h : X8_row_b0 x1 x2 S = some (r, S1)) : zV LC w X (some (.int r)) S1 S 0 ls [] := by
  unfold X8_row_b0 at h
  refine v_iload_n 0 C dX8_row_0 rfl (lv_at hl 1 rfl) ?_
  obtain ⟨v1, S, hc, h⟩ := zb_e h
  refine v_callSi 1 C [] dX8_row_1 ml_X8_80 hy_X8_isRow (c_X8_isRow  hc) (by decide) rfl hl.1 (Nat.le_of_ble_eq_true rfl) rfl ?_
  refine v_if_eq 4 13 C dX8_row_4 (by decide) h (fun h => ?_) (fun h => ?_)
  · exact w_X8_row_b13 C (lv_sub hl [] rfl) h
  · refine v_iload_n 7 C dX8_row_7 rfl (lv_at hl 2 rfl) ?_
    refine v_bipush 8 C (v := (40 : Int32)) dX8_row_8 (by decide) ?_
    refine v_icmp_le 10 15 C dX8_row_10 (by decide) h (fun h => ?_) (fun h => ?_)
    · refine v_iload_n 15 C dX8_row_15 rfl (lv_at hl 2 rfl) ?_
      refine v_if_ge 16 25 C dX8_row_16 (by decide) h (fun h => ?_) (fun h => ?_)
      · refine v_aload_n 25 C dX8_row_25 rfl (lv_at hl 0 rfl) ?_
        refine v_getr 26 (1) C dX8_row_26 fl_X8_11 rfl kC_0 rfl ?_
        refine v_iload_n 29 C dX8_row_29 rfl (lv_at hl 1 rfl) ?_
        refine v_aald 30 (4 + 2 * Int32.toNatClampNeg x1) C dX8_row_30 kC_1 (Or.inl rfl) rfl rfl h (fun hz2 h => ?_)
        refine v_iload_n 31 C dX8_row_31 rfl (lv_at hl 2 rfl) ?_
        refine v_iconst 32 C (v := (0 : Int32)) dX8_row_32 (by decide) ?_
        obtain ⟨v3, S, hc, h⟩ := zb_e h
        refine v_callVv 33 C (ci := 6) [] dX8_row_33 ml_X8_88 hy_X7_lieAnew (c_X7_lieAnew (kRow hz2) hc) (by decide) rfl hl.1 (kRow hz2) rfl (Nat.le_of_ble_eq_true rfl) rfl ?_
        refine v_iload_n 36 C dX8_row_36 rfl (lv_at hl 2 rfl) ?_
        exact v_ireturn 37 C dX8_row_37 h
      · refine v_aload_n 19 C dX8_row_19 rfl (lv_at hl 0 rfl) ?_
        refine v_iconst 20 C (v := (5 : Int32)) dX8_row_20 (by decide) ?_
        obtain ⟨v4, S, hc, h⟩ := zb_e h
        refine v_callVi 21 C (ci := 7) [] dX8_row_21 ml_X8_84 hy_X8_refuse (c_X8_refuse  hc) (by decide) rfl hl.1 kC_0 rfl (Nat.le_of_ble_eq_true rfl) rfl ?_
        exact v_ireturn 24 C dX8_row_24 h
    · exact w_X8_row_b13 C (lv_sub hl [] rfl) h
theorem c_X8_row {w : zWd} {l0 : Launch} {x1 : Int32} {x2 : Int32} {S S1 : zMem} {r : Int32} (h : f_X8_row x1 x2 S = some (r, S1)) : zMet LC w l0 yX8_row cX8_row 3 (some .int) 3 [.ref (w.2.2.1 0), .int x1, .int x2] S (some (.int r)) S1 :=
  zMet_of (by decide +kernel) (Nat.le_of_ble_eq_true rfl) (fun X ls C hl => w_X8_row_b0 C hl h)
theorem dX7_isThere_0 : decode cX7_isThere 0 = .ok (.aload_n 0, 1) := by decide +kernel
theorem dX7_isThere_1 : decode cX7_isThere 1 = .ok (.getfield 9, 3) := by decide +kernel
theorem dX7_isThere_4 : decode cX7_isThere 4 = .ok (.iconst (-1), 1) := by decide +kernel
theorem dX7_isThere_5 : decode cX7_isThere 5 = .ok (.if_icmp .eq 7, 3) := by decide +kernel
theorem dX7_isThere_8 : decode cX7_isThere 8 = .ok (.iconst 1, 1) := by decide +kernel
theorem dX7_isThere_9 : decode cX7_isThere 9 = .ok (.goto 4, 3) := by decide +kernel
theorem dX7_isThere_12 : decode cX7_isThere 12 = .ok (.iconst 0, 1) := by decide +kernel
theorem dX7_isThere_13 : decode cX7_isThere 13 = .ok (.ireturn, 1) := by decide +kernel
set_option maxRecDepth 20000 in
theorem w_X7_isThere_b13 {w : zWd} {X : zX} {l0 : Launch} {r : Int32} {S1 : zMem} (C : zC LC w X l0 cX7_isThere RX7 1 1 (some .boolean)) {s0 : Int32} {S : zMem} {ls : Array Slot} (hl : lv_has ls 1 []) (h : X7_isThere_b13 s0 S = some (r, S1)) : zV LC w X (some (.int r)) S1 S 13 ls [.int s0] := by
  unfold X7_isThere_b13 at h
  exact v_zreturn 13 C dX7_isThere_13 h
set_option maxRecDepth 20000 in
theorem w_X7_isThere_b0 {w : zWd} {X : zX} {l0 : Launch} {r : Int32} {S1 : zMem} (C : zC LC w X l0 cX7_isThere RX7 1 1 (some .boolean)) {c0 : Nat} {S : zMem} {ls : Array Slot} (hl : lv_has ls 1 [(0, .ref (w.2.2.1 c0))]) (hk_c0 : c0 < LC.1 ∧ LC.2.1 c0 = 9) (h : X7_isThere_b0 c0 S = some (r, S1)) : zV LC w X (some (.int r)) S1 S 0 ls [] := by
  unfold X7_isThere_b0 at h
  refine v_aload_n 0 C dX7_isThere_0 rfl (lv_at hl 0 rfl) ?_
  refine v_geti 1 C dX7_isThere_1 fl_X7_9 rfl hk_c0 h (fun v1 h => ?_)
  refine v_iconst 4 C (v := (-1 : Int32)) dX7_isThere_4 (by decide) ?_
  refine v_icmp_eq 5 12 C dX7_isThere_5 (by decide) h (fun h => ?_) (fun h => ?_)
  · refine v_iconst 12 C (v := (0 : Int32)) dX7_isThere_12 (by decide) ?_
    exact w_X7_isThere_b13 C (lv_sub hl [] rfl) h
  · refine v_iconst 8 C (v := (1 : Int32)) dX7_isThere_8 (by decide) ?_
    refine v_goto 9 13 C dX7_isThere_9 (by decide) ?_
    exact w_X7_isThere_b13 C (lv_sub hl [] rfl) h
theorem c_X7_isThere {w : zWd} {l0 : Launch} {c0 : Nat} {S S1 : zMem} {r : Int32} (hk_c0 : c0 < LC.1 ∧ LC.2.1 c0 = 9) (h : f_X7_isThere c0 S = some (r, S1)) : zMet LC w l0 yX7_isThere cX7_isThere 1 (some .boolean) 1 [.ref (w.2.2.1 c0)] S (some (.int r)) S1 :=
  zMet_of (by decide +kernel) (Nat.le_of_ble_eq_true rfl) (fun X ls C hl => w_X7_isThere_b0 C hl hk_c0 h)
theorem dX7_has_0 : decode cX7_has 0 = .ok (.iload_n 1, 1) := by decide +kernel
theorem dX7_has_1 : decode cX7_has 1 = .ok (.ifCond .lt 15, 3) := by decide +kernel
theorem dX7_has_4 : decode cX7_has 4 = .ok (.iload_n 1, 1) := by decide +kernel
theorem dX7_has_5 : decode cX7_has 5 = .ok (.aload_n 0, 1) := by decide +kernel
theorem dX7_has_6 : decode cX7_has 6 = .ok (.getfield 9, 3) := by decide +kernel
theorem dX7_has_9 : decode cX7_has 9 = .ok (.if_icmp .ge 7, 3) := by decide +kernel
theorem dX7_has_12 : decode cX7_has 12 = .ok (.iconst 1, 1) := by decide +kernel
theorem dX7_has_13 : decode cX7_has 13 = .ok (.goto 4, 3) := by decide +kernel
theorem dX7_has_16 : decode cX7_has 16 = .ok (.iconst 0, 1) := by decide +kernel
theorem dX7_has_17 : decode cX7_has 17 = .ok (.ireturn, 1) := by decide +kernel
set_option maxRecDepth 20000 in
theorem w_X7_has_b17 {w : zWd} {X : zX} {l0 : Launch} {r : Int32} {S1 : zMem} (C : zC LC w X l0 cX7_has RX7 2 1 (some .boolean)) {s0 : Int32} {S : zMem} {ls : Array Slot} (hl : lv_has ls 2 []) (h : X7_has_b17 s0 S = some (r, S1)) : zV LC w X (some (.int r)) S1 S 17 ls [.int s0] := by
  unfold X7_has_b17 at h
  exact v_zreturn 17 C dX7_has_17 h
set_option maxRecDepth 20000 in
theorem w_X7_has_b16 {w : zWd} {X : zX} {l0 : Launch} {r : Int32} {S1 : zMem} (C : zC LC w X l0 cX7_has RX7 2 1 (some .boolean)) {S : zMem} {ls : Array Slot} (hl : lv_has ls 2 []) (h : X7_has_b16  S = some (r, S1)) : zV LC w X (some (.int r)) S1 S 16 ls [] := by
  unfold X7_has_b16 at h
  refine v_iconst 16 C (v := (0 : Int32)) dX7_has_16 (by decide) ?_
  exact w_X7_has_b17 C (lv_sub hl [] rfl) h
set_option maxRecDepth 20000 in
theorem w_X7_has_b0 {w : zWd} {X : zX} {l0 : Launch} {r : Int32} {S1 : zMem} (C : zC LC w X l0 cX7_has RX7 2 1 (some .boolean)) {c0 : Nat} {x1 : Int32} {S : zMem} {ls : Array Slot} (hl : lv_has ls 2 [(0, .ref (w.2.2.1 c0)), (1, .int x1)]) (hk_c0 : c0 < LC.1 ∧ LC.2.1 c0 = 9) (h : X7_has_b0 c0 x1 S = some (r, S1)) : zV LC w X (some (.int r)) S1 S 0 ls [] := by
  unfold X7_has_b0 at h
  refine v_iload_n 0 C dX7_has_0 rfl (lv_at hl 1 rfl) ?_
  refine v_if_lt 1 16 C dX7_has_1 (by decide) h (fun h => ?_) (fun h => ?_)
  · exact w_X7_has_b16 C (lv_sub hl [] rfl) h
  · refine v_iload_n 4 C dX7_has_4 rfl (lv_at hl 1 rfl) ?_
    refine v_aload_n 5 C dX7_has_5 rfl (lv_at hl 0 rfl) ?_
    refine v_geti 6 C dX7_has_6 fl_X7_9 rfl hk_c0 h (fun v1 h => ?_)
    refine v_icmp_ge 9 16 C dX7_has_9 (by decide) h (fun h => ?_) (fun h => ?_)
    · exact w_X7_has_b16 C (lv_sub hl [] rfl) h
    · refine v_iconst 12 C (v := (1 : Int32)) dX7_has_12 (by decide) ?_
      refine v_goto 13 17 C dX7_has_13 (by decide) ?_
      exact w_X7_has_b17 C (lv_sub hl [] rfl) h
theorem c_X7_has {w : zWd} {l0 : Launch} {c0 : Nat} {x1 : Int32} {S S1 : zMem} {r : Int32} (hk_c0 : c0 < LC.1 ∧ LC.2.1 c0 = 9) (h : f_X7_has c0 x1 S = some (r, S1)) : zMet LC w l0 yX7_has cX7_has 2 (some .boolean) 1 [.ref (w.2.2.1 c0), .int x1] S (some (.int r)) S1 :=
  zMet_of (by decide +kernel) (Nat.le_of_ble_eq_true rfl) (fun X ls C hl => w_X7_has_b0 C hl hk_c0 h)
theorem fl_X8_321 : zFL RX8 321 7 12 := ⟨_, rfl, by decide, zT_of (List.mem_of_getElem? (i := 329) (by decide +kernel)) rfl⟩
theorem fp_7_12 : zFP 7 12 .int := fun q h => by cases h; exact ⟨rfl, by decide +kernel⟩
theorem dX8_tell_0 : decode cX8_tell 0 = .ok (.aload_n 0, 1) := by decide +kernel
theorem dX8_tell_1 : decode cX8_tell 1 = .ok (.iload_n 1, 1) := by decide +kernel
theorem dX8_tell_2 : decode cX8_tell 2 = .ok (.putfield 321, 3) := by decide +kernel
theorem dX8_tell_5 : decode cX8_tell 5 = .ok (.iconst 1, 1) := by decide +kernel
theorem dX8_tell_6 : decode cX8_tell 6 = .ok (.ireturn, 1) := by decide +kernel
set_option maxRecDepth 20000 in
theorem w_X8_tell_b0 {w : zWd} {X : zX} {l0 : Launch} {r : Int32} {S1 : zMem} (C : zC LC w X l0 cX8_tell RX8 2 1 (some .int)) {x1 : Int32} {S : zMem} {ls : Array Slot} (hl : lv_has ls 2 [(0, .ref (w.2.2.1 0)), (1, .int x1)]) (h : X8_tell_b0 x1 S = some (r, S1)) : zV LC w X (some (.int r)) S1 S 0 ls [] := by
  unfold X8_tell_b0 at h
  refine v_aload_n 0 C dX8_tell_0 rfl (lv_at hl 0 rfl) ?_
  refine v_iload_n 1 C dX8_tell_1 rfl (lv_at hl 1 rfl) ?_
  refine v_puti 2 C dX8_tell_2 fl_X8_321 fp_7_12 rfl kC_0 h (fun S h => ?_)
  refine v_iconst 5 C (v := (1 : Int32)) dX8_tell_5 (by decide) ?_
  exact v_ireturn 6 C dX8_tell_6 h
theorem c_X8_tell {w : zWd} {l0 : Launch} {x1 : Int32} {S S1 : zMem} {r : Int32} (h : f_X8_tell x1 S = some (r, S1)) : zMet LC w l0 yX8_tell cX8_tell 2 (some .int) 1 [.ref (w.2.2.1 0), .int x1] S (some (.int r)) S1 :=
  zMet_of (by decide +kernel) (Nat.le_of_ble_eq_true rfl) (fun X ls C hl => w_X8_tell_b0 C hl h)
theorem ml_X8_92 : Cond.methodLink RX8 92 yX7_isThere ∈ zT := zT_of (List.mem_of_getElem? (i := 385) (by decide +kernel)) rfl
theorem hy_X7_isThere : zYv yX7_isThere cX7_isThere 1 (some .boolean) 0 := ⟨⟨zT_of (List.mem_of_getElem? (i := 388) (by decide +kernel)) rfl, zT_of (List.mem_of_getElem? (i := 77) (by decide +kernel)) rfl, by decide, by decide +kernel, by decide +kernel, by decide +kernel⟩, zT_of (List.mem_of_getElem? (i := 386) (by decide +kernel)) rfl, zT_of (List.mem_of_getElem? (i := 387) (by decide +kernel)) rfl⟩
theorem ml_X8_96 : Cond.methodLink RX8 96 yX7_has ∈ zT := zT_of (List.mem_of_getElem? (i := 389) (by decide +kernel)) rfl
theorem hy_X7_has : zYv yX7_has cX7_has 2 (some .boolean) 1 := ⟨⟨zT_of (List.mem_of_getElem? (i := 392) (by decide +kernel)) rfl, zT_of (List.mem_of_getElem? (i := 77) (by decide +kernel)) rfl, by decide, by decide +kernel, by decide +kernel, by decide +kernel⟩, zT_of (List.mem_of_getElem? (i := 390) (by decide +kernel)) rfl, zT_of (List.mem_of_getElem? (i := 391) (by decide +kernel)) rfl⟩
theorem fl_X8_99 : zFL RX8 99 6 0 := ⟨_, rfl, by decide, zT_of (List.mem_of_getElem? (i := 306) (by decide +kernel)) rfl⟩
theorem ml_X8_102 : Cond.methodLink RX8 102 yX8_tell ∈ zT := zT_of (List.mem_of_getElem? (i := 393) (by decide +kernel)) rfl
theorem hy_X8_tell : zYv yX8_tell cX8_tell 2 (some .int) 1 := ⟨⟨zT_of (List.mem_of_getElem? (i := 396) (by decide +kernel)) rfl, zT_of (List.mem_of_getElem? (i := 70) (by decide +kernel)) rfl, by decide, by decide +kernel, by decide +kernel, by decide +kernel⟩, zT_of (List.mem_of_getElem? (i := 395) (by decide +kernel)) rfl, zT_of (List.mem_of_getElem? (i := 1) (by decide +kernel)) rfl⟩
theorem dX8_lay_0 : decode cX8_lay 0 = .ok (.iload_n 1, 1) := by decide +kernel
theorem dX8_lay_1 : decode cX8_lay 1 = .ok (.invokestatic 80, 3) := by decide +kernel
theorem dX8_lay_4 : decode cX8_lay 4 = .ok (.ifCond .ne 5, 3) := by decide +kernel
theorem dX8_lay_7 : decode cX8_lay 7 = .ok (.iconst (-1), 1) := by decide +kernel
theorem dX8_lay_8 : decode cX8_lay 8 = .ok (.ireturn, 1) := by decide +kernel
theorem dX8_lay_9 : decode cX8_lay 9 = .ok (.aload_n 0, 1) := by decide +kernel
theorem dX8_lay_10 : decode cX8_lay 10 = .ok (.getfield 11, 3) := by decide +kernel
theorem dX8_lay_13 : decode cX8_lay 13 = .ok (.iload_n 1, 1) := by decide +kernel
theorem dX8_lay_14 : decode cX8_lay 14 = .ok (.aaload, 1) := by decide +kernel
theorem dX8_lay_15 : decode cX8_lay 15 = .ok (.astore 4, 2) := by decide +kernel
theorem dX8_lay_17 : decode cX8_lay 17 = .ok (.aload 4, 2) := by decide +kernel
theorem dX8_lay_19 : decode cX8_lay 19 = .ok (.invokevirtual 92, 3) := by decide +kernel
theorem dX8_lay_22 : decode cX8_lay 22 = .ok (.ifCond .ne 9, 3) := by decide +kernel
theorem dX8_lay_25 : decode cX8_lay 25 = .ok (.aload_n 0, 1) := by decide +kernel
theorem dX8_lay_26 : decode cX8_lay 26 = .ok (.iconst 1, 1) := by decide +kernel
theorem dX8_lay_27 : decode cX8_lay 27 = .ok (.invokevirtual 84, 3) := by decide +kernel
theorem dX8_lay_30 : decode cX8_lay 30 = .ok (.ireturn, 1) := by decide +kernel
theorem dX8_lay_31 : decode cX8_lay 31 = .ok (.aload 4, 2) := by decide +kernel
theorem dX8_lay_33 : decode cX8_lay 33 = .ok (.iload_n 2, 1) := by decide +kernel
theorem dX8_lay_34 : decode cX8_lay 34 = .ok (.invokevirtual 96, 3) := by decide +kernel
theorem dX8_lay_37 : decode cX8_lay 37 = .ok (.ifCond .ne 9, 3) := by decide +kernel
theorem dX8_lay_40 : decode cX8_lay 40 = .ok (.aload_n 0, 1) := by decide +kernel
theorem dX8_lay_41 : decode cX8_lay 41 = .ok (.iconst 2, 1) := by decide +kernel
theorem dX8_lay_42 : decode cX8_lay 42 = .ok (.invokevirtual 84, 3) := by decide +kernel
theorem dX8_lay_45 : decode cX8_lay 45 = .ok (.ireturn, 1) := by decide +kernel
theorem dX8_lay_46 : decode cX8_lay 46 = .ok (.aload 4, 2) := by decide +kernel
theorem dX8_lay_48 : decode cX8_lay 48 = .ok (.getfield 99, 3) := by decide +kernel
theorem dX8_lay_51 : decode cX8_lay 51 = .ok (.iload_n 2, 1) := by decide +kernel
theorem dX8_lay_52 : decode cX8_lay 52 = .ok (.iaload, 1) := by decide +kernel
theorem dX8_lay_53 : decode cX8_lay 53 = .ok (.istore 5, 2) := by decide +kernel
theorem dX8_lay_55 : decode cX8_lay 55 = .ok (.aload 4, 2) := by decide +kernel
theorem dX8_lay_57 : decode cX8_lay 57 = .ok (.getfield 99, 3) := by decide +kernel
theorem dX8_lay_60 : decode cX8_lay 60 = .ok (.iload_n 2, 1) := by decide +kernel
theorem dX8_lay_61 : decode cX8_lay 61 = .ok (.iload_n 3, 1) := by decide +kernel
theorem dX8_lay_62 : decode cX8_lay 62 = .ok (.iastore, 1) := by decide +kernel
theorem dX8_lay_63 : decode cX8_lay 63 = .ok (.aload_n 0, 1) := by decide +kernel
theorem dX8_lay_64 : decode cX8_lay 64 = .ok (.iload 5, 2) := by decide +kernel
theorem dX8_lay_66 : decode cX8_lay 66 = .ok (.invokevirtual 102, 3) := by decide +kernel
theorem dX8_lay_69 : decode cX8_lay 69 = .ok (.ireturn, 1) := by decide +kernel
set_option maxRecDepth 20000 in
theorem w_X8_lay_b0 {w : zWd} {X : zX} {l0 : Launch} {r : Int32} {S1 : zMem} (C : zC LC w X l0 cX8_lay RX8 6 3 (some .int)) {x1 : Int32} {x2 : Int32} {x3 : Int32} {S : zMem} {ls : Array Slot} (hl : lv_has ls 6 [(0, .ref (w.2.2.1 0)), (1, .int x1), (2, .int x2), (3, .int x3)]) (h : X8_lay_b0 x1 x2 x3 S = some (r, S1)) : zV LC w X (some (.int r)) S1 S 0 ls [] := by
  unfold X8_lay_b0 at h
  refine v_iload_n 0 C dX8_lay_0 rfl (lv_at hl 1 rfl) ?_
  obtain ⟨v1, S, hc, h⟩ := zb_e h
  refine v_callSi 1 C [] dX8_lay_1 ml_X8_80 hy_X8_isRow (c_X8_isRow  hc) (by decide) rfl hl.1 (Nat.le_of_ble_eq_true rfl) rfl ?_
  refine v_if_ne 4 9 C dX8_lay_4 (by decide) h (fun h => ?_) (fun h => ?_)
  · refine v_aload_n 9 C dX8_lay_9 rfl (lv_at hl 0 rfl) ?_
    refine v_getr 10 (1) C dX8_lay_10 fl_X8_11 rfl kC_0 rfl ?_
    refine v_iload_n 13 C dX8_lay_13 rfl (lv_at hl 1 rfl) ?_
    refine v_aald 14 (4 + 2 * Int32.toNatClampNeg x1) C dX8_lay_14 kC_1 (Or.inl rfl) rfl rfl h (fun hz2 h => ?_)
    refine v_astore 15 C [(4, .ref (w.2.2.1 (4 + 2 * Int32.toNatClampNeg x1))), (0, .ref (w.2.2.1 0)), (1, .int x1), (2, .int x2), (3, .int x3)] dX8_lay_15 hl (by decide) rfl (fun ls hl => ?_)
    refine v_aload 17 C dX8_lay_17 (lv_at hl 0 rfl) ?_
    obtain ⟨v3, S, hc, h⟩ := zb_e h
    refine v_callVi 19 C (ci := 6) [] dX8_lay_19 ml_X8_92 hy_X7_isThere (c_X7_isThere (kRow hz2) hc) (by decide) rfl hl.1 (kRow hz2) rfl (Nat.le_of_ble_eq_true rfl) rfl ?_
    refine v_if_ne 22 31 C dX8_lay_22 (by decide) h (fun h => ?_) (fun h => ?_)
    · refine v_aload 31 C dX8_lay_31 (lv_at hl 0 rfl) ?_
      refine v_iload_n 33 C dX8_lay_33 rfl (lv_at hl 3 rfl) ?_
      obtain ⟨v4, S, hc, h⟩ := zb_e h
      refine v_callVi 34 C (ci := 6) [] dX8_lay_34 ml_X8_96 hy_X7_has (c_X7_has (kRow hz2) hc) (by decide) rfl hl.1 (kRow hz2) rfl (Nat.le_of_ble_eq_true rfl) rfl ?_
      refine v_if_ne 37 46 C dX8_lay_37 (by decide) h (fun h => ?_) (fun h => ?_)
      · refine v_aload 46 C dX8_lay_46 (lv_at hl 0 rfl) ?_
        refine v_getr 48 ((4 + 2 * Int32.toNatClampNeg x1) + 1) C dX8_lay_48 fl_X8_99 rfl (kRow hz2) (rS1 (kRow hz2)) ?_
        refine v_iload_n 51 C dX8_lay_51 rfl (lv_at hl 3 rfl) ?_
        refine v_iald 52 C dX8_lay_52 (kS1 (kRow hz2)) rfl h (fun v5 h => ?_)
        refine v_istore 53 C [(5, .int v5), (4, .ref (w.2.2.1 (4 + 2 * Int32.toNatClampNeg x1))), (0, .ref (w.2.2.1 0)), (1, .int x1), (2, .int x2), (3, .int x3)] dX8_lay_53 hl (by decide) rfl (fun ls hl => ?_)
        refine v_aload 55 C dX8_lay_55 (lv_at hl 1 rfl) ?_
        refine v_getr 57 ((4 + 2 * Int32.toNatClampNeg x1) + 1) C dX8_lay_57 fl_X8_99 rfl (kRow hz2) (rS1 (kRow hz2)) ?_
        refine v_iload_n 60 C dX8_lay_60 rfl (lv_at hl 4 rfl) ?_
        refine v_iload_n 61 C dX8_lay_61 rfl (lv_at hl 5 rfl) ?_
        refine v_iast 62 C dX8_lay_62 (kS1 (kRow hz2)) rfl h (fun S h => ?_)
        refine v_aload_n 63 C dX8_lay_63 rfl (lv_at hl 2 rfl) ?_
        refine v_iload 64 C dX8_lay_64 (lv_at hl 0 rfl) ?_
        obtain ⟨v6, S, hc, h⟩ := zb_e h
        refine v_callVi 66 C (ci := 7) [] dX8_lay_66 ml_X8_102 hy_X8_tell (c_X8_tell  hc) (by decide) rfl hl.1 kC_0 rfl (Nat.le_of_ble_eq_true rfl) rfl ?_
        exact v_ireturn 69 C dX8_lay_69 h
      · refine v_aload_n 40 C dX8_lay_40 rfl (lv_at hl 1 rfl) ?_
        refine v_iconst 41 C (v := (2 : Int32)) dX8_lay_41 (by decide) ?_
        obtain ⟨v7, S, hc, h⟩ := zb_e h
        refine v_callVi 42 C (ci := 7) [] dX8_lay_42 ml_X8_84 hy_X8_refuse (c_X8_refuse  hc) (by decide) rfl hl.1 kC_0 rfl (Nat.le_of_ble_eq_true rfl) rfl ?_
        exact v_ireturn 45 C dX8_lay_45 h
    · refine v_aload_n 25 C dX8_lay_25 rfl (lv_at hl 1 rfl) ?_
      refine v_iconst 26 C (v := (1 : Int32)) dX8_lay_26 (by decide) ?_
      obtain ⟨v8, S, hc, h⟩ := zb_e h
      refine v_callVi 27 C (ci := 7) [] dX8_lay_27 ml_X8_84 hy_X8_refuse (c_X8_refuse  hc) (by decide) rfl hl.1 kC_0 rfl (Nat.le_of_ble_eq_true rfl) rfl ?_
      exact v_ireturn 30 C dX8_lay_30 h
  · refine v_iconst 7 C (v := (-1 : Int32)) dX8_lay_7 (by decide) ?_
    exact v_ireturn 8 C dX8_lay_8 h
theorem c_X8_lay {w : zWd} {l0 : Launch} {x1 : Int32} {x2 : Int32} {x3 : Int32} {S S1 : zMem} {r : Int32} (h : f_X8_lay x1 x2 x3 S = some (r, S1)) : zMet LC w l0 yX8_lay cX8_lay 6 (some .int) 3 [.ref (w.2.2.1 0), .int x1, .int x2, .int x3] S (some (.int r)) S1 :=
  zMet_of (by decide +kernel) (Nat.le_of_ble_eq_true rfl) (fun X ls C hl => w_X8_lay_b0 C hl h)
theorem dX8_at_0 : decode cX8_at 0 = .ok (.iload_n 1, 1) := by decide +kernel
theorem dX8_at_1 : decode cX8_at 1 = .ok (.invokestatic 80, 3) := by decide +kernel
theorem dX8_at_4 : decode cX8_at 4 = .ok (.ifCond .ne 5, 3) := by decide +kernel
theorem dX8_at_7 : decode cX8_at 7 = .ok (.iconst (-1), 1) := by decide +kernel
theorem dX8_at_8 : decode cX8_at 8 = .ok (.ireturn, 1) := by decide +kernel
theorem dX8_at_9 : decode cX8_at 9 = .ok (.aload_n 0, 1) := by decide +kernel
theorem dX8_at_10 : decode cX8_at 10 = .ok (.getfield 11, 3) := by decide +kernel
theorem dX8_at_13 : decode cX8_at 13 = .ok (.iload_n 1, 1) := by decide +kernel
theorem dX8_at_14 : decode cX8_at 14 = .ok (.aaload, 1) := by decide +kernel
theorem dX8_at_15 : decode cX8_at 15 = .ok (.astore_n 3, 1) := by decide +kernel
theorem dX8_at_16 : decode cX8_at 16 = .ok (.aload_n 3, 1) := by decide +kernel
theorem dX8_at_17 : decode cX8_at 17 = .ok (.invokevirtual 92, 3) := by decide +kernel
theorem dX8_at_20 : decode cX8_at 20 = .ok (.ifCond .ne 9, 3) := by decide +kernel
theorem dX8_at_23 : decode cX8_at 23 = .ok (.aload_n 0, 1) := by decide +kernel
theorem dX8_at_24 : decode cX8_at 24 = .ok (.iconst 1, 1) := by decide +kernel
theorem dX8_at_25 : decode cX8_at 25 = .ok (.invokevirtual 84, 3) := by decide +kernel
theorem dX8_at_28 : decode cX8_at 28 = .ok (.ireturn, 1) := by decide +kernel
theorem dX8_at_29 : decode cX8_at 29 = .ok (.aload_n 3, 1) := by decide +kernel
theorem dX8_at_30 : decode cX8_at 30 = .ok (.iload_n 2, 1) := by decide +kernel
theorem dX8_at_31 : decode cX8_at 31 = .ok (.invokevirtual 96, 3) := by decide +kernel
theorem dX8_at_34 : decode cX8_at 34 = .ok (.ifCond .ne 9, 3) := by decide +kernel
theorem dX8_at_37 : decode cX8_at 37 = .ok (.aload_n 0, 1) := by decide +kernel
theorem dX8_at_38 : decode cX8_at 38 = .ok (.iconst 2, 1) := by decide +kernel
theorem dX8_at_39 : decode cX8_at 39 = .ok (.invokevirtual 84, 3) := by decide +kernel
theorem dX8_at_42 : decode cX8_at 42 = .ok (.ireturn, 1) := by decide +kernel
theorem dX8_at_43 : decode cX8_at 43 = .ok (.aload_n 0, 1) := by decide +kernel
theorem dX8_at_44 : decode cX8_at 44 = .ok (.aload_n 3, 1) := by decide +kernel
theorem dX8_at_45 : decode cX8_at 45 = .ok (.getfield 99, 3) := by decide +kernel
theorem dX8_at_48 : decode cX8_at 48 = .ok (.iload_n 2, 1) := by decide +kernel
theorem dX8_at_49 : decode cX8_at 49 = .ok (.iaload, 1) := by decide +kernel
theorem dX8_at_50 : decode cX8_at 50 = .ok (.invokevirtual 102, 3) := by decide +kernel
theorem dX8_at_53 : decode cX8_at 53 = .ok (.ireturn, 1) := by decide +kernel
set_option maxRecDepth 20000 in
theorem w_X8_at_b0 {w : zWd} {X : zX} {l0 : Launch} {r : Int32} {S1 : zMem} (C : zC LC w X l0 cX8_at RX8 4 3 (some .int)) {x1 : Int32} {x2 : Int32} {S : zMem} {ls : Array Slot} (hl : lv_has ls 4 [(0, .ref (w.2.2.1 0)), (1, .int x1), (2, .int x2)]) (h : X8_at_b0 x1 x2 S = some (r, S1)) : zV LC w X (some (.int r)) S1 S 0 ls [] := by
  unfold X8_at_b0 at h
  refine v_iload_n 0 C dX8_at_0 rfl (lv_at hl 1 rfl) ?_
  obtain ⟨v1, S, hc, h⟩ := zb_e h
  refine v_callSi 1 C [] dX8_at_1 ml_X8_80 hy_X8_isRow (c_X8_isRow  hc) (by decide) rfl hl.1 (Nat.le_of_ble_eq_true rfl) rfl ?_
  refine v_if_ne 4 9 C dX8_at_4 (by decide) h (fun h => ?_) (fun h => ?_)
  · refine v_aload_n 9 C dX8_at_9 rfl (lv_at hl 0 rfl) ?_
    refine v_getr 10 (1) C dX8_at_10 fl_X8_11 rfl kC_0 rfl ?_
    refine v_iload_n 13 C dX8_at_13 rfl (lv_at hl 1 rfl) ?_
    refine v_aald 14 (4 + 2 * Int32.toNatClampNeg x1) C dX8_at_14 kC_1 (Or.inl rfl) rfl rfl h (fun hz2 h => ?_)
    refine v_astore_n 15 C [(3, .ref (w.2.2.1 (4 + 2 * Int32.toNatClampNeg x1))), (0, .ref (w.2.2.1 0)), (1, .int x1), (2, .int x2)] dX8_at_15 rfl hl (by decide) rfl (fun ls hl => ?_)
    refine v_aload_n 16 C dX8_at_16 rfl (lv_at hl 0 rfl) ?_
    obtain ⟨v3, S, hc, h⟩ := zb_e h
    refine v_callVi 17 C (ci := 6) [] dX8_at_17 ml_X8_92 hy_X7_isThere (c_X7_isThere (kRow hz2) hc) (by decide) rfl hl.1 (kRow hz2) rfl (Nat.le_of_ble_eq_true rfl) rfl ?_
    refine v_if_ne 20 29 C dX8_at_20 (by decide) h (fun h => ?_) (fun h => ?_)
    · refine v_aload_n 29 C dX8_at_29 rfl (lv_at hl 0 rfl) ?_
      refine v_iload_n 30 C dX8_at_30 rfl (lv_at hl 3 rfl) ?_
      obtain ⟨v4, S, hc, h⟩ := zb_e h
      refine v_callVi 31 C (ci := 6) [] dX8_at_31 ml_X8_96 hy_X7_has (c_X7_has (kRow hz2) hc) (by decide) rfl hl.1 (kRow hz2) rfl (Nat.le_of_ble_eq_true rfl) rfl ?_
      refine v_if_ne 34 43 C dX8_at_34 (by decide) h (fun h => ?_) (fun h => ?_)
      · refine v_aload_n 43 C dX8_at_43 rfl (lv_at hl 1 rfl) ?_
        refine v_aload_n 44 C dX8_at_44 rfl (lv_at hl 0 rfl) ?_
        refine v_getr 45 ((4 + 2 * Int32.toNatClampNeg x1) + 1) C dX8_at_45 fl_X8_99 rfl (kRow hz2) (rS1 (kRow hz2)) ?_
        refine v_iload_n 48 C dX8_at_48 rfl (lv_at hl 3 rfl) ?_
        refine v_iald 49 C dX8_at_49 (kS1 (kRow hz2)) rfl h (fun v5 h => ?_)
        obtain ⟨v6, S, hc, h⟩ := zb_e h
        refine v_callVi 50 C (ci := 7) [] dX8_at_50 ml_X8_102 hy_X8_tell (c_X8_tell  hc) (by decide) rfl hl.1 kC_0 rfl (Nat.le_of_ble_eq_true rfl) rfl ?_
        exact v_ireturn 53 C dX8_at_53 h
      · refine v_aload_n 37 C dX8_at_37 rfl (lv_at hl 1 rfl) ?_
        refine v_iconst 38 C (v := (2 : Int32)) dX8_at_38 (by decide) ?_
        obtain ⟨v7, S, hc, h⟩ := zb_e h
        refine v_callVi 39 C (ci := 7) [] dX8_at_39 ml_X8_84 hy_X8_refuse (c_X8_refuse  hc) (by decide) rfl hl.1 kC_0 rfl (Nat.le_of_ble_eq_true rfl) rfl ?_
        exact v_ireturn 42 C dX8_at_42 h
    · refine v_aload_n 23 C dX8_at_23 rfl (lv_at hl 1 rfl) ?_
      refine v_iconst 24 C (v := (1 : Int32)) dX8_at_24 (by decide) ?_
      obtain ⟨v8, S, hc, h⟩ := zb_e h
      refine v_callVi 25 C (ci := 7) [] dX8_at_25 ml_X8_84 hy_X8_refuse (c_X8_refuse  hc) (by decide) rfl hl.1 kC_0 rfl (Nat.le_of_ble_eq_true rfl) rfl ?_
      exact v_ireturn 28 C dX8_at_28 h
  · refine v_iconst 7 C (v := (-1 : Int32)) dX8_at_7 (by decide) ?_
    exact v_ireturn 8 C dX8_at_8 h
theorem c_X8_at {w : zWd} {l0 : Launch} {x1 : Int32} {x2 : Int32} {S S1 : zMem} {r : Int32} (h : f_X8_at x1 x2 S = some (r, S1)) : zMet LC w l0 yX8_at cX8_at 4 (some .int) 3 [.ref (w.2.2.1 0), .int x1, .int x2] S (some (.int r)) S1 :=
  zMet_of (by decide +kernel) (Nat.le_of_ble_eq_true rfl) (fun X ls C hl => w_X8_at_b0 C hl h)
theorem dX7_goMissing_0 : decode cX7_goMissing 0 = .ok (.aload_n 0, 1) := by decide +kernel
theorem dX7_goMissing_1 : decode cX7_goMissing 1 = .ok (.iconst (-1), 1) := by decide +kernel
theorem dX7_goMissing_2 : decode cX7_goMissing 2 = .ok (.putfield 9, 3) := by decide +kernel
theorem dX7_goMissing_5 : decode cX7_goMissing 5 = .ok (.return_, 1) := by decide +kernel
set_option maxRecDepth 20000 in
theorem w_X7_goMissing_b0 {w : zWd} {X : zX} {l0 : Launch} {r : Unit} {S1 : zMem} (C : zC LC w X l0 cX7_goMissing RX7 1 1 none) {c0 : Nat} {S : zMem} {ls : Array Slot} (hl : lv_has ls 1 [(0, .ref (w.2.2.1 c0))]) (hk_c0 : c0 < LC.1 ∧ LC.2.1 c0 = 9) (h : X7_goMissing_b0 c0 S = some (r, S1)) : zV LC w X none S1 S 0 ls [] := by
  unfold X7_goMissing_b0 at h
  refine v_aload_n 0 C dX7_goMissing_0 rfl (lv_at hl 0 rfl) ?_
  refine v_iconst 1 C (v := (-1 : Int32)) dX7_goMissing_1 (by decide) ?_
  refine v_puti 2 C dX7_goMissing_2 fl_X7_9 fp_6_1 rfl hk_c0 h (fun S h => ?_)
  exact v_return 5 C dX7_goMissing_5 h
theorem c_X7_goMissing {w : zWd} {l0 : Launch} {c0 : Nat} {S S1 : zMem} {r : Unit} (hk_c0 : c0 < LC.1 ∧ LC.2.1 c0 = 9) (h : f_X7_goMissing c0 S = some (r, S1)) : zMet LC w l0 yX7_goMissing cX7_goMissing 1 none 1 [.ref (w.2.2.1 c0)] S none S1 :=
  zMet_of (by decide +kernel) (Nat.le_of_ble_eq_true rfl) (fun X ls C hl => w_X7_goMissing_b0 C hl hk_c0 h)
theorem ml_X8_105 : Cond.methodLink RX8 105 yX7_goMissing ∈ zT := zT_of (List.mem_of_getElem? (i := 405) (by decide +kernel)) rfl
theorem hy_X7_goMissing : zYv yX7_goMissing cX7_goMissing 1 none 0 := ⟨⟨zT_of (List.mem_of_getElem? (i := 408) (by decide +kernel)) rfl, zT_of (List.mem_of_getElem? (i := 77) (by decide +kernel)) rfl, by decide, by decide +kernel, by decide +kernel, by decide +kernel⟩, zT_of (List.mem_of_getElem? (i := 406) (by decide +kernel)) rfl, zT_of (List.mem_of_getElem? (i := 407) (by decide +kernel)) rfl⟩
theorem dX8_tear_0 : decode cX8_tear 0 = .ok (.iload_n 1, 1) := by decide +kernel
theorem dX8_tear_1 : decode cX8_tear 1 = .ok (.invokestatic 80, 3) := by decide +kernel
theorem dX8_tear_4 : decode cX8_tear 4 = .ok (.ifCond .ne 5, 3) := by decide +kernel
theorem dX8_tear_7 : decode cX8_tear 7 = .ok (.iconst (-1), 1) := by decide +kernel
theorem dX8_tear_8 : decode cX8_tear 8 = .ok (.ireturn, 1) := by decide +kernel
theorem dX8_tear_9 : decode cX8_tear 9 = .ok (.aload_n 0, 1) := by decide +kernel
theorem dX8_tear_10 : decode cX8_tear 10 = .ok (.getfield 11, 3) := by decide +kernel
theorem dX8_tear_13 : decode cX8_tear 13 = .ok (.iload_n 1, 1) := by decide +kernel
theorem dX8_tear_14 : decode cX8_tear 14 = .ok (.aaload, 1) := by decide +kernel
theorem dX8_tear_15 : decode cX8_tear 15 = .ok (.invokevirtual 92, 3) := by decide +kernel
theorem dX8_tear_18 : decode cX8_tear 18 = .ok (.ifCond .ne 9, 3) := by decide +kernel
theorem dX8_tear_21 : decode cX8_tear 21 = .ok (.aload_n 0, 1) := by decide +kernel
theorem dX8_tear_22 : decode cX8_tear 22 = .ok (.iconst 1, 1) := by decide +kernel
theorem dX8_tear_23 : decode cX8_tear 23 = .ok (.invokevirtual 84, 3) := by decide +kernel
theorem dX8_tear_26 : decode cX8_tear 26 = .ok (.ireturn, 1) := by decide +kernel
theorem dX8_tear_27 : decode cX8_tear 27 = .ok (.aload_n 0, 1) := by decide +kernel
theorem dX8_tear_28 : decode cX8_tear 28 = .ok (.getfield 11, 3) := by decide +kernel
theorem dX8_tear_31 : decode cX8_tear 31 = .ok (.iload_n 1, 1) := by decide +kernel
theorem dX8_tear_32 : decode cX8_tear 32 = .ok (.aaload, 1) := by decide +kernel
theorem dX8_tear_33 : decode cX8_tear 33 = .ok (.invokevirtual 105, 3) := by decide +kernel
theorem dX8_tear_36 : decode cX8_tear 36 = .ok (.iconst 1, 1) := by decide +kernel
theorem dX8_tear_37 : decode cX8_tear 37 = .ok (.ireturn, 1) := by decide +kernel
set_option maxRecDepth 20000 in
theorem w_X8_tear_b0 {w : zWd} {X : zX} {l0 : Launch} {r : Int32} {S1 : zMem} (C : zC LC w X l0 cX8_tear RX8 2 3 (some .int)) {x1 : Int32} {S : zMem} {ls : Array Slot} (hl : lv_has ls 2 [(0, .ref (w.2.2.1 0)), (1, .int x1)]) (h : X8_tear_b0 x1 S = some (r, S1)) : zV LC w X (some (.int r)) S1 S 0 ls [] := by
  unfold X8_tear_b0 at h
  refine v_iload_n 0 C dX8_tear_0 rfl (lv_at hl 1 rfl) ?_
  obtain ⟨v1, S, hc, h⟩ := zb_e h
  refine v_callSi 1 C [] dX8_tear_1 ml_X8_80 hy_X8_isRow (c_X8_isRow  hc) (by decide) rfl hl.1 (Nat.le_of_ble_eq_true rfl) rfl ?_
  refine v_if_ne 4 9 C dX8_tear_4 (by decide) h (fun h => ?_) (fun h => ?_)
  · refine v_aload_n 9 C dX8_tear_9 rfl (lv_at hl 0 rfl) ?_
    refine v_getr 10 (1) C dX8_tear_10 fl_X8_11 rfl kC_0 rfl ?_
    refine v_iload_n 13 C dX8_tear_13 rfl (lv_at hl 1 rfl) ?_
    refine v_aald 14 (4 + 2 * Int32.toNatClampNeg x1) C dX8_tear_14 kC_1 (Or.inl rfl) rfl rfl h (fun hz2 h => ?_)
    obtain ⟨v3, S, hc, h⟩ := zb_e h
    refine v_callVi 15 C (ci := 6) [] dX8_tear_15 ml_X8_92 hy_X7_isThere (c_X7_isThere (kRow hz2) hc) (by decide) rfl hl.1 (kRow hz2) rfl (Nat.le_of_ble_eq_true rfl) rfl ?_
    refine v_if_ne 18 27 C dX8_tear_18 (by decide) h (fun h => ?_) (fun h => ?_)
    · refine v_aload_n 27 C dX8_tear_27 rfl (lv_at hl 0 rfl) ?_
      refine v_getr 28 (1) C dX8_tear_28 fl_X8_11 rfl kC_0 rfl ?_
      refine v_iload_n 31 C dX8_tear_31 rfl (lv_at hl 1 rfl) ?_
      refine v_aald 32 (4 + 2 * Int32.toNatClampNeg x1) C dX8_tear_32 kC_1 (Or.inl rfl) rfl rfl h (fun hz4 h => ?_)
      obtain ⟨v5, S, hc, h⟩ := zb_e h
      refine v_callVv 33 C (ci := 6) [] dX8_tear_33 ml_X8_105 hy_X7_goMissing (c_X7_goMissing (kRow hz4) hc) (by decide) rfl hl.1 (kRow hz4) rfl (Nat.le_of_ble_eq_true rfl) rfl ?_
      refine v_iconst 36 C (v := (1 : Int32)) dX8_tear_36 (by decide) ?_
      exact v_ireturn 37 C dX8_tear_37 h
    · refine v_aload_n 21 C dX8_tear_21 rfl (lv_at hl 0 rfl) ?_
      refine v_iconst 22 C (v := (1 : Int32)) dX8_tear_22 (by decide) ?_
      obtain ⟨v6, S, hc, h⟩ := zb_e h
      refine v_callVi 23 C (ci := 7) [] dX8_tear_23 ml_X8_84 hy_X8_refuse (c_X8_refuse  hc) (by decide) rfl hl.1 kC_0 rfl (Nat.le_of_ble_eq_true rfl) rfl ?_
      exact v_ireturn 26 C dX8_tear_26 h
  · refine v_iconst 7 C (v := (-1 : Int32)) dX8_tear_7 (by decide) ?_
    exact v_ireturn 8 C dX8_tear_8 h
theorem c_X8_tear {w : zWd} {l0 : Launch} {x1 : Int32} {S S1 : zMem} {r : Int32} (h : f_X8_tear x1 S = some (r, S1)) : zMet LC w l0 yX8_tear cX8_tear 2 (some .int) 3 [.ref (w.2.2.1 0), .int x1] S (some (.int r)) S1 :=
  zMet_of (by decide +kernel) (Nat.le_of_ble_eq_true rfl) (fun X ls C hl => w_X8_tear_b0 C hl h)
theorem dX7_hasSpan_0 : decode cX7_hasSpan 0 = .ok (.iload_n 1, 1) := by decide +kernel
theorem dX7_hasSpan_1 : decode cX7_hasSpan 1 = .ok (.ifCond .lt 29, 3) := by decide +kernel
theorem dX7_hasSpan_4 : decode cX7_hasSpan 4 = .ok (.iload_n 1, 1) := by decide +kernel
theorem dX7_hasSpan_5 : decode cX7_hasSpan 5 = .ok (.aload_n 0, 1) := by decide +kernel
theorem dX7_hasSpan_6 : decode cX7_hasSpan 6 = .ok (.getfield 9, 3) := by decide +kernel
theorem dX7_hasSpan_9 : decode cX7_hasSpan 9 = .ok (.if_icmp .gt 21, 3) := by decide +kernel
theorem dX7_hasSpan_12 : decode cX7_hasSpan 12 = .ok (.iload_n 2, 1) := by decide +kernel
theorem dX7_hasSpan_13 : decode cX7_hasSpan 13 = .ok (.ifCond .lt 17, 3) := by decide +kernel
theorem dX7_hasSpan_16 : decode cX7_hasSpan 16 = .ok (.iload_n 2, 1) := by decide +kernel
theorem dX7_hasSpan_17 : decode cX7_hasSpan 17 = .ok (.aload_n 0, 1) := by decide +kernel
theorem dX7_hasSpan_18 : decode cX7_hasSpan 18 = .ok (.getfield 9, 3) := by decide +kernel
theorem dX7_hasSpan_21 : decode cX7_hasSpan 21 = .ok (.iload_n 1, 1) := by decide +kernel
theorem dX7_hasSpan_22 : decode cX7_hasSpan 22 = .ok (.isub, 1) := by decide +kernel
theorem dX7_hasSpan_23 : decode cX7_hasSpan 23 = .ok (.if_icmp .gt 7, 3) := by decide +kernel
theorem dX7_hasSpan_26 : decode cX7_hasSpan 26 = .ok (.iconst 1, 1) := by decide +kernel
theorem dX7_hasSpan_27 : decode cX7_hasSpan 27 = .ok (.goto 4, 3) := by decide +kernel
theorem dX7_hasSpan_30 : decode cX7_hasSpan 30 = .ok (.iconst 0, 1) := by decide +kernel
theorem dX7_hasSpan_31 : decode cX7_hasSpan 31 = .ok (.ireturn, 1) := by decide +kernel
set_option maxRecDepth 20000 in
theorem w_X7_hasSpan_b31 {w : zWd} {X : zX} {l0 : Launch} {r : Int32} {S1 : zMem} (C : zC LC w X l0 cX7_hasSpan RX7 3 1 (some .boolean)) {s0 : Int32} {S : zMem} {ls : Array Slot} (hl : lv_has ls 3 []) (h : X7_hasSpan_b31 s0 S = some (r, S1)) : zV LC w X (some (.int r)) S1 S 31 ls [.int s0] := by
  unfold X7_hasSpan_b31 at h
  exact v_zreturn 31 C dX7_hasSpan_31 h
set_option maxRecDepth 20000 in
theorem w_X7_hasSpan_b30 {w : zWd} {X : zX} {l0 : Launch} {r : Int32} {S1 : zMem} (C : zC LC w X l0 cX7_hasSpan RX7 3 1 (some .boolean)) {S : zMem} {ls : Array Slot} (hl : lv_has ls 3 []) (h : X7_hasSpan_b30  S = some (r, S1)) : zV LC w X (some (.int r)) S1 S 30 ls [] := by
  unfold X7_hasSpan_b30 at h
  refine v_iconst 30 C (v := (0 : Int32)) dX7_hasSpan_30 (by decide) ?_
  exact w_X7_hasSpan_b31 C (lv_sub hl [] rfl) h
set_option maxRecDepth 20000 in
theorem w_X7_hasSpan_b0 {w : zWd} {X : zX} {l0 : Launch} {r : Int32} {S1 : zMem} (C : zC LC w X l0 cX7_hasSpan RX7 3 1 (some .boolean)) {c0 : Nat} {x1 : Int32} {x2 : Int32} {S : zMem} {ls : Array Slot} (hl : lv_has ls 3 [(0, .ref (w.2.2.1 c0)), (1, .int x1), (2, .int x2)]) (hk_c0 : c0 < LC.1 ∧ LC.2.1 c0 = 9) (h : X7_hasSpan_b0 c0 x1 x2 S = some (r, S1)) : zV LC w X (some (.int r)) S1 S 0 ls [] := by
  unfold X7_hasSpan_b0 at h
  refine v_iload_n 0 C dX7_hasSpan_0 rfl (lv_at hl 1 rfl) ?_
  refine v_if_lt 1 30 C dX7_hasSpan_1 (by decide) h (fun h => ?_) (fun h => ?_)
  · exact w_X7_hasSpan_b30 C (lv_sub hl [] rfl) h
  · refine v_iload_n 4 C dX7_hasSpan_4 rfl (lv_at hl 1 rfl) ?_
    refine v_aload_n 5 C dX7_hasSpan_5 rfl (lv_at hl 0 rfl) ?_
    refine v_geti 6 C dX7_hasSpan_6 fl_X7_9 rfl hk_c0 h (fun v1 h => ?_)
    refine v_icmp_gt 9 30 C dX7_hasSpan_9 (by decide) h (fun h => ?_) (fun h => ?_)
    · exact w_X7_hasSpan_b30 C (lv_sub hl [] rfl) h
    · refine v_iload_n 12 C dX7_hasSpan_12 rfl (lv_at hl 2 rfl) ?_
      refine v_if_lt 13 30 C dX7_hasSpan_13 (by decide) h (fun h => ?_) (fun h => ?_)
      · exact w_X7_hasSpan_b30 C (lv_sub hl [] rfl) h
      · refine v_iload_n 16 C dX7_hasSpan_16 rfl (lv_at hl 2 rfl) ?_
        refine v_aload_n 17 C dX7_hasSpan_17 rfl (lv_at hl 0 rfl) ?_
        refine v_geti 18 C dX7_hasSpan_18 fl_X7_9 rfl hk_c0 h (fun v2 h => ?_)
        refine v_iload_n 21 C dX7_hasSpan_21 rfl (lv_at hl 1 rfl) ?_
        refine v_isub 22 C dX7_hasSpan_22 h (fun v3 h => ?_)
        refine v_icmp_gt 23 30 C dX7_hasSpan_23 (by decide) h (fun h => ?_) (fun h => ?_)
        · exact w_X7_hasSpan_b30 C (lv_sub hl [] rfl) h
        · refine v_iconst 26 C (v := (1 : Int32)) dX7_hasSpan_26 (by decide) ?_
          refine v_goto 27 31 C dX7_hasSpan_27 (by decide) ?_
          exact w_X7_hasSpan_b31 C (lv_sub hl [] rfl) h
theorem c_X7_hasSpan {w : zWd} {l0 : Launch} {c0 : Nat} {x1 : Int32} {x2 : Int32} {S S1 : zMem} {r : Int32} (hk_c0 : c0 < LC.1 ∧ LC.2.1 c0 = 9) (h : f_X7_hasSpan c0 x1 x2 S = some (r, S1)) : zMet LC w l0 yX7_hasSpan cX7_hasSpan 3 (some .boolean) 1 [.ref (w.2.2.1 c0), .int x1, .int x2] S (some (.int r)) S1 :=
  zMet_of (by decide +kernel) (Nat.le_of_ble_eq_true rfl) (fun X ls C hl => w_X7_hasSpan_b0 C hl hk_c0 h)
theorem ml_X8_108 : Cond.methodLink RX8 108 yX7_hasSpan ∈ zT := zT_of (List.mem_of_getElem? (i := 413) (by decide +kernel)) rfl
theorem hy_X7_hasSpan : zYv yX7_hasSpan cX7_hasSpan 3 (some .boolean) 2 := ⟨⟨zT_of (List.mem_of_getElem? (i := 416) (by decide +kernel)) rfl, zT_of (List.mem_of_getElem? (i := 77) (by decide +kernel)) rfl, by decide, by decide +kernel, by decide +kernel, by decide +kernel⟩, zT_of (List.mem_of_getElem? (i := 414) (by decide +kernel)) rfl, zT_of (List.mem_of_getElem? (i := 415) (by decide +kernel)) rfl⟩
theorem ml_X8_112 : Cond.methodLink RX8 112 arraycopyName ∈ zT := zT_of (List.mem_of_getElem? (i := 417) (by decide +kernel)) rfl
theorem dX8_copy_0 : decode cX8_copy 0 = .ok (.iload_n 1, 1) := by decide +kernel
theorem dX8_copy_1 : decode cX8_copy 1 = .ok (.invokestatic 80, 3) := by decide +kernel
theorem dX8_copy_4 : decode cX8_copy 4 = .ok (.ifCond .eq 10, 3) := by decide +kernel
theorem dX8_copy_7 : decode cX8_copy 7 = .ok (.iload_n 3, 1) := by decide +kernel
theorem dX8_copy_8 : decode cX8_copy 8 = .ok (.invokestatic 80, 3) := by decide +kernel
theorem dX8_copy_11 : decode cX8_copy 11 = .ok (.ifCond .ne 5, 3) := by decide +kernel
theorem dX8_copy_14 : decode cX8_copy 14 = .ok (.iconst (-1), 1) := by decide +kernel
theorem dX8_copy_15 : decode cX8_copy 15 = .ok (.ireturn, 1) := by decide +kernel
theorem dX8_copy_16 : decode cX8_copy 16 = .ok (.iload 5, 2) := by decide +kernel
theorem dX8_copy_18 : decode cX8_copy 18 = .ok (.ifCond .ge 9, 3) := by decide +kernel
theorem dX8_copy_21 : decode cX8_copy 21 = .ok (.aload_n 0, 1) := by decide +kernel
theorem dX8_copy_22 : decode cX8_copy 22 = .ok (.iconst 5, 1) := by decide +kernel
theorem dX8_copy_23 : decode cX8_copy 23 = .ok (.invokevirtual 84, 3) := by decide +kernel
theorem dX8_copy_26 : decode cX8_copy 26 = .ok (.ireturn, 1) := by decide +kernel
theorem dX8_copy_27 : decode cX8_copy 27 = .ok (.aload_n 0, 1) := by decide +kernel
theorem dX8_copy_28 : decode cX8_copy 28 = .ok (.getfield 11, 3) := by decide +kernel
theorem dX8_copy_31 : decode cX8_copy 31 = .ok (.iload_n 1, 1) := by decide +kernel
theorem dX8_copy_32 : decode cX8_copy 32 = .ok (.aaload, 1) := by decide +kernel
theorem dX8_copy_33 : decode cX8_copy 33 = .ok (.astore 6, 2) := by decide +kernel
theorem dX8_copy_35 : decode cX8_copy 35 = .ok (.aload_n 0, 1) := by decide +kernel
theorem dX8_copy_36 : decode cX8_copy 36 = .ok (.getfield 11, 3) := by decide +kernel
theorem dX8_copy_39 : decode cX8_copy 39 = .ok (.iload_n 3, 1) := by decide +kernel
theorem dX8_copy_40 : decode cX8_copy 40 = .ok (.aaload, 1) := by decide +kernel
theorem dX8_copy_41 : decode cX8_copy 41 = .ok (.astore 7, 2) := by decide +kernel
theorem dX8_copy_43 : decode cX8_copy 43 = .ok (.aload 6, 2) := by decide +kernel
theorem dX8_copy_45 : decode cX8_copy 45 = .ok (.invokevirtual 92, 3) := by decide +kernel
theorem dX8_copy_48 : decode cX8_copy 48 = .ok (.ifCond .eq 11, 3) := by decide +kernel
theorem dX8_copy_51 : decode cX8_copy 51 = .ok (.aload 7, 2) := by decide +kernel
theorem dX8_copy_53 : decode cX8_copy 53 = .ok (.invokevirtual 92, 3) := by decide +kernel
theorem dX8_copy_56 : decode cX8_copy 56 = .ok (.ifCond .ne 9, 3) := by decide +kernel
theorem dX8_copy_59 : decode cX8_copy 59 = .ok (.aload_n 0, 1) := by decide +kernel
theorem dX8_copy_60 : decode cX8_copy 60 = .ok (.iconst 1, 1) := by decide +kernel
theorem dX8_copy_61 : decode cX8_copy 61 = .ok (.invokevirtual 84, 3) := by decide +kernel
theorem dX8_copy_64 : decode cX8_copy 64 = .ok (.ireturn, 1) := by decide +kernel
theorem dX8_copy_65 : decode cX8_copy 65 = .ok (.aload 6, 2) := by decide +kernel
theorem dX8_copy_67 : decode cX8_copy 67 = .ok (.iload_n 2, 1) := by decide +kernel
theorem dX8_copy_68 : decode cX8_copy 68 = .ok (.iload 5, 2) := by decide +kernel
theorem dX8_copy_70 : decode cX8_copy 70 = .ok (.invokevirtual 108, 3) := by decide +kernel
theorem dX8_copy_73 : decode cX8_copy 73 = .ok (.ifCond .eq 15, 3) := by decide +kernel
theorem dX8_copy_76 : decode cX8_copy 76 = .ok (.aload 7, 2) := by decide +kernel
theorem dX8_copy_78 : decode cX8_copy 78 = .ok (.iload 4, 2) := by decide +kernel
theorem dX8_copy_80 : decode cX8_copy 80 = .ok (.iload 5, 2) := by decide +kernel
theorem dX8_copy_82 : decode cX8_copy 82 = .ok (.invokevirtual 108, 3) := by decide +kernel
theorem dX8_copy_85 : decode cX8_copy 85 = .ok (.ifCond .ne 9, 3) := by decide +kernel
theorem dX8_copy_88 : decode cX8_copy 88 = .ok (.aload_n 0, 1) := by decide +kernel
theorem dX8_copy_89 : decode cX8_copy 89 = .ok (.iconst 2, 1) := by decide +kernel
theorem dX8_copy_90 : decode cX8_copy 90 = .ok (.invokevirtual 84, 3) := by decide +kernel
theorem dX8_copy_93 : decode cX8_copy 93 = .ok (.ireturn, 1) := by decide +kernel
theorem dX8_copy_94 : decode cX8_copy 94 = .ok (.aload 6, 2) := by decide +kernel
theorem dX8_copy_96 : decode cX8_copy 96 = .ok (.getfield 99, 3) := by decide +kernel
theorem dX8_copy_99 : decode cX8_copy 99 = .ok (.iload_n 2, 1) := by decide +kernel
theorem dX8_copy_100 : decode cX8_copy 100 = .ok (.aload 7, 2) := by decide +kernel
theorem dX8_copy_102 : decode cX8_copy 102 = .ok (.getfield 99, 3) := by decide +kernel
theorem dX8_copy_105 : decode cX8_copy 105 = .ok (.iload 4, 2) := by decide +kernel
theorem dX8_copy_107 : decode cX8_copy 107 = .ok (.iload 5, 2) := by decide +kernel
theorem dX8_copy_109 : decode cX8_copy 109 = .ok (.invokestatic 112, 3) := by decide +kernel
theorem dX8_copy_112 : decode cX8_copy 112 = .ok (.iconst 1, 1) := by decide +kernel
theorem dX8_copy_113 : decode cX8_copy 113 = .ok (.ireturn, 1) := by decide +kernel
set_option maxRecDepth 20000 in
theorem w_X8_copy_b14 {w : zWd} {X : zX} {l0 : Launch} {r : Int32} {S1 : zMem} (C : zC LC w X l0 cX8_copy RX8 8 3 (some .int)) {S : zMem} {ls : Array Slot} (hl : lv_has ls 8 []) (h : X8_copy_b14  S = some (r, S1)) : zV LC w X (some (.int r)) S1 S 14 ls [] := by
  unfold X8_copy_b14 at h
  refine v_iconst 14 C (v := (-1 : Int32)) dX8_copy_14 (by decide) ?_
  exact v_ireturn 15 C dX8_copy_15 h
set_option maxRecDepth 20000 in
theorem w_X8_copy_b59 {w : zWd} {X : zX} {l0 : Launch} {r : Int32} {S1 : zMem} (C : zC LC w X l0 cX8_copy RX8 8 3 (some .int)) {S : zMem} {ls : Array Slot} (hl : lv_has ls 8 [(0, .ref (w.2.2.1 0))]) (h : X8_copy_b59  S = some (r, S1)) : zV LC w X (some (.int r)) S1 S 59 ls [] := by
  unfold X8_copy_b59 at h
  refine v_aload_n 59 C dX8_copy_59 rfl (lv_at hl 0 rfl) ?_
  refine v_iconst 60 C (v := (1 : Int32)) dX8_copy_60 (by decide) ?_
  obtain ⟨v1, S, hc, h⟩ := zb_e h
  refine v_callVi 61 C (ci := 7) [] dX8_copy_61 ml_X8_84 hy_X8_refuse (c_X8_refuse  hc) (by decide) rfl hl.1 kC_0 rfl (Nat.le_of_ble_eq_true rfl) rfl ?_
  exact v_ireturn 64 C dX8_copy_64 h
set_option maxRecDepth 20000 in
theorem w_X8_copy_b88 {w : zWd} {X : zX} {l0 : Launch} {r : Int32} {S1 : zMem} (C : zC LC w X l0 cX8_copy RX8 8 3 (some .int)) {S : zMem} {ls : Array Slot} (hl : lv_has ls 8 [(0, .ref (w.2.2.1 0))]) (h : X8_copy_b88  S = some (r, S1)) : zV LC w X (some (.int r)) S1 S 88 ls [] := by
  unfold X8_copy_b88 at h
  refine v_aload_n 88 C dX8_copy_88 rfl (lv_at hl 0 rfl) ?_
  refine v_iconst 89 C (v := (2 : Int32)) dX8_copy_89 (by decide) ?_
  obtain ⟨v1, S, hc, h⟩ := zb_e h
  refine v_callVi 90 C (ci := 7) [] dX8_copy_90 ml_X8_84 hy_X8_refuse (c_X8_refuse  hc) (by decide) rfl hl.1 kC_0 rfl (Nat.le_of_ble_eq_true rfl) rfl ?_
  exact v_ireturn 93 C dX8_copy_93 h
set_option maxRecDepth 20000 in
theorem w_X8_copy_b0 {w : zWd} {X : zX} {l0 : Launch} {r : Int32} {S1 : zMem} (C : zC LC w X l0 cX8_copy RX8 8 3 (some .int)) {x1 : Int32} {x2 : Int32} {x3 : Int32} {x4 : Int32} {x5 : Int32} {S : zMem} {ls : Array Slot} (hl : lv_has ls 8 [(0, .ref (w.2.2.1 0)), (1, .int x1), (2, .int x2), (3, .int x3), (4, .int x4), (5, .int x5)]) (h : X8_copy_b0 x1 x2 x3 x4 x5 S = some (r, S1)) : zV LC w X (some (.int r)) S1 S 0 ls [] := by
  unfold X8_copy_b0 at h
  refine v_iload_n 0 C dX8_copy_0 rfl (lv_at hl 1 rfl) ?_
  obtain ⟨v1, S, hc, h⟩ := zb_e h
  refine v_callSi 1 C [] dX8_copy_1 ml_X8_80 hy_X8_isRow (c_X8_isRow  hc) (by decide) rfl hl.1 (Nat.le_of_ble_eq_true rfl) rfl ?_
  refine v_if_eq 4 14 C dX8_copy_4 (by decide) h (fun h => ?_) (fun h => ?_)
  · exact w_X8_copy_b14 C (lv_sub hl [] rfl) h
  · refine v_iload_n 7 C dX8_copy_7 rfl (lv_at hl 3 rfl) ?_
    obtain ⟨v2, S, hc, h⟩ := zb_e h
    refine v_callSi 8 C [] dX8_copy_8 ml_X8_80 hy_X8_isRow (c_X8_isRow  hc) (by decide) rfl hl.1 (Nat.le_of_ble_eq_true rfl) rfl ?_
    refine v_if_ne 11 16 C dX8_copy_11 (by decide) h (fun h => ?_) (fun h => ?_)
    · refine v_iload 16 C dX8_copy_16 (lv_at hl 5 rfl) ?_
      refine v_if_ge 18 27 C dX8_copy_18 (by decide) h (fun h => ?_) (fun h => ?_)
      · refine v_aload_n 27 C dX8_copy_27 rfl (lv_at hl 0 rfl) ?_
        refine v_getr 28 (1) C dX8_copy_28 fl_X8_11 rfl kC_0 rfl ?_
        refine v_iload_n 31 C dX8_copy_31 rfl (lv_at hl 1 rfl) ?_
        refine v_aald 32 (4 + 2 * Int32.toNatClampNeg x1) C dX8_copy_32 kC_1 (Or.inl rfl) rfl rfl h (fun hz3 h => ?_)
        refine v_astore 33 C [(6, .ref (w.2.2.1 (4 + 2 * Int32.toNatClampNeg x1))), (0, .ref (w.2.2.1 0)), (1, .int x1), (2, .int x2), (3, .int x3), (4, .int x4), (5, .int x5)] dX8_copy_33 hl (by decide) rfl (fun ls hl => ?_)
        refine v_aload_n 35 C dX8_copy_35 rfl (lv_at hl 1 rfl) ?_
        refine v_getr 36 (1) C dX8_copy_36 fl_X8_11 rfl kC_0 rfl ?_
        refine v_iload_n 39 C dX8_copy_39 rfl (lv_at hl 4 rfl) ?_
        refine v_aald 40 (4 + 2 * Int32.toNatClampNeg x3) C dX8_copy_40 kC_1 (Or.inl rfl) rfl rfl h (fun hz4 h => ?_)
        refine v_astore 41 C [(7, .ref (w.2.2.1 (4 + 2 * Int32.toNatClampNeg x3))), (6, .ref (w.2.2.1 (4 + 2 * Int32.toNatClampNeg x1))), (0, .ref (w.2.2.1 0)), (1, .int x1), (2, .int x2), (3, .int x3), (4, .int x4), (5, .int x5)] dX8_copy_41 hl (by decide) rfl (fun ls hl => ?_)
        refine v_aload 43 C dX8_copy_43 (lv_at hl 1 rfl) ?_
        obtain ⟨v5, S, hc, h⟩ := zb_e h
        refine v_callVi 45 C (ci := 6) [] dX8_copy_45 ml_X8_92 hy_X7_isThere (c_X7_isThere (kRow hz3) hc) (by decide) rfl hl.1 (kRow hz3) rfl (Nat.le_of_ble_eq_true rfl) rfl ?_
        refine v_if_eq 48 59 C dX8_copy_48 (by decide) h (fun h => ?_) (fun h => ?_)
        · exact w_X8_copy_b59 C (lv_sub hl [2] rfl) h
        · refine v_aload 51 C dX8_copy_51 (lv_at hl 0 rfl) ?_
          obtain ⟨v6, S, hc, h⟩ := zb_e h
          refine v_callVi 53 C (ci := 6) [] dX8_copy_53 ml_X8_92 hy_X7_isThere (c_X7_isThere (kRow hz4) hc) (by decide) rfl hl.1 (kRow hz4) rfl (Nat.le_of_ble_eq_true rfl) rfl ?_
          refine v_if_ne 56 65 C dX8_copy_56 (by decide) h (fun h => ?_) (fun h => ?_)
          · refine v_aload 65 C dX8_copy_65 (lv_at hl 1 rfl) ?_
            refine v_iload_n 67 C dX8_copy_67 rfl (lv_at hl 4 rfl) ?_
            refine v_iload 68 C dX8_copy_68 (lv_at hl 7 rfl) ?_
            obtain ⟨v7, S, hc, h⟩ := zb_e h
            refine v_callVi 70 C (ci := 6) [] dX8_copy_70 ml_X8_108 hy_X7_hasSpan (c_X7_hasSpan (kRow hz3) hc) (by decide) rfl hl.1 (kRow hz3) rfl (Nat.le_of_ble_eq_true rfl) rfl ?_
            refine v_if_eq 73 88 C dX8_copy_73 (by decide) h (fun h => ?_) (fun h => ?_)
            · exact w_X8_copy_b88 C (lv_sub hl [2] rfl) h
            · refine v_aload 76 C dX8_copy_76 (lv_at hl 0 rfl) ?_
              refine v_iload 78 C dX8_copy_78 (lv_at hl 6 rfl) ?_
              refine v_iload 80 C dX8_copy_80 (lv_at hl 7 rfl) ?_
              obtain ⟨v8, S, hc, h⟩ := zb_e h
              refine v_callVi 82 C (ci := 6) [] dX8_copy_82 ml_X8_108 hy_X7_hasSpan (c_X7_hasSpan (kRow hz4) hc) (by decide) rfl hl.1 (kRow hz4) rfl (Nat.le_of_ble_eq_true rfl) rfl ?_
              refine v_if_ne 85 94 C dX8_copy_85 (by decide) h (fun h => ?_) (fun h => ?_)
              · refine v_aload 94 C dX8_copy_94 (lv_at hl 1 rfl) ?_
                refine v_getr 96 ((4 + 2 * Int32.toNatClampNeg x1) + 1) C dX8_copy_96 fl_X8_99 rfl (kRow hz3) (rS1 (kRow hz3)) ?_
                refine v_iload_n 99 C dX8_copy_99 rfl (lv_at hl 4 rfl) ?_
                refine v_aload 100 C dX8_copy_100 (lv_at hl 0 rfl) ?_
                refine v_getr 102 ((4 + 2 * Int32.toNatClampNeg x3) + 1) C dX8_copy_102 fl_X8_99 rfl (kRow hz4) (rS1 (kRow hz4)) ?_
                refine v_iload 105 C dX8_copy_105 (lv_at hl 6 rfl) ?_
                refine v_iload 107 C dX8_copy_107 (lv_at hl 7 rfl) ?_
                refine v_copy 109 C dX8_copy_109 ml_X8_112 hl.1 (by decide) (Nat.le_of_ble_eq_true rfl) (kS1 (kRow hz3)) (kS1 (kRow hz4)) rfl rfl h (fun S h => ?_)
                refine v_iconst 112 C (v := (1 : Int32)) dX8_copy_112 (by decide) ?_
                exact v_ireturn 113 C dX8_copy_113 h
              · exact w_X8_copy_b88 C (lv_sub hl [2] rfl) h
          · exact w_X8_copy_b59 C (lv_sub hl [2] rfl) h
      · refine v_aload_n 21 C dX8_copy_21 rfl (lv_at hl 0 rfl) ?_
        refine v_iconst 22 C (v := (5 : Int32)) dX8_copy_22 (by decide) ?_
        obtain ⟨v9, S, hc, h⟩ := zb_e h
        refine v_callVi 23 C (ci := 7) [] dX8_copy_23 ml_X8_84 hy_X8_refuse (c_X8_refuse  hc) (by decide) rfl hl.1 kC_0 rfl (Nat.le_of_ble_eq_true rfl) rfl ?_
        exact v_ireturn 26 C dX8_copy_26 h
    · exact w_X8_copy_b14 C (lv_sub hl [] rfl) h
theorem c_X8_copy {w : zWd} {l0 : Launch} {x1 : Int32} {x2 : Int32} {x3 : Int32} {x4 : Int32} {x5 : Int32} {S S1 : zMem} {r : Int32} (h : f_X8_copy x1 x2 x3 x4 x5 S = some (r, S1)) : zMet LC w l0 yX8_copy cX8_copy 8 (some .int) 3 [.ref (w.2.2.1 0), .int x1, .int x2, .int x3, .int x4, .int x5] S (some (.int r)) S1 :=
  zMet_of (by decide +kernel) (Nat.le_of_ble_eq_true rfl) (fun X ls C hl => w_X8_copy_b0 C hl h)
theorem dX7_sum_0 : decode cX7_sum 0 = .ok (.lconst 0, 1) := by decide +kernel
theorem dX7_sum_1 : decode cX7_sum 1 = .ok (.lstore_n 1, 1) := by decide +kernel
theorem dX7_sum_2 : decode cX7_sum 2 = .ok (.iconst 0, 1) := by decide +kernel
theorem dX7_sum_3 : decode cX7_sum 3 = .ok (.istore_n 3, 1) := by decide +kernel
theorem dX7_sum_4 : decode cX7_sum 4 = .ok (.iload_n 3, 1) := by decide +kernel
theorem dX7_sum_5 : decode cX7_sum 5 = .ok (.aload_n 0, 1) := by decide +kernel
theorem dX7_sum_6 : decode cX7_sum 6 = .ok (.getfield 9, 3) := by decide +kernel
theorem dX7_sum_9 : decode cX7_sum 9 = .ok (.if_icmp .ge 19, 3) := by decide +kernel
theorem dX7_sum_12 : decode cX7_sum 12 = .ok (.lload_n 1, 1) := by decide +kernel
theorem dX7_sum_13 : decode cX7_sum 13 = .ok (.aload_n 0, 1) := by decide +kernel
theorem dX7_sum_14 : decode cX7_sum 14 = .ok (.getfield 13, 3) := by decide +kernel
theorem dX7_sum_17 : decode cX7_sum 17 = .ok (.iload_n 3, 1) := by decide +kernel
theorem dX7_sum_18 : decode cX7_sum 18 = .ok (.iaload, 1) := by decide +kernel
theorem dX7_sum_19 : decode cX7_sum 19 = .ok (.i2l, 1) := by decide +kernel
theorem dX7_sum_20 : decode cX7_sum 20 = .ok (.ladd, 1) := by decide +kernel
theorem dX7_sum_21 : decode cX7_sum 21 = .ok (.lstore_n 1, 1) := by decide +kernel
theorem dX7_sum_22 : decode cX7_sum 22 = .ok (.iinc 3 1, 3) := by decide +kernel
theorem dX7_sum_25 : decode cX7_sum 25 = .ok (.goto (-21), 3) := by decide +kernel
theorem dX7_sum_28 : decode cX7_sum 28 = .ok (.lload_n 1, 1) := by decide +kernel
theorem dX7_sum_29 : decode cX7_sum 29 = .ok (.lreturn, 1) := by decide +kernel
set_option maxRecDepth 20000 in
theorem w_X7_sum_b4 {w : zWd} {X : zX} {l0 : Launch} {r : Int64} {S1 : zMem} (C : zC LC w X l0 cX7_sum RX7 4 1 (some .long)) {k4 : Nat → Int64 → Int32 → zMem → Option (Int64 × zMem)} (hc4 : ∀ (c0 : Nat) (y1 : Int64) (x3 : Int32) (S : zMem) (ls : Array Slot), lv_has ls 4 [(0, .ref (w.2.2.1 c0)), (1, .long y1), (3, .int x3)] → (c0 < LC.1 ∧ LC.2.1 c0 = 9) → k4 c0 y1 x3 S = some (r, S1) → zV LC w X (some (.long r)) S1 S 4 ls []) {c0 : Nat} {y1 : Int64} {x3 : Int32} {S : zMem} {ls : Array Slot} (hl : lv_has ls 4 [(0, .ref (w.2.2.1 c0)), (1, .long y1), (3, .int x3)]) (hk_c0 : c0 < LC.1 ∧ LC.2.1 c0 = 9) (h : X7_sum_b4 k4 c0 y1 x3 S = some (r, S1)) : zV LC w X (some (.long r)) S1 S 4 ls [] := by
  unfold X7_sum_b4 at h
  refine v_iload_n 4 C dX7_sum_4 rfl (lv_at hl 2 rfl) ?_
  refine v_aload_n 5 C dX7_sum_5 rfl (lv_at hl 0 rfl) ?_
  refine v_geti 6 C dX7_sum_6 fl_X7_9 rfl hk_c0 h (fun v1 h => ?_)
  refine v_icmp_ge 9 28 C dX7_sum_9 (by decide) h (fun h => ?_) (fun h => ?_)
  · refine v_lload_n 28 C dX7_sum_28 rfl (lv_at hl 1 rfl) ?_
    exact v_lreturn 29 C dX7_sum_29 h
  · refine v_lload_n 12 C dX7_sum_12 rfl (lv_at hl 1 rfl) ?_
    refine v_aload_n 13 C dX7_sum_13 rfl (lv_at hl 0 rfl) ?_
    refine v_getr 14 (c0 + 1) C dX7_sum_14 fl_X7_13 rfl hk_c0 (rS1 hk_c0) ?_
    refine v_iload_n 17 C dX7_sum_17 rfl (lv_at hl 2 rfl) ?_
    refine v_iald 18 C dX7_sum_18 (kS1 hk_c0) rfl h (fun v2 h => ?_)
    refine v_i2l 19 C dX7_sum_19 h (fun v3 h => ?_)
    refine v_ladd 20 C dX7_sum_20 h (fun v4 h => ?_)
    refine v_lstore_n 21 C [(1, .long v4), (0, .ref (w.2.2.1 c0)), (3, .int x3)] dX7_sum_21 rfl hl (by decide) rfl (fun ls hl => ?_)
    refine v_iinc 22 C (nn := (1 : Int32)) (fun v => [(3, .int v), (1, .long v4), (0, .ref (w.2.2.1 c0))]) dX7_sum_22 hl (k := 2) rfl (by decide) (by decide) (fun _ => rfl) h (fun v5 ls hl h => ?_)
    refine v_goto 25 4 C dX7_sum_25 (by decide) ?_
    exact hc4 _ _ _ _ _ (lv_sub hl [2, 1, 0] rfl) hk_c0 h
theorem w_X7_sum_l4 {w : zWd} {X : zX} {l0 : Launch} {r : Int64} {S1 : zMem} (C : zC LC w X l0 cX7_sum RX7 4 1 (some .long)) : ∀ (n : Nat) (c0 : Nat) (y1 : Int64) (x3 : Int32) (S : zMem) (ls : Array Slot), lv_has ls 4 [(0, .ref (w.2.2.1 c0)), (1, .long y1), (3, .int x3)] → (c0 < LC.1 ∧ LC.2.1 c0 = 9) → X7_sum_l4 n c0 y1 x3 S = some (r, S1) → zV LC w X (some (.long r)) S1 S 4 ls [] := by
  intro n
  induction n with
  | zero =>
    intro c0 y1 x3 S ls hl hk_c0 h
    cases (show (none : Option (Int64 × zMem)) = some _ from h)
  | succ n ih =>
    intro c0 y1 x3 S ls hl hk_c0 h
    exact w_X7_sum_b4 C ih hl hk_c0 h
set_option maxRecDepth 20000 in
theorem w_X7_sum_b0 {w : zWd} {X : zX} {l0 : Launch} {r : Int64} {S1 : zMem} (C : zC LC w X l0 cX7_sum RX7 4 1 (some .long)) {c0 : Nat} {S : zMem} {ls : Array Slot} (hl : lv_has ls 4 [(0, .ref (w.2.2.1 c0))]) (hk_c0 : c0 < LC.1 ∧ LC.2.1 c0 = 9) (h : X7_sum_b0 c0 S = some (r, S1)) : zV LC w X (some (.long r)) S1 S 0 ls [] := by
  unfold X7_sum_b0 at h
  refine v_lconst 0 C (v := 0) dX7_sum_0 (by decide) ?_
  refine v_lstore_n 1 C [(1, .long (0 : Int64)), (0, .ref (w.2.2.1 c0))] dX7_sum_1 rfl hl (by decide) rfl (fun ls hl => ?_)
  refine v_iconst 2 C (v := (0 : Int32)) dX7_sum_2 (by decide) ?_
  refine v_istore_n 3 C [(3, .int (0 : Int32)), (1, .long (0 : Int64)), (0, .ref (w.2.2.1 c0))] dX7_sum_3 rfl hl (by decide) rfl (fun ls hl => ?_)
  exact w_X7_sum_l4 C zF _ _ _ _ _ (lv_sub hl [2, 1, 0] rfl) hk_c0 h
theorem c_X7_sum {w : zWd} {l0 : Launch} {c0 : Nat} {S S1 : zMem} {r : Int64} (hk_c0 : c0 < LC.1 ∧ LC.2.1 c0 = 9) (h : f_X7_sum c0 S = some (r, S1)) : zMet LC w l0 yX7_sum cX7_sum 4 (some .long) 1 [.ref (w.2.2.1 c0)] S (some (.long r)) S1 :=
  zMet_of (by decide +kernel) (Nat.le_of_ble_eq_true rfl) (fun X ls C hl => w_X7_sum_b0 C hl hk_c0 h)
theorem fl_X8_118 : zFL RX8 118 6 1 := ⟨_, rfl, by decide, zT_of (List.mem_of_getElem? (i := 311) (by decide +kernel)) rfl⟩
theorem ml_X8_122 : Cond.methodLink RX8 122 yX7_sum ∈ zT := zT_of (List.mem_of_getElem? (i := 424) (by decide +kernel)) rfl
theorem hy_X7_sum : zYv yX7_sum cX7_sum 4 (some .long) 0 := ⟨⟨zT_of (List.mem_of_getElem? (i := 427) (by decide +kernel)) rfl, zT_of (List.mem_of_getElem? (i := 77) (by decide +kernel)) rfl, by decide, by decide +kernel, by decide +kernel, by decide +kernel⟩, zT_of (List.mem_of_getElem? (i := 425) (by decide +kernel)) rfl, zT_of (List.mem_of_getElem? (i := 426) (by decide +kernel)) rfl⟩
theorem dX8_mean_0 : decode cX8_mean 0 = .ok (.iload_n 1, 1) := by decide +kernel
theorem dX8_mean_1 : decode cX8_mean 1 = .ok (.invokestatic 80, 3) := by decide +kernel
theorem dX8_mean_4 : decode cX8_mean 4 = .ok (.ifCond .ne 5, 3) := by decide +kernel
theorem dX8_mean_7 : decode cX8_mean 7 = .ok (.iconst (-1), 1) := by decide +kernel
theorem dX8_mean_8 : decode cX8_mean 8 = .ok (.ireturn, 1) := by decide +kernel
theorem dX8_mean_9 : decode cX8_mean 9 = .ok (.aload_n 0, 1) := by decide +kernel
theorem dX8_mean_10 : decode cX8_mean 10 = .ok (.getfield 11, 3) := by decide +kernel
theorem dX8_mean_13 : decode cX8_mean 13 = .ok (.iload_n 1, 1) := by decide +kernel
theorem dX8_mean_14 : decode cX8_mean 14 = .ok (.aaload, 1) := by decide +kernel
theorem dX8_mean_15 : decode cX8_mean 15 = .ok (.astore_n 2, 1) := by decide +kernel
theorem dX8_mean_16 : decode cX8_mean 16 = .ok (.aload_n 2, 1) := by decide +kernel
theorem dX8_mean_17 : decode cX8_mean 17 = .ok (.invokevirtual 92, 3) := by decide +kernel
theorem dX8_mean_20 : decode cX8_mean 20 = .ok (.ifCond .ne 9, 3) := by decide +kernel
theorem dX8_mean_23 : decode cX8_mean 23 = .ok (.aload_n 0, 1) := by decide +kernel
theorem dX8_mean_24 : decode cX8_mean 24 = .ok (.iconst 1, 1) := by decide +kernel
theorem dX8_mean_25 : decode cX8_mean 25 = .ok (.invokevirtual 84, 3) := by decide +kernel
theorem dX8_mean_28 : decode cX8_mean 28 = .ok (.ireturn, 1) := by decide +kernel
theorem dX8_mean_29 : decode cX8_mean 29 = .ok (.aload_n 2, 1) := by decide +kernel
theorem dX8_mean_30 : decode cX8_mean 30 = .ok (.getfield 118, 3) := by decide +kernel
theorem dX8_mean_33 : decode cX8_mean 33 = .ok (.ifCond .ne 9, 3) := by decide +kernel
theorem dX8_mean_36 : decode cX8_mean 36 = .ok (.aload_n 0, 1) := by decide +kernel
theorem dX8_mean_37 : decode cX8_mean 37 = .ok (.iconst 4, 1) := by decide +kernel
theorem dX8_mean_38 : decode cX8_mean 38 = .ok (.invokevirtual 84, 3) := by decide +kernel
theorem dX8_mean_41 : decode cX8_mean 41 = .ok (.ireturn, 1) := by decide +kernel
theorem dX8_mean_42 : decode cX8_mean 42 = .ok (.aload_n 0, 1) := by decide +kernel
theorem dX8_mean_43 : decode cX8_mean 43 = .ok (.aload_n 2, 1) := by decide +kernel
theorem dX8_mean_44 : decode cX8_mean 44 = .ok (.invokevirtual 122, 3) := by decide +kernel
theorem dX8_mean_47 : decode cX8_mean 47 = .ok (.aload_n 2, 1) := by decide +kernel
theorem dX8_mean_48 : decode cX8_mean 48 = .ok (.getfield 118, 3) := by decide +kernel
theorem dX8_mean_51 : decode cX8_mean 51 = .ok (.i2l, 1) := by decide +kernel
theorem dX8_mean_52 : decode cX8_mean 52 = .ok (.ldiv, 1) := by decide +kernel
theorem dX8_mean_53 : decode cX8_mean 53 = .ok (.l2i, 1) := by decide +kernel
theorem dX8_mean_54 : decode cX8_mean 54 = .ok (.invokevirtual 102, 3) := by decide +kernel
theorem dX8_mean_57 : decode cX8_mean 57 = .ok (.ireturn, 1) := by decide +kernel
set_option maxRecDepth 20000 in
theorem w_X8_mean_b0 {w : zWd} {X : zX} {l0 : Launch} {r : Int32} {S1 : zMem} (C : zC LC w X l0 cX8_mean RX8 3 3 (some .int)) {x1 : Int32} {S : zMem} {ls : Array Slot} (hl : lv_has ls 3 [(0, .ref (w.2.2.1 0)), (1, .int x1)]) (h : X8_mean_b0 x1 S = some (r, S1)) : zV LC w X (some (.int r)) S1 S 0 ls [] := by
  unfold X8_mean_b0 at h
  refine v_iload_n 0 C dX8_mean_0 rfl (lv_at hl 1 rfl) ?_
  obtain ⟨v1, S, hc, h⟩ := zb_e h
  refine v_callSi 1 C [] dX8_mean_1 ml_X8_80 hy_X8_isRow (c_X8_isRow  hc) (by decide) rfl hl.1 (Nat.le_of_ble_eq_true rfl) rfl ?_
  refine v_if_ne 4 9 C dX8_mean_4 (by decide) h (fun h => ?_) (fun h => ?_)
  · refine v_aload_n 9 C dX8_mean_9 rfl (lv_at hl 0 rfl) ?_
    refine v_getr 10 (1) C dX8_mean_10 fl_X8_11 rfl kC_0 rfl ?_
    refine v_iload_n 13 C dX8_mean_13 rfl (lv_at hl 1 rfl) ?_
    refine v_aald 14 (4 + 2 * Int32.toNatClampNeg x1) C dX8_mean_14 kC_1 (Or.inl rfl) rfl rfl h (fun hz2 h => ?_)
    refine v_astore_n 15 C [(2, .ref (w.2.2.1 (4 + 2 * Int32.toNatClampNeg x1))), (0, .ref (w.2.2.1 0)), (1, .int x1)] dX8_mean_15 rfl hl (by decide) rfl (fun ls hl => ?_)
    refine v_aload_n 16 C dX8_mean_16 rfl (lv_at hl 0 rfl) ?_
    obtain ⟨v3, S, hc, h⟩ := zb_e h
    refine v_callVi 17 C (ci := 6) [] dX8_mean_17 ml_X8_92 hy_X7_isThere (c_X7_isThere (kRow hz2) hc) (by decide) rfl hl.1 (kRow hz2) rfl (Nat.le_of_ble_eq_true rfl) rfl ?_
    refine v_if_ne 20 29 C dX8_mean_20 (by decide) h (fun h => ?_) (fun h => ?_)
    · refine v_aload_n 29 C dX8_mean_29 rfl (lv_at hl 0 rfl) ?_
      refine v_geti 30 C dX8_mean_30 fl_X8_118 rfl (kRow hz2) h (fun v4 h => ?_)
      refine v_if_ne 33 42 C dX8_mean_33 (by decide) h (fun h => ?_) (fun h => ?_)
      · refine v_aload_n 42 C dX8_mean_42 rfl (lv_at hl 1 rfl) ?_
        refine v_aload_n 43 C dX8_mean_43 rfl (lv_at hl 0 rfl) ?_
        obtain ⟨v5, S, hc, h⟩ := zb_e h
        refine v_callVl 44 C (ci := 6) [.ref (w.2.2.1 0)] dX8_mean_44 ml_X8_122 hy_X7_sum (c_X7_sum (kRow hz2) hc) (by decide) rfl hl.1 (kRow hz2) rfl (Nat.le_of_ble_eq_true rfl) rfl ?_
        refine v_aload_n 47 C dX8_mean_47 rfl (lv_at hl 0 rfl) ?_
        refine v_geti 48 C dX8_mean_48 fl_X8_118 rfl (kRow hz2) h (fun v6 h => ?_)
        refine v_i2l 51 C dX8_mean_51 h (fun v7 h => ?_)
        refine v_ldivc 52 C dX8_mean_52 h (fun v8 h => ?_)
        refine v_l2i 53 C dX8_mean_53 h (fun v9 h => ?_)
        obtain ⟨v10, S, hc, h⟩ := zb_e h
        refine v_callVi 54 C (ci := 7) [] dX8_mean_54 ml_X8_102 hy_X8_tell (c_X8_tell  hc) (by decide) rfl hl.1 kC_0 rfl (Nat.le_of_ble_eq_true rfl) rfl ?_
        exact v_ireturn 57 C dX8_mean_57 h
      · refine v_aload_n 36 C dX8_mean_36 rfl (lv_at hl 1 rfl) ?_
        refine v_iconst 37 C (v := (4 : Int32)) dX8_mean_37 (by decide) ?_
        obtain ⟨v11, S, hc, h⟩ := zb_e h
        refine v_callVi 38 C (ci := 7) [] dX8_mean_38 ml_X8_84 hy_X8_refuse (c_X8_refuse  hc) (by decide) rfl hl.1 kC_0 rfl (Nat.le_of_ble_eq_true rfl) rfl ?_
        exact v_ireturn 41 C dX8_mean_41 h
    · refine v_aload_n 23 C dX8_mean_23 rfl (lv_at hl 1 rfl) ?_
      refine v_iconst 24 C (v := (1 : Int32)) dX8_mean_24 (by decide) ?_
      obtain ⟨v12, S, hc, h⟩ := zb_e h
      refine v_callVi 25 C (ci := 7) [] dX8_mean_25 ml_X8_84 hy_X8_refuse (c_X8_refuse  hc) (by decide) rfl hl.1 kC_0 rfl (Nat.le_of_ble_eq_true rfl) rfl ?_
      exact v_ireturn 28 C dX8_mean_28 h
  · refine v_iconst 7 C (v := (-1 : Int32)) dX8_mean_7 (by decide) ?_
    exact v_ireturn 8 C dX8_mean_8 h
theorem c_X8_mean {w : zWd} {l0 : Launch} {x1 : Int32} {S S1 : zMem} {r : Int32} (h : f_X8_mean x1 S = some (r, S1)) : zMet LC w l0 yX8_mean cX8_mean 3 (some .int) 3 [.ref (w.2.2.1 0), .int x1] S (some (.int r)) S1 :=
  zMet_of (by decide +kernel) (Nat.le_of_ble_eq_true rfl) (fun X ls C hl => w_X8_mean_b0 C hl h)
theorem dX8_isText_0 : decode cX8_isText 0 = .ok (.iload_n 0, 1) := by decide +kernel
theorem dX8_isText_1 : decode cX8_isText 1 = .ok (.iconst 3, 1) := by decide +kernel
theorem dX8_isText_2 : decode cX8_isText 2 = .ok (.invokestatic 152, 3) := by decide +kernel
theorem dX8_isText_5 : decode cX8_isText 5 = .ok (.ireturn, 1) := by decide +kernel
set_option maxRecDepth 20000 in
theorem w_X8_isText_b0 {w : zWd} {X : zX} {l0 : Launch} {r : Int32} {S1 : zMem} (C : zC LC w X l0 cX8_isText RX8 1 2 (some .boolean)) {x0 : Int32} {S : zMem} {ls : Array Slot} (hl : lv_has ls 1 [(0, .int x0)]) (h : X8_isText_b0 x0 S = some (r, S1)) : zV LC w X (some (.int r)) S1 S 0 ls [] := by
  unfold X8_isText_b0 at h
  refine v_iload_n 0 C dX8_isText_0 rfl (lv_at hl 0 rfl) ?_
  refine v_iconst 1 C (v := (3 : Int32)) dX8_isText_1 (by decide) ?_
  obtain ⟨v1, S, hc, h⟩ := zb_e h
  refine v_callSi 2 C [] dX8_isText_2 ml_X8_152 hy_X8_within (c_X8_within  hc) (by decide) rfl hl.1 (Nat.le_of_ble_eq_true rfl) rfl ?_
  exact v_zreturn 5 C dX8_isText_5 h
theorem c_X8_isText {w : zWd} {l0 : Launch} {x0 : Int32} {S S1 : zMem} {r : Int32} (h : f_X8_isText x0 S = some (r, S1)) : zMet LC w l0 yX8_isText cX8_isText 1 (some .boolean) 2 [.int x0] S (some (.int r)) S1 :=
  zMet_of (by decide +kernel) (Nat.le_of_ble_eq_true rfl) (fun X ls C hl => w_X8_isText_b0 C hl h)
theorem ml_X8_126 : Cond.methodLink RX8 126 yX8_isText ∈ zT := zT_of (List.mem_of_getElem? (i := 432) (by decide +kernel)) rfl
theorem hy_X8_isText : zYs yX8_isText cX8_isText 1 (some .boolean) 1 := ⟨⟨zT_of (List.mem_of_getElem? (i := 434) (by decide +kernel)) rfl, zT_of (List.mem_of_getElem? (i := 70) (by decide +kernel)) rfl, by decide, by decide +kernel, by decide +kernel, by decide +kernel⟩, zT_of (List.mem_of_getElem? (i := 433) (by decide +kernel)) rfl⟩
theorem fl_X8_15 : zFL RX8 15 7 1 := ⟨_, rfl, by decide, zT_of (List.mem_of_getElem? (i := 318) (by decide +kernel)) rfl⟩
theorem dX8_text_0 : decode cX8_text 0 = .ok (.iload_n 1, 1) := by decide +kernel
theorem dX8_text_1 : decode cX8_text 1 = .ok (.invokestatic 126, 3) := by decide +kernel
theorem dX8_text_4 : decode cX8_text 4 = .ok (.ifCond .eq 9, 3) := by decide +kernel
theorem dX8_text_7 : decode cX8_text 7 = .ok (.iload_n 2, 1) := by decide +kernel
theorem dX8_text_8 : decode cX8_text 8 = .ok (.bipush 60, 2) := by decide +kernel
theorem dX8_text_10 : decode cX8_text 10 = .ok (.if_icmp .le 5, 3) := by decide +kernel
theorem dX8_text_13 : decode cX8_text 13 = .ok (.iconst (-1), 1) := by decide +kernel
theorem dX8_text_14 : decode cX8_text 14 = .ok (.ireturn, 1) := by decide +kernel
theorem dX8_text_15 : decode cX8_text 15 = .ok (.iload_n 2, 1) := by decide +kernel
theorem dX8_text_16 : decode cX8_text 16 = .ok (.ifCond .ge 9, 3) := by decide +kernel
theorem dX8_text_19 : decode cX8_text 19 = .ok (.aload_n 0, 1) := by decide +kernel
theorem dX8_text_20 : decode cX8_text 20 = .ok (.iconst 5, 1) := by decide +kernel
theorem dX8_text_21 : decode cX8_text 21 = .ok (.invokevirtual 84, 3) := by decide +kernel
theorem dX8_text_24 : decode cX8_text 24 = .ok (.ireturn, 1) := by decide +kernel
theorem dX8_text_25 : decode cX8_text 25 = .ok (.aload_n 0, 1) := by decide +kernel
theorem dX8_text_26 : decode cX8_text 26 = .ok (.getfield 15, 3) := by decide +kernel
theorem dX8_text_29 : decode cX8_text 29 = .ok (.iload_n 1, 1) := by decide +kernel
theorem dX8_text_30 : decode cX8_text 30 = .ok (.aaload, 1) := by decide +kernel
theorem dX8_text_31 : decode cX8_text 31 = .ok (.iload_n 2, 1) := by decide +kernel
theorem dX8_text_32 : decode cX8_text 32 = .ok (.bipush 32, 2) := by decide +kernel
theorem dX8_text_34 : decode cX8_text 34 = .ok (.invokevirtual 88, 3) := by decide +kernel
theorem dX8_text_37 : decode cX8_text 37 = .ok (.iload_n 2, 1) := by decide +kernel
theorem dX8_text_38 : decode cX8_text 38 = .ok (.ireturn, 1) := by decide +kernel
set_option maxRecDepth 20000 in
theorem w_X8_text_b13 {w : zWd} {X : zX} {l0 : Launch} {r : Int32} {S1 : zMem} (C : zC LC w X l0 cX8_text RX8 3 3 (some .int)) {S : zMem} {ls : Array Slot} (hl : lv_has ls 3 []) (h : X8_text_b13  S = some (r, S1)) : zV LC w X (some (.int r)) S1 S 13 ls [] := by
  unfold X8_text_b13 at h
  refine v_iconst 13 C (v := (-1 : Int32)) dX8_text_13 (by decide) ?_
  exact v_ireturn 14 C dX8_text_14 h
set_option maxRecDepth 20000 in
theorem w_X8_text_b0 {w : zWd} {X : zX} {l0 : Launch} {r : Int32} {S1 : zMem} (C : zC LC w X l0 cX8_text RX8 3 3 (some .int)) {x1 : Int32} {x2 : Int32} {S : zMem} {ls : Array Slot} (hl : lv_has ls 3 [(0, .ref (w.2.2.1 0)), (1, .int x1), (2, .int x2)]) (h : X8_text_b0 x1 x2 S = some (r, S1)) : zV LC w X (some (.int r)) S1 S 0 ls [] := by
  unfold X8_text_b0 at h
  refine v_iload_n 0 C dX8_text_0 rfl (lv_at hl 1 rfl) ?_
  obtain ⟨v1, S, hc, h⟩ := zb_e h
  refine v_callSi 1 C [] dX8_text_1 ml_X8_126 hy_X8_isText (c_X8_isText  hc) (by decide) rfl hl.1 (Nat.le_of_ble_eq_true rfl) rfl ?_
  refine v_if_eq 4 13 C dX8_text_4 (by decide) h (fun h => ?_) (fun h => ?_)
  · exact w_X8_text_b13 C (lv_sub hl [] rfl) h
  · refine v_iload_n 7 C dX8_text_7 rfl (lv_at hl 2 rfl) ?_
    refine v_bipush 8 C (v := (60 : Int32)) dX8_text_8 (by decide) ?_
    refine v_icmp_le 10 15 C dX8_text_10 (by decide) h (fun h => ?_) (fun h => ?_)
    · refine v_iload_n 15 C dX8_text_15 rfl (lv_at hl 2 rfl) ?_
      refine v_if_ge 16 25 C dX8_text_16 (by decide) h (fun h => ?_) (fun h => ?_)
      · refine v_aload_n 25 C dX8_text_25 rfl (lv_at hl 0 rfl) ?_
        refine v_getr 26 (2) C dX8_text_26 fl_X8_15 rfl kC_0 rfl ?_
        refine v_iload_n 29 C dX8_text_29 rfl (lv_at hl 1 rfl) ?_
        refine v_aald 30 (16 + 2 * Int32.toNatClampNeg x1) C dX8_text_30 kC_2 (Or.inl rfl) rfl rfl h (fun hz2 h => ?_)
        refine v_iload_n 31 C dX8_text_31 rfl (lv_at hl 2 rfl) ?_
        refine v_bipush 32 C (v := (32 : Int32)) dX8_text_32 (by decide) ?_
        obtain ⟨v3, S, hc, h⟩ := zb_e h
        refine v_callVv 34 C (ci := 6) [] dX8_text_34 ml_X8_88 hy_X7_lieAnew (c_X7_lieAnew (kTxt hz2) hc) (by decide) rfl hl.1 (kTxt hz2) rfl (Nat.le_of_ble_eq_true rfl) rfl ?_
        refine v_iload_n 37 C dX8_text_37 rfl (lv_at hl 2 rfl) ?_
        exact v_ireturn 38 C dX8_text_38 h
      · refine v_aload_n 19 C dX8_text_19 rfl (lv_at hl 0 rfl) ?_
        refine v_iconst 20 C (v := (5 : Int32)) dX8_text_20 (by decide) ?_
        obtain ⟨v4, S, hc, h⟩ := zb_e h
        refine v_callVi 21 C (ci := 7) [] dX8_text_21 ml_X8_84 hy_X8_refuse (c_X8_refuse  hc) (by decide) rfl hl.1 kC_0 rfl (Nat.le_of_ble_eq_true rfl) rfl ?_
        exact v_ireturn 24 C dX8_text_24 h
    · exact w_X8_text_b13 C (lv_sub hl [] rfl) h
theorem c_X8_text {w : zWd} {l0 : Launch} {x1 : Int32} {x2 : Int32} {S S1 : zMem} {r : Int32} (h : f_X8_text x1 x2 S = some (r, S1)) : zMet LC w l0 yX8_text cX8_text 3 (some .int) 3 [.ref (w.2.2.1 0), .int x1, .int x2] S (some (.int r)) S1 :=
  zMet_of (by decide +kernel) (Nat.le_of_ble_eq_true rfl) (fun X ls C hl => w_X8_text_b0 C hl h)
theorem dX8_put_0 : decode cX8_put 0 = .ok (.iload_n 1, 1) := by decide +kernel
theorem dX8_put_1 : decode cX8_put 1 = .ok (.invokestatic 126, 3) := by decide +kernel
theorem dX8_put_4 : decode cX8_put 4 = .ok (.ifCond .ne 5, 3) := by decide +kernel
theorem dX8_put_7 : decode cX8_put 7 = .ok (.iconst (-1), 1) := by decide +kernel
theorem dX8_put_8 : decode cX8_put 8 = .ok (.ireturn, 1) := by decide +kernel
theorem dX8_put_9 : decode cX8_put 9 = .ok (.aload_n 0, 1) := by decide +kernel
theorem dX8_put_10 : decode cX8_put 10 = .ok (.getfield 15, 3) := by decide +kernel
theorem dX8_put_13 : decode cX8_put 13 = .ok (.iload_n 1, 1) := by decide +kernel
theorem dX8_put_14 : decode cX8_put 14 = .ok (.aaload, 1) := by decide +kernel
theorem dX8_put_15 : decode cX8_put 15 = .ok (.astore 4, 2) := by decide +kernel
theorem dX8_put_17 : decode cX8_put 17 = .ok (.aload 4, 2) := by decide +kernel
theorem dX8_put_19 : decode cX8_put 19 = .ok (.invokevirtual 92, 3) := by decide +kernel
theorem dX8_put_22 : decode cX8_put 22 = .ok (.ifCond .ne 9, 3) := by decide +kernel
theorem dX8_put_25 : decode cX8_put 25 = .ok (.aload_n 0, 1) := by decide +kernel
theorem dX8_put_26 : decode cX8_put 26 = .ok (.iconst 1, 1) := by decide +kernel
theorem dX8_put_27 : decode cX8_put 27 = .ok (.invokevirtual 84, 3) := by decide +kernel
theorem dX8_put_30 : decode cX8_put 30 = .ok (.ireturn, 1) := by decide +kernel
theorem dX8_put_31 : decode cX8_put 31 = .ok (.aload 4, 2) := by decide +kernel
theorem dX8_put_33 : decode cX8_put 33 = .ok (.iload_n 2, 1) := by decide +kernel
theorem dX8_put_34 : decode cX8_put 34 = .ok (.invokevirtual 96, 3) := by decide +kernel
theorem dX8_put_37 : decode cX8_put 37 = .ok (.ifCond .ne 9, 3) := by decide +kernel
theorem dX8_put_40 : decode cX8_put 40 = .ok (.aload_n 0, 1) := by decide +kernel
theorem dX8_put_41 : decode cX8_put 41 = .ok (.iconst 2, 1) := by decide +kernel
theorem dX8_put_42 : decode cX8_put 42 = .ok (.invokevirtual 84, 3) := by decide +kernel
theorem dX8_put_45 : decode cX8_put 45 = .ok (.ireturn, 1) := by decide +kernel
theorem dX8_put_46 : decode cX8_put 46 = .ok (.aload 4, 2) := by decide +kernel
theorem dX8_put_48 : decode cX8_put 48 = .ok (.getfield 99, 3) := by decide +kernel
theorem dX8_put_51 : decode cX8_put 51 = .ok (.iload_n 2, 1) := by decide +kernel
theorem dX8_put_52 : decode cX8_put 52 = .ok (.iaload, 1) := by decide +kernel
theorem dX8_put_53 : decode cX8_put 53 = .ok (.istore 5, 2) := by decide +kernel
theorem dX8_put_55 : decode cX8_put 55 = .ok (.aload 4, 2) := by decide +kernel
theorem dX8_put_57 : decode cX8_put 57 = .ok (.getfield 99, 3) := by decide +kernel
theorem dX8_put_60 : decode cX8_put 60 = .ok (.iload_n 2, 1) := by decide +kernel
theorem dX8_put_61 : decode cX8_put 61 = .ok (.iload_n 3, 1) := by decide +kernel
theorem dX8_put_62 : decode cX8_put 62 = .ok (.i2b, 1) := by decide +kernel
theorem dX8_put_63 : decode cX8_put 63 = .ok (.iastore, 1) := by decide +kernel
theorem dX8_put_64 : decode cX8_put 64 = .ok (.iload 5, 2) := by decide +kernel
theorem dX8_put_66 : decode cX8_put 66 = .ok (.sipush 1000, 3) := by decide +kernel
theorem dX8_put_69 : decode cX8_put 69 = .ok (.iadd, 1) := by decide +kernel
theorem dX8_put_70 : decode cX8_put 70 = .ok (.ireturn, 1) := by decide +kernel
set_option maxRecDepth 20000 in
theorem w_X8_put_b0 {w : zWd} {X : zX} {l0 : Launch} {r : Int32} {S1 : zMem} (C : zC LC w X l0 cX8_put RX8 6 3 (some .int)) {x1 : Int32} {x2 : Int32} {x3 : Int32} {S : zMem} {ls : Array Slot} (hl : lv_has ls 6 [(0, .ref (w.2.2.1 0)), (1, .int x1), (2, .int x2), (3, .int x3)]) (h : X8_put_b0 x1 x2 x3 S = some (r, S1)) : zV LC w X (some (.int r)) S1 S 0 ls [] := by
  unfold X8_put_b0 at h
  refine v_iload_n 0 C dX8_put_0 rfl (lv_at hl 1 rfl) ?_
  obtain ⟨v1, S, hc, h⟩ := zb_e h
  refine v_callSi 1 C [] dX8_put_1 ml_X8_126 hy_X8_isText (c_X8_isText  hc) (by decide) rfl hl.1 (Nat.le_of_ble_eq_true rfl) rfl ?_
  refine v_if_ne 4 9 C dX8_put_4 (by decide) h (fun h => ?_) (fun h => ?_)
  · refine v_aload_n 9 C dX8_put_9 rfl (lv_at hl 0 rfl) ?_
    refine v_getr 10 (2) C dX8_put_10 fl_X8_15 rfl kC_0 rfl ?_
    refine v_iload_n 13 C dX8_put_13 rfl (lv_at hl 1 rfl) ?_
    refine v_aald 14 (16 + 2 * Int32.toNatClampNeg x1) C dX8_put_14 kC_2 (Or.inl rfl) rfl rfl h (fun hz2 h => ?_)
    refine v_astore 15 C [(4, .ref (w.2.2.1 (16 + 2 * Int32.toNatClampNeg x1))), (0, .ref (w.2.2.1 0)), (1, .int x1), (2, .int x2), (3, .int x3)] dX8_put_15 hl (by decide) rfl (fun ls hl => ?_)
    refine v_aload 17 C dX8_put_17 (lv_at hl 0 rfl) ?_
    obtain ⟨v3, S, hc, h⟩ := zb_e h
    refine v_callVi 19 C (ci := 6) [] dX8_put_19 ml_X8_92 hy_X7_isThere (c_X7_isThere (kTxt hz2) hc) (by decide) rfl hl.1 (kTxt hz2) rfl (Nat.le_of_ble_eq_true rfl) rfl ?_
    refine v_if_ne 22 31 C dX8_put_22 (by decide) h (fun h => ?_) (fun h => ?_)
    · refine v_aload 31 C dX8_put_31 (lv_at hl 0 rfl) ?_
      refine v_iload_n 33 C dX8_put_33 rfl (lv_at hl 3 rfl) ?_
      obtain ⟨v4, S, hc, h⟩ := zb_e h
      refine v_callVi 34 C (ci := 6) [] dX8_put_34 ml_X8_96 hy_X7_has (c_X7_has (kTxt hz2) hc) (by decide) rfl hl.1 (kTxt hz2) rfl (Nat.le_of_ble_eq_true rfl) rfl ?_
      refine v_if_ne 37 46 C dX8_put_37 (by decide) h (fun h => ?_) (fun h => ?_)
      · refine v_aload 46 C dX8_put_46 (lv_at hl 0 rfl) ?_
        refine v_getr 48 ((16 + 2 * Int32.toNatClampNeg x1) + 1) C dX8_put_48 fl_X8_99 rfl (kTxt hz2) (rS1 (kTxt hz2)) ?_
        refine v_iload_n 51 C dX8_put_51 rfl (lv_at hl 3 rfl) ?_
        refine v_iald 52 C dX8_put_52 (kS1 (kTxt hz2)) rfl h (fun v5 h => ?_)
        refine v_istore 53 C [(5, .int v5), (4, .ref (w.2.2.1 (16 + 2 * Int32.toNatClampNeg x1))), (0, .ref (w.2.2.1 0)), (1, .int x1), (2, .int x2), (3, .int x3)] dX8_put_53 hl (by decide) rfl (fun ls hl => ?_)
        refine v_aload 55 C dX8_put_55 (lv_at hl 1 rfl) ?_
        refine v_getr 57 ((16 + 2 * Int32.toNatClampNeg x1) + 1) C dX8_put_57 fl_X8_99 rfl (kTxt hz2) (rS1 (kTxt hz2)) ?_
        refine v_iload_n 60 C dX8_put_60 rfl (lv_at hl 4 rfl) ?_
        refine v_iload_n 61 C dX8_put_61 rfl (lv_at hl 5 rfl) ?_
        refine v_i2b 62 C dX8_put_62 h (fun v6 h => ?_)
        refine v_iast 63 C dX8_put_63 (kS1 (kTxt hz2)) rfl h (fun S h => ?_)
        refine v_iload 64 C dX8_put_64 (lv_at hl 0 rfl) ?_
        refine v_sipush 66 C (v := (1000 : Int32)) dX8_put_66 (by decide) ?_
        refine v_iadd 69 C dX8_put_69 h (fun v7 h => ?_)
        exact v_ireturn 70 C dX8_put_70 h
      · refine v_aload_n 40 C dX8_put_40 rfl (lv_at hl 1 rfl) ?_
        refine v_iconst 41 C (v := (2 : Int32)) dX8_put_41 (by decide) ?_
        obtain ⟨v8, S, hc, h⟩ := zb_e h
        refine v_callVi 42 C (ci := 7) [] dX8_put_42 ml_X8_84 hy_X8_refuse (c_X8_refuse  hc) (by decide) rfl hl.1 kC_0 rfl (Nat.le_of_ble_eq_true rfl) rfl ?_
        exact v_ireturn 45 C dX8_put_45 h
    · refine v_aload_n 25 C dX8_put_25 rfl (lv_at hl 1 rfl) ?_
      refine v_iconst 26 C (v := (1 : Int32)) dX8_put_26 (by decide) ?_
      obtain ⟨v9, S, hc, h⟩ := zb_e h
      refine v_callVi 27 C (ci := 7) [] dX8_put_27 ml_X8_84 hy_X8_refuse (c_X8_refuse  hc) (by decide) rfl hl.1 kC_0 rfl (Nat.le_of_ble_eq_true rfl) rfl ?_
      exact v_ireturn 30 C dX8_put_30 h
  · refine v_iconst 7 C (v := (-1 : Int32)) dX8_put_7 (by decide) ?_
    exact v_ireturn 8 C dX8_put_8 h
theorem c_X8_put {w : zWd} {l0 : Launch} {x1 : Int32} {x2 : Int32} {x3 : Int32} {S S1 : zMem} {r : Int32} (h : f_X8_put x1 x2 x3 S = some (r, S1)) : zMet LC w l0 yX8_put cX8_put 6 (some .int) 3 [.ref (w.2.2.1 0), .int x1, .int x2, .int x3] S (some (.int r)) S1 :=
  zMet_of (by decide +kernel) (Nat.le_of_ble_eq_true rfl) (fun X ls C hl => w_X8_put_b0 C hl h)
theorem ml_X5_41 : Cond.methodLink RX5 41 yX7_has ∈ zT := zT_of (List.mem_of_getElem? (i := 458) (by decide +kernel)) rfl
theorem fl_X5_30 : zFL RX5 30 6 0 := ⟨_, rfl, by decide, zT_of (List.mem_of_getElem? (i := 305) (by decide +kernel)) rfl⟩
theorem dX5_figureAt_0 : decode cX5_figureAt 0 = .ok (.aload_n 0, 1) := by decide +kernel
theorem dX5_figureAt_1 : decode cX5_figureAt 1 = .ok (.iload_n 1, 1) := by decide +kernel
theorem dX5_figureAt_2 : decode cX5_figureAt 2 = .ok (.invokevirtual 41, 3) := by decide +kernel
theorem dX5_figureAt_5 : decode cX5_figureAt 5 = .ok (.ifCond .eq 25, 3) := by decide +kernel
theorem dX5_figureAt_8 : decode cX5_figureAt 8 = .ok (.aload_n 0, 1) := by decide +kernel
theorem dX5_figureAt_9 : decode cX5_figureAt 9 = .ok (.getfield 30, 3) := by decide +kernel
theorem dX5_figureAt_12 : decode cX5_figureAt 12 = .ok (.iload_n 1, 1) := by decide +kernel
theorem dX5_figureAt_13 : decode cX5_figureAt 13 = .ok (.iaload, 1) := by decide +kernel
theorem dX5_figureAt_14 : decode cX5_figureAt 14 = .ok (.bipush 48, 2) := by decide +kernel
theorem dX5_figureAt_16 : decode cX5_figureAt 16 = .ok (.if_icmp .lt 14, 3) := by decide +kernel
theorem dX5_figureAt_19 : decode cX5_figureAt 19 = .ok (.aload_n 0, 1) := by decide +kernel
theorem dX5_figureAt_20 : decode cX5_figureAt 20 = .ok (.getfield 30, 3) := by decide +kernel
theorem dX5_figureAt_23 : decode cX5_figureAt 23 = .ok (.iload_n 1, 1) := by decide +kernel
theorem dX5_figureAt_24 : decode cX5_figureAt 24 = .ok (.iaload, 1) := by decide +kernel
theorem dX5_figureAt_25 : decode cX5_figureAt 25 = .ok (.bipush 57, 2) := by decide +kernel
theorem dX5_figureAt_27 : decode cX5_figureAt 27 = .ok (.if_icmp .le 5, 3) := by decide +kernel
theorem dX5_figureAt_30 : decode cX5_figureAt 30 = .ok (.iconst (-1), 1) := by decide +kernel
theorem dX5_figureAt_31 : decode cX5_figureAt 31 = .ok (.ireturn, 1) := by decide +kernel
theorem dX5_figureAt_32 : decode cX5_figureAt 32 = .ok (.aload_n 0, 1) := by decide +kernel
theorem dX5_figureAt_33 : decode cX5_figureAt 33 = .ok (.getfield 30, 3) := by decide +kernel
theorem dX5_figureAt_36 : decode cX5_figureAt 36 = .ok (.iload_n 1, 1) := by decide +kernel
theorem dX5_figureAt_37 : decode cX5_figureAt 37 = .ok (.iaload, 1) := by decide +kernel
theorem dX5_figureAt_38 : decode cX5_figureAt 38 = .ok (.bipush 48, 2) := by decide +kernel
theorem dX5_figureAt_40 : decode cX5_figureAt 40 = .ok (.isub, 1) := by decide +kernel
theorem dX5_figureAt_41 : decode cX5_figureAt 41 = .ok (.ireturn, 1) := by decide +kernel
set_option maxRecDepth 20000 in
theorem w_X5_figureAt_b30 {w : zWd} {X : zX} {l0 : Launch} {r : Int32} {S1 : zMem} (C : zC LC w X l0 cX5_figureAt RX5 2 2 (some .int)) {S : zMem} {ls : Array Slot} (hl : lv_has ls 2 []) (h : X5_figureAt_b30  S = some (r, S1)) : zV LC w X (some (.int r)) S1 S 30 ls [] := by
  unfold X5_figureAt_b30 at h
  refine v_iconst 30 C (v := (-1 : Int32)) dX5_figureAt_30 (by decide) ?_
  exact v_ireturn 31 C dX5_figureAt_31 h
set_option maxRecDepth 20000 in
theorem w_X5_figureAt_b0 {w : zWd} {X : zX} {l0 : Launch} {r : Int32} {S1 : zMem} (C : zC LC w X l0 cX5_figureAt RX5 2 2 (some .int)) {c0 : Nat} {x1 : Int32} {S : zMem} {ls : Array Slot} (hl : lv_has ls 2 [(0, .ref (w.2.2.1 c0)), (1, .int x1)]) (hk_c0 : c0 < LC.1 ∧ LC.2.1 c0 = 9) (h : X5_figureAt_b0 c0 x1 S = some (r, S1)) : zV LC w X (some (.int r)) S1 S 0 ls [] := by
  unfold X5_figureAt_b0 at h
  refine v_aload_n 0 C dX5_figureAt_0 rfl (lv_at hl 0 rfl) ?_
  refine v_iload_n 1 C dX5_figureAt_1 rfl (lv_at hl 1 rfl) ?_
  obtain ⟨v1, S, hc, h⟩ := zb_e h
  refine v_callVi 2 C (ci := 6) [] dX5_figureAt_2 ml_X5_41 hy_X7_has (c_X7_has hk_c0 hc) (by decide) rfl hl.1 hk_c0 rfl (Nat.le_of_ble_eq_true rfl) rfl ?_
  refine v_if_eq 5 30 C dX5_figureAt_5 (by decide) h (fun h => ?_) (fun h => ?_)
  · exact w_X5_figureAt_b30 C (lv_sub hl [] rfl) h
  · refine v_aload_n 8 C dX5_figureAt_8 rfl (lv_at hl 0 rfl) ?_
    refine v_getr 9 (c0 + 1) C dX5_figureAt_9 fl_X5_30 rfl hk_c0 (rS1 hk_c0) ?_
    refine v_iload_n 12 C dX5_figureAt_12 rfl (lv_at hl 1 rfl) ?_
    refine v_iald 13 C dX5_figureAt_13 (kS1 hk_c0) rfl h (fun v2 h => ?_)
    refine v_bipush 14 C (v := (48 : Int32)) dX5_figureAt_14 (by decide) ?_
    refine v_icmp_lt 16 30 C dX5_figureAt_16 (by decide) h (fun h => ?_) (fun h => ?_)
    · exact w_X5_figureAt_b30 C (lv_sub hl [] rfl) h
    · refine v_aload_n 19 C dX5_figureAt_19 rfl (lv_at hl 0 rfl) ?_
      refine v_getr 20 (c0 + 1) C dX5_figureAt_20 fl_X5_30 rfl hk_c0 (rS1 hk_c0) ?_
      refine v_iload_n 23 C dX5_figureAt_23 rfl (lv_at hl 1 rfl) ?_
      refine v_iald 24 C dX5_figureAt_24 (kS1 hk_c0) rfl h (fun v3 h => ?_)
      refine v_bipush 25 C (v := (57 : Int32)) dX5_figureAt_25 (by decide) ?_
      refine v_icmp_le 27 32 C dX5_figureAt_27 (by decide) h (fun h => ?_) (fun h => ?_)
      · refine v_aload_n 32 C dX5_figureAt_32 rfl (lv_at hl 0 rfl) ?_
        refine v_getr 33 (c0 + 1) C dX5_figureAt_33 fl_X5_30 rfl hk_c0 (rS1 hk_c0) ?_
        refine v_iload_n 36 C dX5_figureAt_36 rfl (lv_at hl 1 rfl) ?_
        refine v_iald 37 C dX5_figureAt_37 (kS1 hk_c0) rfl h (fun v4 h => ?_)
        refine v_bipush 38 C (v := (48 : Int32)) dX5_figureAt_38 (by decide) ?_
        refine v_isub 40 C dX5_figureAt_40 h (fun v5 h => ?_)
        exact v_ireturn 41 C dX5_figureAt_41 h
      · exact w_X5_figureAt_b30 C (lv_sub hl [] rfl) h
theorem c_X5_figureAt {w : zWd} {l0 : Launch} {c0 : Nat} {x1 : Int32} {S S1 : zMem} {r : Int32} (hk_c0 : c0 < LC.1 ∧ LC.2.1 c0 = 9) (h : f_X5_figureAt c0 x1 S = some (r, S1)) : zMet LC w l0 yX5_figureAt cX5_figureAt 2 (some .int) 2 [.ref (w.2.2.1 c0), .int x1] S (some (.int r)) S1 :=
  zMet_of (by decide +kernel) (Nat.le_of_ble_eq_true rfl) (fun X ls C hl => w_X5_figureAt_b0 C hl hk_c0 h)
theorem ml_X5_45 : Cond.methodLink RX5 45 yX5_figureAt ∈ zT := zT_of (List.mem_of_getElem? (i := 455) (by decide +kernel)) rfl
theorem hy_X5_figureAt : zYs yX5_figureAt cX5_figureAt 2 (some .int) 2 := ⟨⟨zT_of (List.mem_of_getElem? (i := 457) (by decide +kernel)) rfl, zT_of (List.mem_of_getElem? (i := 72) (by decide +kernel)) rfl, by decide, by decide +kernel, by decide +kernel, by decide +kernel⟩, zT_of (List.mem_of_getElem? (i := 456) (by decide +kernel)) rfl⟩
theorem fl_X5_12 : zFL RX5 12 4 0 := ⟨_, rfl, by decide, zT_of (List.mem_of_getElem? (i := 154) (by decide +kernel)) rfl⟩
theorem fl_X5_22 : zFL RX5 22 5 5 := ⟨_, rfl, by decide, zT_of (List.mem_of_getElem? (i := 119) (by decide +kernel)) rfl⟩
theorem fl_X5_18 : zFL RX5 18 5 4 := ⟨_, rfl, by decide, zT_of (List.mem_of_getElem? (i := 115) (by decide +kernel)) rfl⟩
theorem fl_X5_60 : zFL RX5 60 5 0 := ⟨_, rfl, by decide, zT_of (List.mem_of_getElem? (i := 101) (by decide +kernel)) rfl⟩
theorem fp_5_4 : zFP 5 4 .int := fun q h => by cases h; exact ⟨rfl, by decide +kernel⟩
theorem dX5_houseFault_0 : decode cX5_houseFault 0 = .ok (.aload_n 1, 1) := by decide +kernel
theorem dX5_houseFault_1 : decode cX5_houseFault 1 = .ok (.iload_n 2, 1) := by decide +kernel
theorem dX5_houseFault_2 : decode cX5_houseFault 2 = .ok (.iconst 1, 1) := by decide +kernel
theorem dX5_houseFault_3 : decode cX5_houseFault 3 = .ok (.iadd, 1) := by decide +kernel
theorem dX5_houseFault_4 : decode cX5_houseFault 4 = .ok (.invokestatic 45, 3) := by decide +kernel
theorem dX5_houseFault_7 : decode cX5_houseFault 7 = .ok (.istore_n 3, 1) := by decide +kernel
theorem dX5_houseFault_8 : decode cX5_houseFault 8 = .ok (.aload_n 1, 1) := by decide +kernel
theorem dX5_houseFault_9 : decode cX5_houseFault 9 = .ok (.iload_n 2, 1) := by decide +kernel
theorem dX5_houseFault_10 : decode cX5_houseFault 10 = .ok (.iconst 2, 1) := by decide +kernel
theorem dX5_houseFault_11 : decode cX5_houseFault 11 = .ok (.iadd, 1) := by decide +kernel
theorem dX5_houseFault_12 : decode cX5_houseFault 12 = .ok (.invokestatic 45, 3) := by decide +kernel
theorem dX5_houseFault_15 : decode cX5_houseFault 15 = .ok (.istore 4, 2) := by decide +kernel
theorem dX5_houseFault_17 : decode cX5_houseFault 17 = .ok (.aload_n 0, 1) := by decide +kernel
theorem dX5_houseFault_18 : decode cX5_houseFault 18 = .ok (.getfield 12, 3) := by decide +kernel
theorem dX5_houseFault_21 : decode cX5_houseFault 21 = .ok (.getfield 22, 3) := by decide +kernel
theorem dX5_houseFault_24 : decode cX5_houseFault 24 = .ok (.ifCond .gt 15, 3) := by decide +kernel
theorem dX5_houseFault_27 : decode cX5_houseFault 27 = .ok (.aload_n 0, 1) := by decide +kernel
theorem dX5_houseFault_28 : decode cX5_houseFault 28 = .ok (.getfield 12, 3) := by decide +kernel
theorem dX5_houseFault_31 : decode cX5_houseFault 31 = .ok (.getfield 18, 3) := by decide +kernel
theorem dX5_houseFault_34 : decode cX5_houseFault 34 = .ok (.bipush 6, 2) := by decide +kernel
theorem dX5_houseFault_36 : decode cX5_houseFault 36 = .ok (.if_icmp .lt 5, 3) := by decide +kernel
theorem dX5_houseFault_39 : decode cX5_houseFault 39 = .ok (.iload_n 2, 1) := by decide +kernel
theorem dX5_houseFault_40 : decode cX5_houseFault 40 = .ok (.ireturn, 1) := by decide +kernel
theorem dX5_houseFault_41 : decode cX5_houseFault 41 = .ok (.iload_n 3, 1) := by decide +kernel
theorem dX5_houseFault_42 : decode cX5_houseFault 42 = .ok (.iconst (-1), 1) := by decide +kernel
theorem dX5_houseFault_43 : decode cX5_houseFault 43 = .ok (.if_icmp .ne 7, 3) := by decide +kernel
theorem dX5_houseFault_46 : decode cX5_houseFault 46 = .ok (.iload_n 2, 1) := by decide +kernel
theorem dX5_houseFault_47 : decode cX5_houseFault 47 = .ok (.iconst 1, 1) := by decide +kernel
theorem dX5_houseFault_48 : decode cX5_houseFault 48 = .ok (.iadd, 1) := by decide +kernel
theorem dX5_houseFault_49 : decode cX5_houseFault 49 = .ok (.ireturn, 1) := by decide +kernel
theorem dX5_houseFault_50 : decode cX5_houseFault 50 = .ok (.iload 4, 2) := by decide +kernel
theorem dX5_houseFault_52 : decode cX5_houseFault 52 = .ok (.iconst (-1), 1) := by decide +kernel
theorem dX5_houseFault_53 : decode cX5_houseFault 53 = .ok (.if_icmp .ne 7, 3) := by decide +kernel
theorem dX5_houseFault_56 : decode cX5_houseFault 56 = .ok (.iload_n 2, 1) := by decide +kernel
theorem dX5_houseFault_57 : decode cX5_houseFault 57 = .ok (.iconst 2, 1) := by decide +kernel
theorem dX5_houseFault_58 : decode cX5_houseFault 58 = .ok (.iadd, 1) := by decide +kernel
theorem dX5_houseFault_59 : decode cX5_houseFault 59 = .ok (.ireturn, 1) := by decide +kernel
theorem dX5_houseFault_60 : decode cX5_houseFault 60 = .ok (.bipush 10, 2) := by decide +kernel
theorem dX5_houseFault_62 : decode cX5_houseFault 62 = .ok (.iload_n 3, 1) := by decide +kernel
theorem dX5_houseFault_63 : decode cX5_houseFault 63 = .ok (.imul, 1) := by decide +kernel
theorem dX5_houseFault_64 : decode cX5_houseFault 64 = .ok (.iload 4, 2) := by decide +kernel
theorem dX5_houseFault_66 : decode cX5_houseFault 66 = .ok (.iadd, 1) := by decide +kernel
theorem dX5_houseFault_67 : decode cX5_houseFault 67 = .ok (.bipush 20, 2) := by decide +kernel
theorem dX5_houseFault_69 : decode cX5_houseFault 69 = .ok (.if_icmp .le 7, 3) := by decide +kernel
theorem dX5_houseFault_72 : decode cX5_houseFault 72 = .ok (.iload_n 2, 1) := by decide +kernel
theorem dX5_houseFault_73 : decode cX5_houseFault 73 = .ok (.iconst 1, 1) := by decide +kernel
theorem dX5_houseFault_74 : decode cX5_houseFault 74 = .ok (.iadd, 1) := by decide +kernel
theorem dX5_houseFault_75 : decode cX5_houseFault 75 = .ok (.ireturn, 1) := by decide +kernel
theorem dX5_houseFault_76 : decode cX5_houseFault 76 = .ok (.aload_n 0, 1) := by decide +kernel
theorem dX5_houseFault_77 : decode cX5_houseFault 77 = .ok (.getfield 12, 3) := by decide +kernel
theorem dX5_houseFault_80 : decode cX5_houseFault 80 = .ok (.getfield 60, 3) := by decide +kernel
theorem dX5_houseFault_83 : decode cX5_houseFault 83 = .ok (.aload_n 0, 1) := by decide +kernel
theorem dX5_houseFault_84 : decode cX5_houseFault 84 = .ok (.getfield 12, 3) := by decide +kernel
theorem dX5_houseFault_87 : decode cX5_houseFault 87 = .ok (.getfield 18, 3) := by decide +kernel
theorem dX5_houseFault_90 : decode cX5_houseFault 90 = .ok (.bipush 10, 2) := by decide +kernel
theorem dX5_houseFault_92 : decode cX5_houseFault 92 = .ok (.iload_n 3, 1) := by decide +kernel
theorem dX5_houseFault_93 : decode cX5_houseFault 93 = .ok (.imul, 1) := by decide +kernel
theorem dX5_houseFault_94 : decode cX5_houseFault 94 = .ok (.iload 4, 2) := by decide +kernel
theorem dX5_houseFault_96 : decode cX5_houseFault 96 = .ok (.iadd, 1) := by decide +kernel
theorem dX5_houseFault_97 : decode cX5_houseFault 97 = .ok (.iastore, 1) := by decide +kernel
theorem dX5_houseFault_98 : decode cX5_houseFault 98 = .ok (.aload_n 0, 1) := by decide +kernel
theorem dX5_houseFault_99 : decode cX5_houseFault 99 = .ok (.getfield 12, 3) := by decide +kernel
theorem dX5_houseFault_102 : decode cX5_houseFault 102 = .ok (.dup, 1) := by decide +kernel
theorem dX5_houseFault_103 : decode cX5_houseFault 103 = .ok (.getfield 18, 3) := by decide +kernel
theorem dX5_houseFault_106 : decode cX5_houseFault 106 = .ok (.iconst 1, 1) := by decide +kernel
theorem dX5_houseFault_107 : decode cX5_houseFault 107 = .ok (.iadd, 1) := by decide +kernel
theorem dX5_houseFault_108 : decode cX5_houseFault 108 = .ok (.putfield 18, 3) := by decide +kernel
theorem dX5_houseFault_111 : decode cX5_houseFault 111 = .ok (.bipush (-9), 2) := by decide +kernel
theorem dX5_houseFault_113 : decode cX5_houseFault 113 = .ok (.ireturn, 1) := by decide +kernel
set_option maxRecDepth 20000 in
theorem w_X5_houseFault_b39 {w : zWd} {X : zX} {l0 : Launch} {r : Int32} {S1 : zMem} (C : zC LC w X l0 cX5_houseFault RX5 5 3 (some .int)) {x2 : Int32} {S : zMem} {ls : Array Slot} (hl : lv_has ls 5 [(2, .int x2)]) (h : X5_houseFault_b39 x2 S = some (r, S1)) : zV LC w X (some (.int r)) S1 S 39 ls [] := by
  unfold X5_houseFault_b39 at h
  refine v_iload_n 39 C dX5_houseFault_39 rfl (lv_at hl 0 rfl) ?_
  exact v_ireturn 40 C dX5_houseFault_40 h
set_option maxRecDepth 20000 in
theorem w_X5_houseFault_b0 {w : zWd} {X : zX} {l0 : Launch} {r : Int32} {S1 : zMem} (C : zC LC w X l0 cX5_houseFault RX5 5 3 (some .int)) {c1 : Nat} {x2 : Int32} {S : zMem} {ls : Array Slot} (hl : lv_has ls 5 [(0, .ref (w.2.2.1 29)), (1, .ref (w.2.2.1 c1)), (2, .int x2)]) (hk_c1 : c1 < LC.1 ∧ LC.2.1 c1 = 9) (h : X5_houseFault_b0 c1 x2 S = some (r, S1)) : zV LC w X (some (.int r)) S1 S 0 ls [] := by
  unfold X5_houseFault_b0 at h
  refine v_aload_n 0 C dX5_houseFault_0 rfl (lv_at hl 1 rfl) ?_
  refine v_iload_n 1 C dX5_houseFault_1 rfl (lv_at hl 2 rfl) ?_
  refine v_iconst 2 C (v := (1 : Int32)) dX5_houseFault_2 (by decide) ?_
  refine v_iadd 3 C dX5_houseFault_3 h (fun v1 h => ?_)
  obtain ⟨v2, S, hc, h⟩ := zb_e h
  refine v_callSi 4 C [] dX5_houseFault_4 ml_X5_45 hy_X5_figureAt (c_X5_figureAt hk_c1 hc) (by decide) rfl hl.1 (Nat.le_of_ble_eq_true rfl) rfl ?_
  refine v_istore_n 7 C [(3, .int v2), (0, .ref (w.2.2.1 29)), (1, .ref (w.2.2.1 c1)), (2, .int x2)] dX5_houseFault_7 rfl hl (by decide) rfl (fun ls hl => ?_)
  refine v_aload_n 8 C dX5_houseFault_8 rfl (lv_at hl 2 rfl) ?_
  refine v_iload_n 9 C dX5_houseFault_9 rfl (lv_at hl 3 rfl) ?_
  refine v_iconst 10 C (v := (2 : Int32)) dX5_houseFault_10 (by decide) ?_
  refine v_iadd 11 C dX5_houseFault_11 h (fun v3 h => ?_)
  obtain ⟨v4, S, hc, h⟩ := zb_e h
  refine v_callSi 12 C [] dX5_houseFault_12 ml_X5_45 hy_X5_figureAt (c_X5_figureAt hk_c1 hc) (by decide) rfl hl.1 (Nat.le_of_ble_eq_true rfl) rfl ?_
  refine v_istore 15 C [(4, .int v4), (3, .int v2), (0, .ref (w.2.2.1 29)), (1, .ref (w.2.2.1 c1)), (2, .int x2)] dX5_houseFault_15 hl (by decide) rfl (fun ls hl => ?_)
  refine v_aload_n 17 C dX5_houseFault_17 rfl (lv_at hl 2 rfl) ?_
  refine v_getr 18 (30) C dX5_houseFault_18 fl_X5_12 rfl kC_29 rfl ?_
  refine v_geti 21 C dX5_houseFault_21 fl_X5_22 rfl kC_30 h (fun v5 h => ?_)
  refine v_if_gt 24 39 C dX5_houseFault_24 (by decide) h (fun h => ?_) (fun h => ?_)
  · exact w_X5_houseFault_b39 C (lv_sub hl [4] rfl) h
  · refine v_aload_n 27 C dX5_houseFault_27 rfl (lv_at hl 2 rfl) ?_
    refine v_getr 28 (30) C dX5_houseFault_28 fl_X5_12 rfl kC_29 rfl ?_
    refine v_geti 31 C dX5_houseFault_31 fl_X5_18 rfl kC_30 h (fun v6 h => ?_)
    refine v_bipush 34 C (v := (6 : Int32)) dX5_houseFault_34 (by decide) ?_
    refine v_icmp_lt 36 41 C dX5_houseFault_36 (by decide) h (fun h => ?_) (fun h => ?_)
    · refine v_iload_n 41 C dX5_houseFault_41 rfl (lv_at hl 1 rfl) ?_
      refine v_iconst 42 C (v := (-1 : Int32)) dX5_houseFault_42 (by decide) ?_
      refine v_icmp_ne 43 50 C dX5_houseFault_43 (by decide) h (fun h => ?_) (fun h => ?_)
      · refine v_iload 50 C dX5_houseFault_50 (lv_at hl 0 rfl) ?_
        refine v_iconst 52 C (v := (-1 : Int32)) dX5_houseFault_52 (by decide) ?_
        refine v_icmp_ne 53 60 C dX5_houseFault_53 (by decide) h (fun h => ?_) (fun h => ?_)
        · refine v_bipush 60 C (v := (10 : Int32)) dX5_houseFault_60 (by decide) ?_
          refine v_iload_n 62 C dX5_houseFault_62 rfl (lv_at hl 1 rfl) ?_
          refine v_imul 63 C dX5_houseFault_63 h (fun v7 h => ?_)
          refine v_iload 64 C dX5_houseFault_64 (lv_at hl 0 rfl) ?_
          refine v_iadd 66 C dX5_houseFault_66 h (fun v8 h => ?_)
          refine v_bipush 67 C (v := (20 : Int32)) dX5_houseFault_67 (by decide) ?_
          refine v_icmp_le 69 76 C dX5_houseFault_69 (by decide) h (fun h => ?_) (fun h => ?_)
          · refine v_aload_n 76 C dX5_houseFault_76 rfl (lv_at hl 2 rfl) ?_
            refine v_getr 77 (30) C dX5_houseFault_77 fl_X5_12 rfl kC_29 rfl ?_
            refine v_getr 80 (31) C dX5_houseFault_80 fl_X5_60 rfl kC_30 rfl ?_
            refine v_aload_n 83 C dX5_houseFault_83 rfl (lv_at hl 2 rfl) ?_
            refine v_getr 84 (30) C dX5_houseFault_84 fl_X5_12 rfl kC_29 rfl ?_
            refine v_geti 87 C dX5_houseFault_87 fl_X5_18 rfl kC_30 h (fun v9 h => ?_)
            refine v_bipush 90 C (v := (10 : Int32)) dX5_houseFault_90 (by decide) ?_
            refine v_iload_n 92 C dX5_houseFault_92 rfl (lv_at hl 1 rfl) ?_
            refine v_imul 93 C dX5_houseFault_93 h (fun v10 h => ?_)
            refine v_iload 94 C dX5_houseFault_94 (lv_at hl 0 rfl) ?_
            refine v_iadd 96 C dX5_houseFault_96 h (fun v11 h => ?_)
            refine v_iast 97 C dX5_houseFault_97 kC_31 rfl h (fun S h => ?_)
            refine v_aload_n 98 C dX5_houseFault_98 rfl (lv_at hl 2 rfl) ?_
            refine v_getr 99 (30) C dX5_houseFault_99 fl_X5_12 rfl kC_29 rfl ?_
            refine v_dup 102 C dX5_houseFault_102 rfl ?_
            refine v_geti 103 C dX5_houseFault_103 fl_X5_18 rfl kC_30 h (fun v12 h => ?_)
            refine v_iconst 106 C (v := (1 : Int32)) dX5_houseFault_106 (by decide) ?_
            refine v_iadd 107 C dX5_houseFault_107 h (fun v13 h => ?_)
            refine v_puti 108 C dX5_houseFault_108 fl_X5_18 fp_5_4 rfl kC_30 h (fun S h => ?_)
            refine v_bipush 111 C (v := (-9 : Int32)) dX5_houseFault_111 (by decide) ?_
            exact v_ireturn 113 C dX5_houseFault_113 h
          · refine v_iload_n 72 C dX5_houseFault_72 rfl (lv_at hl 4 rfl) ?_
            refine v_iconst 73 C (v := (1 : Int32)) dX5_houseFault_73 (by decide) ?_
            refine v_iadd 74 C dX5_houseFault_74 h (fun v14 h => ?_)
            exact v_ireturn 75 C dX5_houseFault_75 h
        · refine v_iload_n 56 C dX5_houseFault_56 rfl (lv_at hl 4 rfl) ?_
          refine v_iconst 57 C (v := (2 : Int32)) dX5_houseFault_57 (by decide) ?_
          refine v_iadd 58 C dX5_houseFault_58 h (fun v15 h => ?_)
          exact v_ireturn 59 C dX5_houseFault_59 h
      · refine v_iload_n 46 C dX5_houseFault_46 rfl (lv_at hl 4 rfl) ?_
        refine v_iconst 47 C (v := (1 : Int32)) dX5_houseFault_47 (by decide) ?_
        refine v_iadd 48 C dX5_houseFault_48 h (fun v16 h => ?_)
        exact v_ireturn 49 C dX5_houseFault_49 h
    · exact w_X5_houseFault_b39 C (lv_sub hl [4] rfl) h
theorem c_X5_houseFault {w : zWd} {l0 : Launch} {c1 : Nat} {x2 : Int32} {S S1 : zMem} {r : Int32} (hk_c1 : c1 < LC.1 ∧ LC.2.1 c1 = 9) (h : f_X5_houseFault c1 x2 S = some (r, S1)) : zMet LC w l0 yX5_houseFault cX5_houseFault 5 (some .int) 3 [.ref (w.2.2.1 29), .ref (w.2.2.1 c1), .int x2] S (some (.int r)) S1 :=
  zMet_of (by decide +kernel) (Nat.le_of_ble_eq_true rfl) (fun X ls C hl => w_X5_houseFault_b0 C hl hk_c1 h)
theorem fs_X1_11 : Cond.fieldLink RX1 11 RX1 "SIGNS" "[C" ∈ zT := zT_of (List.mem_of_getElem? (i := 466) (by decide +kernel)) rfl
theorem dX1_bySign_0 : decode cX1_bySign 0 = .ok (.iconst 0, 1) := by decide +kernel
theorem dX1_bySign_1 : decode cX1_bySign 1 = .ok (.istore_n 1, 1) := by decide +kernel
theorem dX1_bySign_2 : decode cX1_bySign 2 = .ok (.iload_n 1, 1) := by decide +kernel
theorem dX1_bySign_3 : decode cX1_bySign 3 = .ok (.bipush 6, 2) := by decide +kernel
theorem dX1_bySign_5 : decode cX1_bySign 5 = .ok (.if_icmp .ge 20, 3) := by decide +kernel
theorem dX1_bySign_8 : decode cX1_bySign 8 = .ok (.getstatic 11, 3) := by decide +kernel
theorem dX1_bySign_11 : decode cX1_bySign 11 = .ok (.iload_n 1, 1) := by decide +kernel
theorem dX1_bySign_12 : decode cX1_bySign 12 = .ok (.caload, 1) := by decide +kernel
theorem dX1_bySign_13 : decode cX1_bySign 13 = .ok (.iload_n 0, 1) := by decide +kernel
theorem dX1_bySign_14 : decode cX1_bySign 14 = .ok (.if_icmp .ne 5, 3) := by decide +kernel
theorem dX1_bySign_17 : decode cX1_bySign 17 = .ok (.iload_n 1, 1) := by decide +kernel
theorem dX1_bySign_18 : decode cX1_bySign 18 = .ok (.ireturn, 1) := by decide +kernel
theorem dX1_bySign_19 : decode cX1_bySign 19 = .ok (.iinc 1 1, 3) := by decide +kernel
theorem dX1_bySign_22 : decode cX1_bySign 22 = .ok (.goto (-20), 3) := by decide +kernel
theorem dX1_bySign_25 : decode cX1_bySign 25 = .ok (.bipush (-9), 2) := by decide +kernel
theorem dX1_bySign_27 : decode cX1_bySign 27 = .ok (.ireturn, 1) := by decide +kernel
set_option maxRecDepth 20000 in
theorem w_X1_bySign_b2 {w : zWd} {X : zX} {l0 : Launch} {r : Int32} {S1 : zMem} (C : zC LC w X l0 cX1_bySign RX1 2 1 (some .int)) {k2 : Int32 → Int32 → zMem → Option (Int32 × zMem)} (hc2 : ∀ (x0 : Int32) (x1 : Int32) (S : zMem) (ls : Array Slot), lv_has ls 2 [(0, .int x0), (1, .int x1)] → k2 x0 x1 S = some (r, S1) → zV LC w X (some (.int r)) S1 S 2 ls []) {x0 : Int32} {x1 : Int32} {S : zMem} {ls : Array Slot} (hl : lv_has ls 2 [(0, .int x0), (1, .int x1)]) (h : X1_bySign_b2 k2 x0 x1 S = some (r, S1)) : zV LC w X (some (.int r)) S1 S 2 ls [] := by
  unfold X1_bySign_b2 at h
  refine v_iload_n 2 C dX1_bySign_2 rfl (lv_at hl 1 rfl) ?_
  refine v_bipush 3 C (v := (6 : Int32)) dX1_bySign_3 (by decide) ?_
  refine v_icmp_ge 5 25 C dX1_bySign_5 (by decide) h (fun h => ?_) (fun h => ?_)
  · refine v_bipush 25 C (v := (-9 : Int32)) dX1_bySign_25 (by decide) ?_
    exact v_ireturn 27 C dX1_bySign_27 h
  · refine v_gsig 8 C dX1_bySign_8 fs_X1_11 ?_
    refine v_iload_n 11 C dX1_bySign_11 rfl (lv_at hl 1 rfl) ?_
    refine v_lsig 12 C dX1_bySign_12 h (fun v1 h => ?_)
    refine v_iload_n 13 C dX1_bySign_13 rfl (lv_at hl 0 rfl) ?_
    refine v_icmp_ne 14 19 C dX1_bySign_14 (by decide) h (fun h => ?_) (fun h => ?_)
    · refine v_iinc 19 C (nn := (1 : Int32)) (fun v => [(1, .int v), (0, .int x0)]) dX1_bySign_19 hl (k := 1) rfl (by decide) (by decide) (fun _ => rfl) h (fun v2 ls hl h => ?_)
      refine v_goto 22 2 C dX1_bySign_22 (by decide) ?_
      exact hc2 _ _ _ _ (lv_sub hl [1, 0] rfl) h
    · refine v_iload_n 17 C dX1_bySign_17 rfl (lv_at hl 1 rfl) ?_
      exact v_ireturn 18 C dX1_bySign_18 h
theorem w_X1_bySign_l2 {w : zWd} {X : zX} {l0 : Launch} {r : Int32} {S1 : zMem} (C : zC LC w X l0 cX1_bySign RX1 2 1 (some .int)) : ∀ (n : Nat) (x0 : Int32) (x1 : Int32) (S : zMem) (ls : Array Slot), lv_has ls 2 [(0, .int x0), (1, .int x1)] → X1_bySign_l2 n x0 x1 S = some (r, S1) → zV LC w X (some (.int r)) S1 S 2 ls [] := by
  intro n
  induction n with
  | zero =>
    intro x0 x1 S ls hl h
    cases (show (none : Option (Int32 × zMem)) = some _ from h)
  | succ n ih =>
    intro x0 x1 S ls hl h
    exact w_X1_bySign_b2 C ih hl h
set_option maxRecDepth 20000 in
theorem w_X1_bySign_b0 {w : zWd} {X : zX} {l0 : Launch} {r : Int32} {S1 : zMem} (C : zC LC w X l0 cX1_bySign RX1 2 1 (some .int)) {x0 : Int32} {S : zMem} {ls : Array Slot} (hl : lv_has ls 2 [(0, .int x0)]) (h : X1_bySign_b0 x0 S = some (r, S1)) : zV LC w X (some (.int r)) S1 S 0 ls [] := by
  unfold X1_bySign_b0 at h
  refine v_iconst 0 C (v := (0 : Int32)) dX1_bySign_0 (by decide) ?_
  refine v_istore_n 1 C [(1, .int (0 : Int32)), (0, .int x0)] dX1_bySign_1 rfl hl (by decide) rfl (fun ls hl => ?_)
  exact w_X1_bySign_l2 C zF _ _ _ _ (lv_sub hl [1, 0] rfl) h
theorem c_X1_bySign {w : zWd} {l0 : Launch} {x0 : Int32} {S S1 : zMem} {r : Int32} (h : f_X1_bySign x0 S = some (r, S1)) : zMet LC w l0 yX1_bySign cX1_bySign 2 (some .int) 1 [.int x0] S (some (.int r)) S1 :=
  zMet_of (by decide +kernel) (Nat.le_of_ble_eq_true rfl) (fun X ls C hl => w_X1_bySign_b0 C hl h)
theorem ml_X5_63 : Cond.methodLink RX5 63 yX1_bySign ∈ zT := zT_of (List.mem_of_getElem? (i := 463) (by decide +kernel)) rfl
theorem hy_X1_bySign : zYs yX1_bySign cX1_bySign 2 (some .int) 1 := ⟨⟨zT_of (List.mem_of_getElem? (i := 465) (by decide +kernel)) rfl, zT_of (List.mem_of_getElem? (i := 80) (by decide +kernel)) rfl, by decide, by decide +kernel, by decide +kernel, by decide +kernel⟩, zT_of (List.mem_of_getElem? (i := 464) (by decide +kernel)) rfl⟩
theorem fl_X5_69 : zFL RX5 69 5 1 := ⟨_, rfl, by decide, zT_of (List.mem_of_getElem? (i := 103) (by decide +kernel)) rfl⟩
theorem fl_X5_72 : zFL RX5 72 5 2 := ⟨_, rfl, by decide, zT_of (List.mem_of_getElem? (i := 108) (by decide +kernel)) rfl⟩
theorem fl_X5_75 : zFL RX5 75 5 3 := ⟨_, rfl, by decide, zT_of (List.mem_of_getElem? (i := 112) (by decide +kernel)) rfl⟩
theorem fp_5_5 : zFP 5 5 .int := fun q h => by cases h; exact ⟨rfl, by decide +kernel⟩
theorem dX5_letterFault_0 : decode cX5_letterFault 0 = .ok (.aload_n 1, 1) := by decide +kernel
theorem dX5_letterFault_1 : decode cX5_letterFault 1 = .ok (.getfield 30, 3) := by decide +kernel
theorem dX5_letterFault_4 : decode cX5_letterFault 4 = .ok (.iload_n 2, 1) := by decide +kernel
theorem dX5_letterFault_5 : decode cX5_letterFault 5 = .ok (.iaload, 1) := by decide +kernel
theorem dX5_letterFault_6 : decode cX5_letterFault 6 = .ok (.invokestatic 63, 3) := by decide +kernel
theorem dX5_letterFault_9 : decode cX5_letterFault 9 = .ok (.istore_n 3, 1) := by decide +kernel
theorem dX5_letterFault_10 : decode cX5_letterFault 10 = .ok (.aload_n 1, 1) := by decide +kernel
theorem dX5_letterFault_11 : decode cX5_letterFault 11 = .ok (.iload_n 2, 1) := by decide +kernel
theorem dX5_letterFault_12 : decode cX5_letterFault 12 = .ok (.iconst 1, 1) := by decide +kernel
theorem dX5_letterFault_13 : decode cX5_letterFault 13 = .ok (.iadd, 1) := by decide +kernel
theorem dX5_letterFault_14 : decode cX5_letterFault 14 = .ok (.invokestatic 45, 3) := by decide +kernel
theorem dX5_letterFault_17 : decode cX5_letterFault 17 = .ok (.istore 4, 2) := by decide +kernel
theorem dX5_letterFault_19 : decode cX5_letterFault 19 = .ok (.aload_n 1, 1) := by decide +kernel
theorem dX5_letterFault_20 : decode cX5_letterFault 20 = .ok (.iload_n 2, 1) := by decide +kernel
theorem dX5_letterFault_21 : decode cX5_letterFault 21 = .ok (.iconst 2, 1) := by decide +kernel
theorem dX5_letterFault_22 : decode cX5_letterFault 22 = .ok (.iadd, 1) := by decide +kernel
theorem dX5_letterFault_23 : decode cX5_letterFault 23 = .ok (.invokestatic 45, 3) := by decide +kernel
theorem dX5_letterFault_26 : decode cX5_letterFault 26 = .ok (.istore 5, 2) := by decide +kernel
theorem dX5_letterFault_28 : decode cX5_letterFault 28 = .ok (.iload_n 3, 1) := by decide +kernel
theorem dX5_letterFault_29 : decode cX5_letterFault 29 = .ok (.bipush (-9), 2) := by decide +kernel
theorem dX5_letterFault_31 : decode cX5_letterFault 31 = .ok (.if_icmp .eq 25, 3) := by decide +kernel
theorem dX5_letterFault_34 : decode cX5_letterFault 34 = .ok (.aload_n 0, 1) := by decide +kernel
theorem dX5_letterFault_35 : decode cX5_letterFault 35 = .ok (.getfield 12, 3) := by decide +kernel
theorem dX5_letterFault_38 : decode cX5_letterFault 38 = .ok (.getfield 18, 3) := by decide +kernel
theorem dX5_letterFault_41 : decode cX5_letterFault 41 = .ok (.ifCond .eq 15, 3) := by decide +kernel
theorem dX5_letterFault_44 : decode cX5_letterFault 44 = .ok (.aload_n 0, 1) := by decide +kernel
theorem dX5_letterFault_45 : decode cX5_letterFault 45 = .ok (.getfield 12, 3) := by decide +kernel
theorem dX5_letterFault_48 : decode cX5_letterFault 48 = .ok (.getfield 22, 3) := by decide +kernel
theorem dX5_letterFault_51 : decode cX5_letterFault 51 = .ok (.bipush 6, 2) := by decide +kernel
theorem dX5_letterFault_53 : decode cX5_letterFault 53 = .ok (.if_icmp .lt 5, 3) := by decide +kernel
theorem dX5_letterFault_56 : decode cX5_letterFault 56 = .ok (.iload_n 2, 1) := by decide +kernel
theorem dX5_letterFault_57 : decode cX5_letterFault 57 = .ok (.ireturn, 1) := by decide +kernel
theorem dX5_letterFault_58 : decode cX5_letterFault 58 = .ok (.iload 4, 2) := by decide +kernel
theorem dX5_letterFault_60 : decode cX5_letterFault 60 = .ok (.iconst (-1), 1) := by decide +kernel
theorem dX5_letterFault_61 : decode cX5_letterFault 61 = .ok (.if_icmp .eq 15, 3) := by decide +kernel
theorem dX5_letterFault_64 : decode cX5_letterFault 64 = .ok (.iload 4, 2) := by decide +kernel
theorem dX5_letterFault_66 : decode cX5_letterFault 66 = .ok (.aload_n 0, 1) := by decide +kernel
theorem dX5_letterFault_67 : decode cX5_letterFault 67 = .ok (.getfield 12, 3) := by decide +kernel
theorem dX5_letterFault_70 : decode cX5_letterFault 70 = .ok (.getfield 18, 3) := by decide +kernel
theorem dX5_letterFault_73 : decode cX5_letterFault 73 = .ok (.if_icmp .lt 7, 3) := by decide +kernel
theorem dX5_letterFault_76 : decode cX5_letterFault 76 = .ok (.iload_n 2, 1) := by decide +kernel
theorem dX5_letterFault_77 : decode cX5_letterFault 77 = .ok (.iconst 1, 1) := by decide +kernel
theorem dX5_letterFault_78 : decode cX5_letterFault 78 = .ok (.iadd, 1) := by decide +kernel
theorem dX5_letterFault_79 : decode cX5_letterFault 79 = .ok (.ireturn, 1) := by decide +kernel
theorem dX5_letterFault_80 : decode cX5_letterFault 80 = .ok (.iload 5, 2) := by decide +kernel
theorem dX5_letterFault_82 : decode cX5_letterFault 82 = .ok (.iconst (-1), 1) := by decide +kernel
theorem dX5_letterFault_83 : decode cX5_letterFault 83 = .ok (.if_icmp .ne 7, 3) := by decide +kernel
theorem dX5_letterFault_86 : decode cX5_letterFault 86 = .ok (.iload_n 2, 1) := by decide +kernel
theorem dX5_letterFault_87 : decode cX5_letterFault 87 = .ok (.iconst 2, 1) := by decide +kernel
theorem dX5_letterFault_88 : decode cX5_letterFault 88 = .ok (.iadd, 1) := by decide +kernel
theorem dX5_letterFault_89 : decode cX5_letterFault 89 = .ok (.ireturn, 1) := by decide +kernel
theorem dX5_letterFault_90 : decode cX5_letterFault 90 = .ok (.aload_n 0, 1) := by decide +kernel
theorem dX5_letterFault_91 : decode cX5_letterFault 91 = .ok (.getfield 12, 3) := by decide +kernel
theorem dX5_letterFault_94 : decode cX5_letterFault 94 = .ok (.getfield 69, 3) := by decide +kernel
theorem dX5_letterFault_97 : decode cX5_letterFault 97 = .ok (.aload_n 0, 1) := by decide +kernel
theorem dX5_letterFault_98 : decode cX5_letterFault 98 = .ok (.getfield 12, 3) := by decide +kernel
theorem dX5_letterFault_101 : decode cX5_letterFault 101 = .ok (.getfield 22, 3) := by decide +kernel
theorem dX5_letterFault_104 : decode cX5_letterFault 104 = .ok (.iload_n 3, 1) := by decide +kernel
theorem dX5_letterFault_105 : decode cX5_letterFault 105 = .ok (.iastore, 1) := by decide +kernel
theorem dX5_letterFault_106 : decode cX5_letterFault 106 = .ok (.aload_n 0, 1) := by decide +kernel
theorem dX5_letterFault_107 : decode cX5_letterFault 107 = .ok (.getfield 12, 3) := by decide +kernel
theorem dX5_letterFault_110 : decode cX5_letterFault 110 = .ok (.getfield 72, 3) := by decide +kernel
theorem dX5_letterFault_113 : decode cX5_letterFault 113 = .ok (.aload_n 0, 1) := by decide +kernel
theorem dX5_letterFault_114 : decode cX5_letterFault 114 = .ok (.getfield 12, 3) := by decide +kernel
theorem dX5_letterFault_117 : decode cX5_letterFault 117 = .ok (.getfield 22, 3) := by decide +kernel
theorem dX5_letterFault_120 : decode cX5_letterFault 120 = .ok (.iload 4, 2) := by decide +kernel
theorem dX5_letterFault_122 : decode cX5_letterFault 122 = .ok (.iastore, 1) := by decide +kernel
theorem dX5_letterFault_123 : decode cX5_letterFault 123 = .ok (.aload_n 0, 1) := by decide +kernel
theorem dX5_letterFault_124 : decode cX5_letterFault 124 = .ok (.getfield 12, 3) := by decide +kernel
theorem dX5_letterFault_127 : decode cX5_letterFault 127 = .ok (.getfield 75, 3) := by decide +kernel
theorem dX5_letterFault_130 : decode cX5_letterFault 130 = .ok (.aload_n 0, 1) := by decide +kernel
theorem dX5_letterFault_131 : decode cX5_letterFault 131 = .ok (.getfield 12, 3) := by decide +kernel
theorem dX5_letterFault_134 : decode cX5_letterFault 134 = .ok (.getfield 22, 3) := by decide +kernel
theorem dX5_letterFault_137 : decode cX5_letterFault 137 = .ok (.iload 5, 2) := by decide +kernel
theorem dX5_letterFault_139 : decode cX5_letterFault 139 = .ok (.iastore, 1) := by decide +kernel
theorem dX5_letterFault_140 : decode cX5_letterFault 140 = .ok (.aload_n 0, 1) := by decide +kernel
theorem dX5_letterFault_141 : decode cX5_letterFault 141 = .ok (.getfield 12, 3) := by decide +kernel
theorem dX5_letterFault_144 : decode cX5_letterFault 144 = .ok (.dup, 1) := by decide +kernel
theorem dX5_letterFault_145 : decode cX5_letterFault 145 = .ok (.getfield 22, 3) := by decide +kernel
theorem dX5_letterFault_148 : decode cX5_letterFault 148 = .ok (.iconst 1, 1) := by decide +kernel
theorem dX5_letterFault_149 : decode cX5_letterFault 149 = .ok (.iadd, 1) := by decide +kernel
theorem dX5_letterFault_150 : decode cX5_letterFault 150 = .ok (.putfield 22, 3) := by decide +kernel
theorem dX5_letterFault_153 : decode cX5_letterFault 153 = .ok (.bipush (-9), 2) := by decide +kernel
theorem dX5_letterFault_155 : decode cX5_letterFault 155 = .ok (.ireturn, 1) := by decide +kernel
set_option maxRecDepth 20000 in
theorem w_X5_letterFault_b56 {w : zWd} {X : zX} {l0 : Launch} {r : Int32} {S1 : zMem} (C : zC LC w X l0 cX5_letterFault RX5 6 3 (some .int)) {x2 : Int32} {S : zMem} {ls : Array Slot} (hl : lv_has ls 6 [(2, .int x2)]) (h : X5_letterFault_b56 x2 S = some (r, S1)) : zV LC w X (some (.int r)) S1 S 56 ls [] := by
  unfold X5_letterFault_b56 at h
  refine v_iload_n 56 C dX5_letterFault_56 rfl (lv_at hl 0 rfl) ?_
  exact v_ireturn 57 C dX5_letterFault_57 h
set_option maxRecDepth 20000 in
theorem w_X5_letterFault_b76 {w : zWd} {X : zX} {l0 : Launch} {r : Int32} {S1 : zMem} (C : zC LC w X l0 cX5_letterFault RX5 6 3 (some .int)) {x2 : Int32} {S : zMem} {ls : Array Slot} (hl : lv_has ls 6 [(2, .int x2)]) (h : X5_letterFault_b76 x2 S = some (r, S1)) : zV LC w X (some (.int r)) S1 S 76 ls [] := by
  unfold X5_letterFault_b76 at h
  refine v_iload_n 76 C dX5_letterFault_76 rfl (lv_at hl 0 rfl) ?_
  refine v_iconst 77 C (v := (1 : Int32)) dX5_letterFault_77 (by decide) ?_
  refine v_iadd 78 C dX5_letterFault_78 h (fun v1 h => ?_)
  exact v_ireturn 79 C dX5_letterFault_79 h
set_option maxRecDepth 20000 in
theorem w_X5_letterFault_b0 {w : zWd} {X : zX} {l0 : Launch} {r : Int32} {S1 : zMem} (C : zC LC w X l0 cX5_letterFault RX5 6 3 (some .int)) {c1 : Nat} {x2 : Int32} {S : zMem} {ls : Array Slot} (hl : lv_has ls 6 [(0, .ref (w.2.2.1 29)), (1, .ref (w.2.2.1 c1)), (2, .int x2)]) (hk_c1 : c1 < LC.1 ∧ LC.2.1 c1 = 9) (h : X5_letterFault_b0 c1 x2 S = some (r, S1)) : zV LC w X (some (.int r)) S1 S 0 ls [] := by
  unfold X5_letterFault_b0 at h
  refine v_aload_n 0 C dX5_letterFault_0 rfl (lv_at hl 1 rfl) ?_
  refine v_getr 1 (c1 + 1) C dX5_letterFault_1 fl_X5_30 rfl hk_c1 (rS1 hk_c1) ?_
  refine v_iload_n 4 C dX5_letterFault_4 rfl (lv_at hl 2 rfl) ?_
  refine v_iald 5 C dX5_letterFault_5 (kS1 hk_c1) rfl h (fun v1 h => ?_)
  obtain ⟨v2, S, hc, h⟩ := zb_e h
  refine v_callSi 6 C [] dX5_letterFault_6 ml_X5_63 hy_X1_bySign (c_X1_bySign  hc) (by decide) rfl hl.1 (Nat.le_of_ble_eq_true rfl) rfl ?_
  refine v_istore_n 9 C [(3, .int v2), (0, .ref (w.2.2.1 29)), (1, .ref (w.2.2.1 c1)), (2, .int x2)] dX5_letterFault_9 rfl hl (by decide) rfl (fun ls hl => ?_)
  refine v_aload_n 10 C dX5_letterFault_10 rfl (lv_at hl 2 rfl) ?_
  refine v_iload_n 11 C dX5_letterFault_11 rfl (lv_at hl 3 rfl) ?_
  refine v_iconst 12 C (v := (1 : Int32)) dX5_letterFault_12 (by decide) ?_
  refine v_iadd 13 C dX5_letterFault_13 h (fun v3 h => ?_)
  obtain ⟨v4, S, hc, h⟩ := zb_e h
  refine v_callSi 14 C [] dX5_letterFault_14 ml_X5_45 hy_X5_figureAt (c_X5_figureAt hk_c1 hc) (by decide) rfl hl.1 (Nat.le_of_ble_eq_true rfl) rfl ?_
  refine v_istore 17 C [(4, .int v4), (3, .int v2), (0, .ref (w.2.2.1 29)), (1, .ref (w.2.2.1 c1)), (2, .int x2)] dX5_letterFault_17 hl (by decide) rfl (fun ls hl => ?_)
  refine v_aload_n 19 C dX5_letterFault_19 rfl (lv_at hl 3 rfl) ?_
  refine v_iload_n 20 C dX5_letterFault_20 rfl (lv_at hl 4 rfl) ?_
  refine v_iconst 21 C (v := (2 : Int32)) dX5_letterFault_21 (by decide) ?_
  refine v_iadd 22 C dX5_letterFault_22 h (fun v5 h => ?_)
  obtain ⟨v6, S, hc, h⟩ := zb_e h
  refine v_callSi 23 C [] dX5_letterFault_23 ml_X5_45 hy_X5_figureAt (c_X5_figureAt hk_c1 hc) (by decide) rfl hl.1 (Nat.le_of_ble_eq_true rfl) rfl ?_
  refine v_istore 26 C [(5, .int v6), (4, .int v4), (3, .int v2), (0, .ref (w.2.2.1 29)), (1, .ref (w.2.2.1 c1)), (2, .int x2)] dX5_letterFault_26 hl (by decide) rfl (fun ls hl => ?_)
  refine v_iload_n 28 C dX5_letterFault_28 rfl (lv_at hl 2 rfl) ?_
  refine v_bipush 29 C (v := (-9 : Int32)) dX5_letterFault_29 (by decide) ?_
  refine v_icmp_eq 31 56 C dX5_letterFault_31 (by decide) h (fun h => ?_) (fun h => ?_)
  · exact w_X5_letterFault_b56 C (lv_sub hl [5] rfl) h
  · refine v_aload_n 34 C dX5_letterFault_34 rfl (lv_at hl 3 rfl) ?_
    refine v_getr 35 (30) C dX5_letterFault_35 fl_X5_12 rfl kC_29 rfl ?_
    refine v_geti 38 C dX5_letterFault_38 fl_X5_18 rfl kC_30 h (fun v7 h => ?_)
    refine v_if_eq 41 56 C dX5_letterFault_41 (by decide) h (fun h => ?_) (fun h => ?_)
    · exact w_X5_letterFault_b56 C (lv_sub hl [5] rfl) h
    · refine v_aload_n 44 C dX5_letterFault_44 rfl (lv_at hl 3 rfl) ?_
      refine v_getr 45 (30) C dX5_letterFault_45 fl_X5_12 rfl kC_29 rfl ?_
      refine v_geti 48 C dX5_letterFault_48 fl_X5_22 rfl kC_30 h (fun v8 h => ?_)
      refine v_bipush 51 C (v := (6 : Int32)) dX5_letterFault_51 (by decide) ?_
      refine v_icmp_lt 53 58 C dX5_letterFault_53 (by decide) h (fun h => ?_) (fun h => ?_)
      · refine v_iload 58 C dX5_letterFault_58 (lv_at hl 1 rfl) ?_
        refine v_iconst 60 C (v := (-1 : Int32)) dX5_letterFault_60 (by decide) ?_
        refine v_icmp_eq 61 76 C dX5_letterFault_61 (by decide) h (fun h => ?_) (fun h => ?_)
        · exact w_X5_letterFault_b76 C (lv_sub hl [5] rfl) h
        · refine v_iload 64 C dX5_letterFault_64 (lv_at hl 1 rfl) ?_
          refine v_aload_n 66 C dX5_letterFault_66 rfl (lv_at hl 3 rfl) ?_
          refine v_getr 67 (30) C dX5_letterFault_67 fl_X5_12 rfl kC_29 rfl ?_
          refine v_geti 70 C dX5_letterFault_70 fl_X5_18 rfl kC_30 h (fun v9 h => ?_)
          refine v_icmp_lt 73 80 C dX5_letterFault_73 (by decide) h (fun h => ?_) (fun h => ?_)
          · refine v_iload 80 C dX5_letterFault_80 (lv_at hl 0 rfl) ?_
            refine v_iconst 82 C (v := (-1 : Int32)) dX5_letterFault_82 (by decide) ?_
            refine v_icmp_ne 83 90 C dX5_letterFault_83 (by decide) h (fun h => ?_) (fun h => ?_)
            · refine v_aload_n 90 C dX5_letterFault_90 rfl (lv_at hl 3 rfl) ?_
              refine v_getr 91 (30) C dX5_letterFault_91 fl_X5_12 rfl kC_29 rfl ?_
              refine v_getr 94 (32) C dX5_letterFault_94 fl_X5_69 rfl kC_30 rfl ?_
              refine v_aload_n 97 C dX5_letterFault_97 rfl (lv_at hl 3 rfl) ?_
              refine v_getr 98 (30) C dX5_letterFault_98 fl_X5_12 rfl kC_29 rfl ?_
              refine v_geti 101 C dX5_letterFault_101 fl_X5_22 rfl kC_30 h (fun v10 h => ?_)
              refine v_iload_n 104 C dX5_letterFault_104 rfl (lv_at hl 2 rfl) ?_
              refine v_iast 105 C dX5_letterFault_105 kC_32 rfl h (fun S h => ?_)
              refine v_aload_n 106 C dX5_letterFault_106 rfl (lv_at hl 3 rfl) ?_
              refine v_getr 107 (30) C dX5_letterFault_107 fl_X5_12 rfl kC_29 rfl ?_
              refine v_getr 110 (33) C dX5_letterFault_110 fl_X5_72 rfl kC_30 rfl ?_
              refine v_aload_n 113 C dX5_letterFault_113 rfl (lv_at hl 3 rfl) ?_
              refine v_getr 114 (30) C dX5_letterFault_114 fl_X5_12 rfl kC_29 rfl ?_
              refine v_geti 117 C dX5_letterFault_117 fl_X5_22 rfl kC_30 h (fun v11 h => ?_)
              refine v_iload 120 C dX5_letterFault_120 (lv_at hl 1 rfl) ?_
              refine v_iast 122 C dX5_letterFault_122 kC_33 rfl h (fun S h => ?_)
              refine v_aload_n 123 C dX5_letterFault_123 rfl (lv_at hl 3 rfl) ?_
              refine v_getr 124 (30) C dX5_letterFault_124 fl_X5_12 rfl kC_29 rfl ?_
              refine v_getr 127 (34) C dX5_letterFault_127 fl_X5_75 rfl kC_30 rfl ?_
              refine v_aload_n 130 C dX5_letterFault_130 rfl (lv_at hl 3 rfl) ?_
              refine v_getr 131 (30) C dX5_letterFault_131 fl_X5_12 rfl kC_29 rfl ?_
              refine v_geti 134 C dX5_letterFault_134 fl_X5_22 rfl kC_30 h (fun v12 h => ?_)
              refine v_iload 137 C dX5_letterFault_137 (lv_at hl 0 rfl) ?_
              refine v_iast 139 C dX5_letterFault_139 kC_34 rfl h (fun S h => ?_)
              refine v_aload_n 140 C dX5_letterFault_140 rfl (lv_at hl 3 rfl) ?_
              refine v_getr 141 (30) C dX5_letterFault_141 fl_X5_12 rfl kC_29 rfl ?_
              refine v_dup 144 C dX5_letterFault_144 rfl ?_
              refine v_geti 145 C dX5_letterFault_145 fl_X5_22 rfl kC_30 h (fun v13 h => ?_)
              refine v_iconst 148 C (v := (1 : Int32)) dX5_letterFault_148 (by decide) ?_
              refine v_iadd 149 C dX5_letterFault_149 h (fun v14 h => ?_)
              refine v_puti 150 C dX5_letterFault_150 fl_X5_22 fp_5_5 rfl kC_30 h (fun S h => ?_)
              refine v_bipush 153 C (v := (-9 : Int32)) dX5_letterFault_153 (by decide) ?_
              exact v_ireturn 155 C dX5_letterFault_155 h
            · refine v_iload_n 86 C dX5_letterFault_86 rfl (lv_at hl 5 rfl) ?_
              refine v_iconst 87 C (v := (2 : Int32)) dX5_letterFault_87 (by decide) ?_
              refine v_iadd 88 C dX5_letterFault_88 h (fun v15 h => ?_)
              exact v_ireturn 89 C dX5_letterFault_89 h
          · exact w_X5_letterFault_b76 C (lv_sub hl [5] rfl) h
      · exact w_X5_letterFault_b56 C (lv_sub hl [5] rfl) h
theorem c_X5_letterFault {w : zWd} {l0 : Launch} {c1 : Nat} {x2 : Int32} {S S1 : zMem} {r : Int32} (hk_c1 : c1 < LC.1 ∧ LC.2.1 c1 = 9) (h : f_X5_letterFault c1 x2 S = some (r, S1)) : zMet LC w l0 yX5_letterFault cX5_letterFault 6 (some .int) 3 [.ref (w.2.2.1 29), .ref (w.2.2.1 c1), .int x2] S (some (.int r)) S1 :=
  zMet_of (by decide +kernel) (Nat.le_of_ble_eq_true rfl) (fun X ls C hl => w_X5_letterFault_b0 C hl hk_c1 h)
theorem ml_X5_57 : Cond.methodLink RX5 57 yX5_letterFault ∈ zT := zT_of (List.mem_of_getElem? (i := 459) (by decide +kernel)) rfl
theorem hy_X5_letterFault : zYv yX5_letterFault cX5_letterFault 6 (some .int) 2 := ⟨⟨zT_of (List.mem_of_getElem? (i := 462) (by decide +kernel)) rfl, zT_of (List.mem_of_getElem? (i := 72) (by decide +kernel)) rfl, by decide, by decide +kernel, by decide +kernel, by decide +kernel⟩, zT_of (List.mem_of_getElem? (i := 461) (by decide +kernel)) rfl, zT_of (List.mem_of_getElem? (i := 4) (by decide +kernel)) rfl⟩
theorem ml_X5_54 : Cond.methodLink RX5 54 yX5_houseFault ∈ zT := zT_of (List.mem_of_getElem? (i := 451) (by decide +kernel)) rfl
theorem hy_X5_houseFault : zYv yX5_houseFault cX5_houseFault 5 (some .int) 2 := ⟨⟨zT_of (List.mem_of_getElem? (i := 454) (by decide +kernel)) rfl, zT_of (List.mem_of_getElem? (i := 72) (by decide +kernel)) rfl, by decide, by decide +kernel, by decide +kernel, by decide +kernel⟩, zT_of (List.mem_of_getElem? (i := 453) (by decide +kernel)) rfl, zT_of (List.mem_of_getElem? (i := 3) (by decide +kernel)) rfl⟩
theorem dX5_itemFault_0 : decode cX5_itemFault 0 = .ok (.aload_n 1, 1) := by decide +kernel
theorem dX5_itemFault_1 : decode cX5_itemFault 1 = .ok (.getfield 30, 3) := by decide +kernel
theorem dX5_itemFault_4 : decode cX5_itemFault 4 = .ok (.iload_n 2, 1) := by decide +kernel
theorem dX5_itemFault_5 : decode cX5_itemFault 5 = .ok (.iaload, 1) := by decide +kernel
theorem dX5_itemFault_6 : decode cX5_itemFault 6 = .ok (.bipush 104, 2) := by decide +kernel
theorem dX5_itemFault_8 : decode cX5_itemFault 8 = .ok (.if_icmp .ne 12, 3) := by decide +kernel
theorem dX5_itemFault_11 : decode cX5_itemFault 11 = .ok (.aload_n 0, 1) := by decide +kernel
theorem dX5_itemFault_12 : decode cX5_itemFault 12 = .ok (.aload_n 1, 1) := by decide +kernel
theorem dX5_itemFault_13 : decode cX5_itemFault 13 = .ok (.iload_n 2, 1) := by decide +kernel
theorem dX5_itemFault_14 : decode cX5_itemFault 14 = .ok (.invokevirtual 54, 3) := by decide +kernel
theorem dX5_itemFault_17 : decode cX5_itemFault 17 = .ok (.goto 9, 3) := by decide +kernel
theorem dX5_itemFault_20 : decode cX5_itemFault 20 = .ok (.aload_n 0, 1) := by decide +kernel
theorem dX5_itemFault_21 : decode cX5_itemFault 21 = .ok (.aload_n 1, 1) := by decide +kernel
theorem dX5_itemFault_22 : decode cX5_itemFault 22 = .ok (.iload_n 2, 1) := by decide +kernel
theorem dX5_itemFault_23 : decode cX5_itemFault 23 = .ok (.invokevirtual 57, 3) := by decide +kernel
theorem dX5_itemFault_26 : decode cX5_itemFault 26 = .ok (.ireturn, 1) := by decide +kernel
set_option maxRecDepth 20000 in
theorem w_X5_itemFault_b26 {w : zWd} {X : zX} {l0 : Launch} {r : Int32} {S1 : zMem} (C : zC LC w X l0 cX5_itemFault RX5 3 4 (some .int)) {s0 : Int32} {S : zMem} {ls : Array Slot} (hl : lv_has ls 3 []) (h : X5_itemFault_b26 s0 S = some (r, S1)) : zV LC w X (some (.int r)) S1 S 26 ls [.int s0] := by
  unfold X5_itemFault_b26 at h
  exact v_ireturn 26 C dX5_itemFault_26 h
set_option maxRecDepth 20000 in
theorem w_X5_itemFault_b0 {w : zWd} {X : zX} {l0 : Launch} {r : Int32} {S1 : zMem} (C : zC LC w X l0 cX5_itemFault RX5 3 4 (some .int)) {c1 : Nat} {x2 : Int32} {S : zMem} {ls : Array Slot} (hl : lv_has ls 3 [(0, .ref (w.2.2.1 29)), (1, .ref (w.2.2.1 c1)), (2, .int x2)]) (hk_c1 : c1 < LC.1 ∧ LC.2.1 c1 = 9) (h : X5_itemFault_b0 c1 x2 S = some (r, S1)) : zV LC w X (some (.int r)) S1 S 0 ls [] := by
  unfold X5_itemFault_b0 at h
  refine v_aload_n 0 C dX5_itemFault_0 rfl (lv_at hl 1 rfl) ?_
  refine v_getr 1 (c1 + 1) C dX5_itemFault_1 fl_X5_30 rfl hk_c1 (rS1 hk_c1) ?_
  refine v_iload_n 4 C dX5_itemFault_4 rfl (lv_at hl 2 rfl) ?_
  refine v_iald 5 C dX5_itemFault_5 (kS1 hk_c1) rfl h (fun v1 h => ?_)
  refine v_bipush 6 C (v := (104 : Int32)) dX5_itemFault_6 (by decide) ?_
  refine v_icmp_ne 8 20 C dX5_itemFault_8 (by decide) h (fun h => ?_) (fun h => ?_)
  · refine v_aload_n 20 C dX5_itemFault_20 rfl (lv_at hl 0 rfl) ?_
    refine v_aload_n 21 C dX5_itemFault_21 rfl (lv_at hl 1 rfl) ?_
    refine v_iload_n 22 C dX5_itemFault_22 rfl (lv_at hl 2 rfl) ?_
    obtain ⟨v2, S, hc, h⟩ := zb_e h
    refine v_callVi 23 C (ci := 4) [] dX5_itemFault_23 ml_X5_57 hy_X5_letterFault (c_X5_letterFault hk_c1 hc) (by decide) rfl hl.1 kC_29 rfl (Nat.le_of_ble_eq_true rfl) rfl ?_
    exact w_X5_itemFault_b26 C (lv_sub hl [] rfl) h
  · refine v_aload_n 11 C dX5_itemFault_11 rfl (lv_at hl 0 rfl) ?_
    refine v_aload_n 12 C dX5_itemFault_12 rfl (lv_at hl 1 rfl) ?_
    refine v_iload_n 13 C dX5_itemFault_13 rfl (lv_at hl 2 rfl) ?_
    obtain ⟨v3, S, hc, h⟩ := zb_e h
    refine v_callVi 14 C (ci := 4) [] dX5_itemFault_14 ml_X5_54 hy_X5_houseFault (c_X5_houseFault hk_c1 hc) (by decide) rfl hl.1 kC_29 rfl (Nat.le_of_ble_eq_true rfl) rfl ?_
    refine v_goto 17 26 C dX5_itemFault_17 (by decide) ?_
    exact w_X5_itemFault_b26 C (lv_sub hl [] rfl) h
theorem c_X5_itemFault {w : zWd} {l0 : Launch} {c1 : Nat} {x2 : Int32} {S S1 : zMem} {r : Int32} (hk_c1 : c1 < LC.1 ∧ LC.2.1 c1 = 9) (h : f_X5_itemFault c1 x2 S = some (r, S1)) : zMet LC w l0 yX5_itemFault cX5_itemFault 3 (some .int) 4 [.ref (w.2.2.1 29), .ref (w.2.2.1 c1), .int x2] S (some (.int r)) S1 :=
  zMet_of (by decide +kernel) (Nat.le_of_ble_eq_true rfl) (fun X ls C hl => w_X5_itemFault_b0 C hl hk_c1 h)
theorem fl_X5_48 : zFL RX5 48 5 6 := ⟨_, rfl, by decide, zT_of (List.mem_of_getElem? (i := 124) (by decide +kernel)) rfl⟩
theorem fp_5_6 : zFP 5 6 .int := fun q h => by cases h; exact ⟨rfl, by decide +kernel⟩
theorem fl_X5_51 : zFL RX5 51 5 7 := ⟨_, rfl, by decide, zT_of (List.mem_of_getElem? (i := 127) (by decide +kernel)) rfl⟩
theorem fp_5_7 : zFP 5 7 .int := fun q h => by cases h; exact ⟨rfl, by decide +kernel⟩
theorem dX5_postmanFault_0 : decode cX5_postmanFault 0 = .ok (.aload_n 1, 1) := by decide +kernel
theorem dX5_postmanFault_1 : decode cX5_postmanFault 1 = .ok (.iload_n 2, 1) := by decide +kernel
theorem dX5_postmanFault_2 : decode cX5_postmanFault 2 = .ok (.iconst 1, 1) := by decide +kernel
theorem dX5_postmanFault_3 : decode cX5_postmanFault 3 = .ok (.iadd, 1) := by decide +kernel
theorem dX5_postmanFault_4 : decode cX5_postmanFault 4 = .ok (.invokestatic 45, 3) := by decide +kernel
theorem dX5_postmanFault_7 : decode cX5_postmanFault 7 = .ok (.istore_n 3, 1) := by decide +kernel
theorem dX5_postmanFault_8 : decode cX5_postmanFault 8 = .ok (.aload_n 1, 1) := by decide +kernel
theorem dX5_postmanFault_9 : decode cX5_postmanFault 9 = .ok (.iload_n 2, 1) := by decide +kernel
theorem dX5_postmanFault_10 : decode cX5_postmanFault 10 = .ok (.iconst 2, 1) := by decide +kernel
theorem dX5_postmanFault_11 : decode cX5_postmanFault 11 = .ok (.iadd, 1) := by decide +kernel
theorem dX5_postmanFault_12 : decode cX5_postmanFault 12 = .ok (.invokestatic 45, 3) := by decide +kernel
theorem dX5_postmanFault_15 : decode cX5_postmanFault 15 = .ok (.istore 4, 2) := by decide +kernel
theorem dX5_postmanFault_17 : decode cX5_postmanFault 17 = .ok (.aload_n 1, 1) := by decide +kernel
theorem dX5_postmanFault_18 : decode cX5_postmanFault 18 = .ok (.getfield 30, 3) := by decide +kernel
theorem dX5_postmanFault_21 : decode cX5_postmanFault 21 = .ok (.iload_n 2, 1) := by decide +kernel
theorem dX5_postmanFault_22 : decode cX5_postmanFault 22 = .ok (.iaload, 1) := by decide +kernel
theorem dX5_postmanFault_23 : decode cX5_postmanFault 23 = .ok (.bipush 112, 2) := by decide +kernel
theorem dX5_postmanFault_25 : decode cX5_postmanFault 25 = .ok (.if_icmp .eq 5, 3) := by decide +kernel
theorem dX5_postmanFault_28 : decode cX5_postmanFault 28 = .ok (.iload_n 2, 1) := by decide +kernel
theorem dX5_postmanFault_29 : decode cX5_postmanFault 29 = .ok (.ireturn, 1) := by decide +kernel
theorem dX5_postmanFault_30 : decode cX5_postmanFault 30 = .ok (.iload_n 3, 1) := by decide +kernel
theorem dX5_postmanFault_31 : decode cX5_postmanFault 31 = .ok (.iconst (-1), 1) := by decide +kernel
theorem dX5_postmanFault_32 : decode cX5_postmanFault 32 = .ok (.if_icmp .ne 7, 3) := by decide +kernel
theorem dX5_postmanFault_35 : decode cX5_postmanFault 35 = .ok (.iload_n 2, 1) := by decide +kernel
theorem dX5_postmanFault_36 : decode cX5_postmanFault 36 = .ok (.iconst 1, 1) := by decide +kernel
theorem dX5_postmanFault_37 : decode cX5_postmanFault 37 = .ok (.iadd, 1) := by decide +kernel
theorem dX5_postmanFault_38 : decode cX5_postmanFault 38 = .ok (.ireturn, 1) := by decide +kernel
theorem dX5_postmanFault_39 : decode cX5_postmanFault 39 = .ok (.iload 4, 2) := by decide +kernel
theorem dX5_postmanFault_41 : decode cX5_postmanFault 41 = .ok (.iconst (-1), 1) := by decide +kernel
theorem dX5_postmanFault_42 : decode cX5_postmanFault 42 = .ok (.if_icmp .eq 9, 3) := by decide +kernel
theorem dX5_postmanFault_45 : decode cX5_postmanFault 45 = .ok (.iload 4, 2) := by decide +kernel
theorem dX5_postmanFault_47 : decode cX5_postmanFault 47 = .ok (.iconst 2, 1) := by decide +kernel
theorem dX5_postmanFault_48 : decode cX5_postmanFault 48 = .ok (.if_icmp .le 7, 3) := by decide +kernel
theorem dX5_postmanFault_51 : decode cX5_postmanFault 51 = .ok (.iload_n 2, 1) := by decide +kernel
theorem dX5_postmanFault_52 : decode cX5_postmanFault 52 = .ok (.iconst 2, 1) := by decide +kernel
theorem dX5_postmanFault_53 : decode cX5_postmanFault 53 = .ok (.iadd, 1) := by decide +kernel
theorem dX5_postmanFault_54 : decode cX5_postmanFault 54 = .ok (.ireturn, 1) := by decide +kernel
theorem dX5_postmanFault_55 : decode cX5_postmanFault 55 = .ok (.aload_n 0, 1) := by decide +kernel
theorem dX5_postmanFault_56 : decode cX5_postmanFault 56 = .ok (.getfield 12, 3) := by decide +kernel
theorem dX5_postmanFault_59 : decode cX5_postmanFault 59 = .ok (.iload_n 3, 1) := by decide +kernel
theorem dX5_postmanFault_60 : decode cX5_postmanFault 60 = .ok (.putfield 48, 3) := by decide +kernel
theorem dX5_postmanFault_63 : decode cX5_postmanFault 63 = .ok (.aload_n 0, 1) := by decide +kernel
theorem dX5_postmanFault_64 : decode cX5_postmanFault 64 = .ok (.getfield 12, 3) := by decide +kernel
theorem dX5_postmanFault_67 : decode cX5_postmanFault 67 = .ok (.iload 4, 2) := by decide +kernel
theorem dX5_postmanFault_69 : decode cX5_postmanFault 69 = .ok (.putfield 51, 3) := by decide +kernel
theorem dX5_postmanFault_72 : decode cX5_postmanFault 72 = .ok (.bipush (-9), 2) := by decide +kernel
theorem dX5_postmanFault_74 : decode cX5_postmanFault 74 = .ok (.ireturn, 1) := by decide +kernel
set_option maxRecDepth 20000 in
theorem w_X5_postmanFault_b51 {w : zWd} {X : zX} {l0 : Launch} {r : Int32} {S1 : zMem} (C : zC LC w X l0 cX5_postmanFault RX5 5 3 (some .int)) {x2 : Int32} {S : zMem} {ls : Array Slot} (hl : lv_has ls 5 [(2, .int x2)]) (h : X5_postmanFault_b51 x2 S = some (r, S1)) : zV LC w X (some (.int r)) S1 S 51 ls [] := by
  unfold X5_postmanFault_b51 at h
  refine v_iload_n 51 C dX5_postmanFault_51 rfl (lv_at hl 0 rfl) ?_
  refine v_iconst 52 C (v := (2 : Int32)) dX5_postmanFault_52 (by decide) ?_
  refine v_iadd 53 C dX5_postmanFault_53 h (fun v1 h => ?_)
  exact v_ireturn 54 C dX5_postmanFault_54 h
set_option maxRecDepth 20000 in
theorem w_X5_postmanFault_b0 {w : zWd} {X : zX} {l0 : Launch} {r : Int32} {S1 : zMem} (C : zC LC w X l0 cX5_postmanFault RX5 5 3 (some .int)) {c1 : Nat} {x2 : Int32} {S : zMem} {ls : Array Slot} (hl : lv_has ls 5 [(0, .ref (w.2.2.1 29)), (1, .ref (w.2.2.1 c1)), (2, .int x2)]) (hk_c1 : c1 < LC.1 ∧ LC.2.1 c1 = 9) (h : X5_postmanFault_b0 c1 x2 S = some (r, S1)) : zV LC w X (some (.int r)) S1 S 0 ls [] := by
  unfold X5_postmanFault_b0 at h
  refine v_aload_n 0 C dX5_postmanFault_0 rfl (lv_at hl 1 rfl) ?_
  refine v_iload_n 1 C dX5_postmanFault_1 rfl (lv_at hl 2 rfl) ?_
  refine v_iconst 2 C (v := (1 : Int32)) dX5_postmanFault_2 (by decide) ?_
  refine v_iadd 3 C dX5_postmanFault_3 h (fun v1 h => ?_)
  obtain ⟨v2, S, hc, h⟩ := zb_e h
  refine v_callSi 4 C [] dX5_postmanFault_4 ml_X5_45 hy_X5_figureAt (c_X5_figureAt hk_c1 hc) (by decide) rfl hl.1 (Nat.le_of_ble_eq_true rfl) rfl ?_
  refine v_istore_n 7 C [(3, .int v2), (0, .ref (w.2.2.1 29)), (1, .ref (w.2.2.1 c1)), (2, .int x2)] dX5_postmanFault_7 rfl hl (by decide) rfl (fun ls hl => ?_)
  refine v_aload_n 8 C dX5_postmanFault_8 rfl (lv_at hl 2 rfl) ?_
  refine v_iload_n 9 C dX5_postmanFault_9 rfl (lv_at hl 3 rfl) ?_
  refine v_iconst 10 C (v := (2 : Int32)) dX5_postmanFault_10 (by decide) ?_
  refine v_iadd 11 C dX5_postmanFault_11 h (fun v3 h => ?_)
  obtain ⟨v4, S, hc, h⟩ := zb_e h
  refine v_callSi 12 C [] dX5_postmanFault_12 ml_X5_45 hy_X5_figureAt (c_X5_figureAt hk_c1 hc) (by decide) rfl hl.1 (Nat.le_of_ble_eq_true rfl) rfl ?_
  refine v_istore 15 C [(4, .int v4), (3, .int v2), (0, .ref (w.2.2.1 29)), (1, .ref (w.2.2.1 c1)), (2, .int x2)] dX5_postmanFault_15 hl (by decide) rfl (fun ls hl => ?_)
  refine v_aload_n 17 C dX5_postmanFault_17 rfl (lv_at hl 3 rfl) ?_
  refine v_getr 18 (c1 + 1) C dX5_postmanFault_18 fl_X5_30 rfl hk_c1 (rS1 hk_c1) ?_
  refine v_iload_n 21 C dX5_postmanFault_21 rfl (lv_at hl 4 rfl) ?_
  refine v_iald 22 C dX5_postmanFault_22 (kS1 hk_c1) rfl h (fun v5 h => ?_)
  refine v_bipush 23 C (v := (112 : Int32)) dX5_postmanFault_23 (by decide) ?_
  refine v_icmp_eq 25 30 C dX5_postmanFault_25 (by decide) h (fun h => ?_) (fun h => ?_)
  · refine v_iload_n 30 C dX5_postmanFault_30 rfl (lv_at hl 1 rfl) ?_
    refine v_iconst 31 C (v := (-1 : Int32)) dX5_postmanFault_31 (by decide) ?_
    refine v_icmp_ne 32 39 C dX5_postmanFault_32 (by decide) h (fun h => ?_) (fun h => ?_)
    · refine v_iload 39 C dX5_postmanFault_39 (lv_at hl 0 rfl) ?_
      refine v_iconst 41 C (v := (-1 : Int32)) dX5_postmanFault_41 (by decide) ?_
      refine v_icmp_eq 42 51 C dX5_postmanFault_42 (by decide) h (fun h => ?_) (fun h => ?_)
      · exact w_X5_postmanFault_b51 C (lv_sub hl [4] rfl) h
      · refine v_iload 45 C dX5_postmanFault_45 (lv_at hl 0 rfl) ?_
        refine v_iconst 47 C (v := (2 : Int32)) dX5_postmanFault_47 (by decide) ?_
        refine v_icmp_le 48 55 C dX5_postmanFault_48 (by decide) h (fun h => ?_) (fun h => ?_)
        · refine v_aload_n 55 C dX5_postmanFault_55 rfl (lv_at hl 2 rfl) ?_
          refine v_getr 56 (30) C dX5_postmanFault_56 fl_X5_12 rfl kC_29 rfl ?_
          refine v_iload_n 59 C dX5_postmanFault_59 rfl (lv_at hl 1 rfl) ?_
          refine v_puti 60 C dX5_postmanFault_60 fl_X5_48 fp_5_6 rfl kC_30 h (fun S h => ?_)
          refine v_aload_n 63 C dX5_postmanFault_63 rfl (lv_at hl 2 rfl) ?_
          refine v_getr 64 (30) C dX5_postmanFault_64 fl_X5_12 rfl kC_29 rfl ?_
          refine v_iload 67 C dX5_postmanFault_67 (lv_at hl 0 rfl) ?_
          refine v_puti 69 C dX5_postmanFault_69 fl_X5_51 fp_5_7 rfl kC_30 h (fun S h => ?_)
          refine v_bipush 72 C (v := (-9 : Int32)) dX5_postmanFault_72 (by decide) ?_
          exact v_ireturn 74 C dX5_postmanFault_74 h
        · exact w_X5_postmanFault_b51 C (lv_sub hl [4] rfl) h
    · refine v_iload_n 35 C dX5_postmanFault_35 rfl (lv_at hl 4 rfl) ?_
      refine v_iconst 36 C (v := (1 : Int32)) dX5_postmanFault_36 (by decide) ?_
      refine v_iadd 37 C dX5_postmanFault_37 h (fun v6 h => ?_)
      exact v_ireturn 38 C dX5_postmanFault_38 h
  · refine v_iload_n 28 C dX5_postmanFault_28 rfl (lv_at hl 4 rfl) ?_
    exact v_ireturn 29 C dX5_postmanFault_29 h
theorem c_X5_postmanFault {w : zWd} {l0 : Launch} {c1 : Nat} {x2 : Int32} {S S1 : zMem} {r : Int32} (hk_c1 : c1 < LC.1 ∧ LC.2.1 c1 = 9) (h : f_X5_postmanFault c1 x2 S = some (r, S1)) : zMet LC w l0 yX5_postmanFault cX5_postmanFault 5 (some .int) 3 [.ref (w.2.2.1 29), .ref (w.2.2.1 c1), .int x2] S (some (.int r)) S1 :=
  zMet_of (by decide +kernel) (Nat.le_of_ble_eq_true rfl) (fun X ls C hl => w_X5_postmanFault_b0 C hl hk_c1 h)
theorem fl_X5_25 : zFL RX5 25 6 1 := ⟨_, rfl, by decide, zT_of (List.mem_of_getElem? (i := 310) (by decide +kernel)) rfl⟩
theorem ml_X5_38 : Cond.methodLink RX5 38 yX5_postmanFault ∈ zT := zT_of (List.mem_of_getElem? (i := 468) (by decide +kernel)) rfl
theorem hy_X5_postmanFault : zYv yX5_postmanFault cX5_postmanFault 5 (some .int) 2 := ⟨⟨zT_of (List.mem_of_getElem? (i := 471) (by decide +kernel)) rfl, zT_of (List.mem_of_getElem? (i := 72) (by decide +kernel)) rfl, by decide, by decide +kernel, by decide +kernel, by decide +kernel⟩, zT_of (List.mem_of_getElem? (i := 470) (by decide +kernel)) rfl, zT_of (List.mem_of_getElem? (i := 5) (by decide +kernel)) rfl⟩
theorem ml_X5_34 : Cond.methodLink RX5 34 yX5_itemFault ∈ zT := zT_of (List.mem_of_getElem? (i := 447) (by decide +kernel)) rfl
theorem hy_X5_itemFault : zYv yX5_itemFault cX5_itemFault 3 (some .int) 2 := ⟨⟨zT_of (List.mem_of_getElem? (i := 450) (by decide +kernel)) rfl, zT_of (List.mem_of_getElem? (i := 72) (by decide +kernel)) rfl, by decide, by decide +kernel, by decide +kernel, by decide +kernel⟩, zT_of (List.mem_of_getElem? (i := 449) (by decide +kernel)) rfl, zT_of (List.mem_of_getElem? (i := 2) (by decide +kernel)) rfl⟩
theorem dX5_faultOf_0 : decode cX5_faultOf 0 = .ok (.aload_n 0, 1) := by decide +kernel
theorem dX5_faultOf_1 : decode cX5_faultOf 1 = .ok (.getfield 12, 3) := by decide +kernel
theorem dX5_faultOf_4 : decode cX5_faultOf 4 = .ok (.iconst 0, 1) := by decide +kernel
theorem dX5_faultOf_5 : decode cX5_faultOf 5 = .ok (.putfield 18, 3) := by decide +kernel
theorem dX5_faultOf_8 : decode cX5_faultOf 8 = .ok (.aload_n 0, 1) := by decide +kernel
theorem dX5_faultOf_9 : decode cX5_faultOf 9 = .ok (.getfield 12, 3) := by decide +kernel
theorem dX5_faultOf_12 : decode cX5_faultOf 12 = .ok (.iconst 0, 1) := by decide +kernel
theorem dX5_faultOf_13 : decode cX5_faultOf 13 = .ok (.putfield 22, 3) := by decide +kernel
theorem dX5_faultOf_16 : decode cX5_faultOf 16 = .ok (.iconst 0, 1) := by decide +kernel
theorem dX5_faultOf_17 : decode cX5_faultOf 17 = .ok (.istore_n 2, 1) := by decide +kernel
theorem dX5_faultOf_18 : decode cX5_faultOf 18 = .ok (.iconst 0, 1) := by decide +kernel
theorem dX5_faultOf_19 : decode cX5_faultOf 19 = .ok (.istore_n 3, 1) := by decide +kernel
theorem dX5_faultOf_20 : decode cX5_faultOf 20 = .ok (.iload_n 3, 1) := by decide +kernel
theorem dX5_faultOf_21 : decode cX5_faultOf 21 = .ok (.aload_n 1, 1) := by decide +kernel
theorem dX5_faultOf_22 : decode cX5_faultOf 22 = .ok (.getfield 25, 3) := by decide +kernel
theorem dX5_faultOf_25 : decode cX5_faultOf 25 = .ok (.if_icmp .ge 59, 3) := by decide +kernel
theorem dX5_faultOf_28 : decode cX5_faultOf 28 = .ok (.aload_n 1, 1) := by decide +kernel
theorem dX5_faultOf_29 : decode cX5_faultOf 29 = .ok (.getfield 30, 3) := by decide +kernel
theorem dX5_faultOf_32 : decode cX5_faultOf 32 = .ok (.iload_n 3, 1) := by decide +kernel
theorem dX5_faultOf_33 : decode cX5_faultOf 33 = .ok (.iaload, 1) := by decide +kernel
theorem dX5_faultOf_34 : decode cX5_faultOf 34 = .ok (.bipush 32, 2) := by decide +kernel
theorem dX5_faultOf_36 : decode cX5_faultOf 36 = .ok (.if_icmp .ne 9, 3) := by decide +kernel
theorem dX5_faultOf_39 : decode cX5_faultOf 39 = .ok (.iinc 3 1, 3) := by decide +kernel
theorem dX5_faultOf_42 : decode cX5_faultOf 42 = .ok (.goto (-22), 3) := by decide +kernel
theorem dX5_faultOf_45 : decode cX5_faultOf 45 = .ok (.iload_n 2, 1) := by decide +kernel
theorem dX5_faultOf_46 : decode cX5_faultOf 46 = .ok (.ifCond .eq 12, 3) := by decide +kernel
theorem dX5_faultOf_49 : decode cX5_faultOf 49 = .ok (.aload_n 0, 1) := by decide +kernel
theorem dX5_faultOf_50 : decode cX5_faultOf 50 = .ok (.aload_n 1, 1) := by decide +kernel
theorem dX5_faultOf_51 : decode cX5_faultOf 51 = .ok (.iload_n 3, 1) := by decide +kernel
theorem dX5_faultOf_52 : decode cX5_faultOf 52 = .ok (.invokevirtual 34, 3) := by decide +kernel
theorem dX5_faultOf_55 : decode cX5_faultOf 55 = .ok (.goto 9, 3) := by decide +kernel
theorem dX5_faultOf_58 : decode cX5_faultOf 58 = .ok (.aload_n 0, 1) := by decide +kernel
theorem dX5_faultOf_59 : decode cX5_faultOf 59 = .ok (.aload_n 1, 1) := by decide +kernel
theorem dX5_faultOf_60 : decode cX5_faultOf 60 = .ok (.iload_n 3, 1) := by decide +kernel
theorem dX5_faultOf_61 : decode cX5_faultOf 61 = .ok (.invokevirtual 38, 3) := by decide +kernel
theorem dX5_faultOf_64 : decode cX5_faultOf 64 = .ok (.istore 4, 2) := by decide +kernel
theorem dX5_faultOf_66 : decode cX5_faultOf 66 = .ok (.iload 4, 2) := by decide +kernel
theorem dX5_faultOf_68 : decode cX5_faultOf 68 = .ok (.bipush (-9), 2) := by decide +kernel
theorem dX5_faultOf_70 : decode cX5_faultOf 70 = .ok (.if_icmp .eq 6, 3) := by decide +kernel
theorem dX5_faultOf_73 : decode cX5_faultOf 73 = .ok (.iload 4, 2) := by decide +kernel
theorem dX5_faultOf_75 : decode cX5_faultOf 75 = .ok (.ireturn, 1) := by decide +kernel
theorem dX5_faultOf_76 : decode cX5_faultOf 76 = .ok (.iconst 1, 1) := by decide +kernel
theorem dX5_faultOf_77 : decode cX5_faultOf 77 = .ok (.istore_n 2, 1) := by decide +kernel
theorem dX5_faultOf_78 : decode cX5_faultOf 78 = .ok (.iinc 3 3, 3) := by decide +kernel
theorem dX5_faultOf_81 : decode cX5_faultOf 81 = .ok (.goto (-61), 3) := by decide +kernel
theorem dX5_faultOf_84 : decode cX5_faultOf 84 = .ok (.aload_n 0, 1) := by decide +kernel
theorem dX5_faultOf_85 : decode cX5_faultOf 85 = .ok (.getfield 12, 3) := by decide +kernel
theorem dX5_faultOf_88 : decode cX5_faultOf 88 = .ok (.getfield 22, 3) := by decide +kernel
theorem dX5_faultOf_91 : decode cX5_faultOf 91 = .ok (.ifCond .le 8, 3) := by decide +kernel
theorem dX5_faultOf_94 : decode cX5_faultOf 94 = .ok (.bipush (-9), 2) := by decide +kernel
theorem dX5_faultOf_96 : decode cX5_faultOf 96 = .ok (.goto 7, 3) := by decide +kernel
theorem dX5_faultOf_99 : decode cX5_faultOf 99 = .ok (.aload_n 1, 1) := by decide +kernel
theorem dX5_faultOf_100 : decode cX5_faultOf 100 = .ok (.getfield 25, 3) := by decide +kernel
theorem dX5_faultOf_103 : decode cX5_faultOf 103 = .ok (.ireturn, 1) := by decide +kernel
set_option maxRecDepth 20000 in
theorem w_X5_faultOf_b64 {w : zWd} {X : zX} {l0 : Launch} {r : Int32} {S1 : zMem} (C : zC LC w X l0 cX5_faultOf RX5 5 5 (some .int)) {k20 : Nat → Int32 → Int32 → zMem → Option (Int32 × zMem)} (hc20 : ∀ (c1 : Nat) (x2 : Int32) (x3 : Int32) (S : zMem) (ls : Array Slot), lv_has ls 5 [(0, .ref (w.2.2.1 29)), (1, .ref (w.2.2.1 c1)), (2, .int x2), (3, .int x3)] → (c1 < LC.1 ∧ LC.2.1 c1 = 9) → k20 c1 x2 x3 S = some (r, S1) → zV LC w X (some (.int r)) S1 S 20 ls []) {c1 : Nat} {x3 : Int32} {s0 : Int32} {S : zMem} {ls : Array Slot} (hl : lv_has ls 5 [(0, .ref (w.2.2.1 29)), (1, .ref (w.2.2.1 c1)), (3, .int x3)]) (hk_c1 : c1 < LC.1 ∧ LC.2.1 c1 = 9) (h : X5_faultOf_b64 k20 c1 x3 s0 S = some (r, S1)) : zV LC w X (some (.int r)) S1 S 64 ls [.int s0] := by
  unfold X5_faultOf_b64 at h
  refine v_istore 64 C [(4, .int s0), (0, .ref (w.2.2.1 29)), (1, .ref (w.2.2.1 c1)), (3, .int x3)] dX5_faultOf_64 hl (by decide) rfl (fun ls hl => ?_)
  refine v_iload 66 C dX5_faultOf_66 (lv_at hl 0 rfl) ?_
  refine v_bipush 68 C (v := (-9 : Int32)) dX5_faultOf_68 (by decide) ?_
  refine v_icmp_eq 70 76 C dX5_faultOf_70 (by decide) h (fun h => ?_) (fun h => ?_)
  · refine v_iconst 76 C (v := (1 : Int32)) dX5_faultOf_76 (by decide) ?_
    refine v_istore_n 77 C [(2, .int (1 : Int32)), (4, .int s0), (0, .ref (w.2.2.1 29)), (1, .ref (w.2.2.1 c1)), (3, .int x3)] dX5_faultOf_77 rfl hl (by decide) rfl (fun ls hl => ?_)
    refine v_iinc 78 C (nn := (3 : Int32)) (fun v => [(3, .int v), (2, .int (1 : Int32)), (4, .int s0), (0, .ref (w.2.2.1 29)), (1, .ref (w.2.2.1 c1))]) dX5_faultOf_78 hl (k := 4) rfl (by decide) (by decide) (fun _ => rfl) h (fun v1 ls hl h => ?_)
    refine v_goto 81 20 C dX5_faultOf_81 (by decide) ?_
    exact hc20 _ _ _ _ _ (lv_sub hl [3, 4, 1, 0] rfl) hk_c1 h
  · refine v_iload 73 C dX5_faultOf_73 (lv_at hl 0 rfl) ?_
    exact v_ireturn 75 C dX5_faultOf_75 h
set_option maxRecDepth 20000 in
theorem w_X5_faultOf_b103 {w : zWd} {X : zX} {l0 : Launch} {r : Int32} {S1 : zMem} (C : zC LC w X l0 cX5_faultOf RX5 5 5 (some .int)) {s0 : Int32} {S : zMem} {ls : Array Slot} (hl : lv_has ls 5 []) (h : X5_faultOf_b103 s0 S = some (r, S1)) : zV LC w X (some (.int r)) S1 S 103 ls [.int s0] := by
  unfold X5_faultOf_b103 at h
  exact v_ireturn 103 C dX5_faultOf_103 h
set_option maxRecDepth 20000 in
theorem w_X5_faultOf_b20 {w : zWd} {X : zX} {l0 : Launch} {r : Int32} {S1 : zMem} (C : zC LC w X l0 cX5_faultOf RX5 5 5 (some .int)) {k20 : Nat → Int32 → Int32 → zMem → Option (Int32 × zMem)} (hc20 : ∀ (c1 : Nat) (x2 : Int32) (x3 : Int32) (S : zMem) (ls : Array Slot), lv_has ls 5 [(0, .ref (w.2.2.1 29)), (1, .ref (w.2.2.1 c1)), (2, .int x2), (3, .int x3)] → (c1 < LC.1 ∧ LC.2.1 c1 = 9) → k20 c1 x2 x3 S = some (r, S1) → zV LC w X (some (.int r)) S1 S 20 ls []) {c1 : Nat} {x2 : Int32} {x3 : Int32} {S : zMem} {ls : Array Slot} (hl : lv_has ls 5 [(0, .ref (w.2.2.1 29)), (1, .ref (w.2.2.1 c1)), (2, .int x2), (3, .int x3)]) (hk_c1 : c1 < LC.1 ∧ LC.2.1 c1 = 9) (h : X5_faultOf_b20 k20 c1 x2 x3 S = some (r, S1)) : zV LC w X (some (.int r)) S1 S 20 ls [] := by
  unfold X5_faultOf_b20 at h
  refine v_iload_n 20 C dX5_faultOf_20 rfl (lv_at hl 3 rfl) ?_
  refine v_aload_n 21 C dX5_faultOf_21 rfl (lv_at hl 1 rfl) ?_
  refine v_geti 22 C dX5_faultOf_22 fl_X5_25 rfl hk_c1 h (fun v1 h => ?_)
  refine v_icmp_ge 25 84 C dX5_faultOf_25 (by decide) h (fun h => ?_) (fun h => ?_)
  · refine v_aload_n 84 C dX5_faultOf_84 rfl (lv_at hl 0 rfl) ?_
    refine v_getr 85 (30) C dX5_faultOf_85 fl_X5_12 rfl kC_29 rfl ?_
    refine v_geti 88 C dX5_faultOf_88 fl_X5_22 rfl kC_30 h (fun v2 h => ?_)
    refine v_if_le 91 99 C dX5_faultOf_91 (by decide) h (fun h => ?_) (fun h => ?_)
    · refine v_aload_n 99 C dX5_faultOf_99 rfl (lv_at hl 1 rfl) ?_
      refine v_geti 100 C dX5_faultOf_100 fl_X5_25 rfl hk_c1 h (fun v3 h => ?_)
      exact w_X5_faultOf_b103 C (lv_sub hl [] rfl) h
    · refine v_bipush 94 C (v := (-9 : Int32)) dX5_faultOf_94 (by decide) ?_
      refine v_goto 96 103 C dX5_faultOf_96 (by decide) ?_
      exact w_X5_faultOf_b103 C (lv_sub hl [] rfl) h
  · refine v_aload_n 28 C dX5_faultOf_28 rfl (lv_at hl 1 rfl) ?_
    refine v_getr 29 (c1 + 1) C dX5_faultOf_29 fl_X5_30 rfl hk_c1 (rS1 hk_c1) ?_
    refine v_iload_n 32 C dX5_faultOf_32 rfl (lv_at hl 3 rfl) ?_
    refine v_iald 33 C dX5_faultOf_33 (kS1 hk_c1) rfl h (fun v4 h => ?_)
    refine v_bipush 34 C (v := (32 : Int32)) dX5_faultOf_34 (by decide) ?_
    refine v_icmp_ne 36 45 C dX5_faultOf_36 (by decide) h (fun h => ?_) (fun h => ?_)
    · refine v_iload_n 45 C dX5_faultOf_45 rfl (lv_at hl 2 rfl) ?_
      refine v_if_eq 46 58 C dX5_faultOf_46 (by decide) h (fun h => ?_) (fun h => ?_)
      · refine v_aload_n 58 C dX5_faultOf_58 rfl (lv_at hl 0 rfl) ?_
        refine v_aload_n 59 C dX5_faultOf_59 rfl (lv_at hl 1 rfl) ?_
        refine v_iload_n 60 C dX5_faultOf_60 rfl (lv_at hl 3 rfl) ?_
        obtain ⟨v5, S, hc, h⟩ := zb_e h
        refine v_callVi 61 C (ci := 4) [] dX5_faultOf_61 ml_X5_38 hy_X5_postmanFault (c_X5_postmanFault hk_c1 hc) (by decide) rfl hl.1 kC_29 rfl (Nat.le_of_ble_eq_true rfl) rfl ?_
        exact w_X5_faultOf_b64 C hc20 (lv_sub hl [0, 1, 3] rfl) hk_c1 h
      · refine v_aload_n 49 C dX5_faultOf_49 rfl (lv_at hl 0 rfl) ?_
        refine v_aload_n 50 C dX5_faultOf_50 rfl (lv_at hl 1 rfl) ?_
        refine v_iload_n 51 C dX5_faultOf_51 rfl (lv_at hl 3 rfl) ?_
        obtain ⟨v6, S, hc, h⟩ := zb_e h
        refine v_callVi 52 C (ci := 4) [] dX5_faultOf_52 ml_X5_34 hy_X5_itemFault (c_X5_itemFault hk_c1 hc) (by decide) rfl hl.1 kC_29 rfl (Nat.le_of_ble_eq_true rfl) rfl ?_
        refine v_goto 55 64 C dX5_faultOf_55 (by decide) ?_
        exact w_X5_faultOf_b64 C hc20 (lv_sub hl [0, 1, 3] rfl) hk_c1 h
    · refine v_iinc 39 C (nn := (1 : Int32)) (fun v => [(3, .int v), (0, .ref (w.2.2.1 29)), (1, .ref (w.2.2.1 c1)), (2, .int x2)]) dX5_faultOf_39 hl (k := 3) rfl (by decide) (by decide) (fun _ => rfl) h (fun v7 ls hl h => ?_)
      refine v_goto 42 20 C dX5_faultOf_42 (by decide) ?_
      exact hc20 _ _ _ _ _ (lv_sub hl [1, 2, 3, 0] rfl) hk_c1 h
theorem w_X5_faultOf_l20 {w : zWd} {X : zX} {l0 : Launch} {r : Int32} {S1 : zMem} (C : zC LC w X l0 cX5_faultOf RX5 5 5 (some .int)) : ∀ (n : Nat) (c1 : Nat) (x2 : Int32) (x3 : Int32) (S : zMem) (ls : Array Slot), lv_has ls 5 [(0, .ref (w.2.2.1 29)), (1, .ref (w.2.2.1 c1)), (2, .int x2), (3, .int x3)] → (c1 < LC.1 ∧ LC.2.1 c1 = 9) → X5_faultOf_l20 n c1 x2 x3 S = some (r, S1) → zV LC w X (some (.int r)) S1 S 20 ls [] := by
  intro n
  induction n with
  | zero =>
    intro c1 x2 x3 S ls hl hk_c1 h
    cases (show (none : Option (Int32 × zMem)) = some _ from h)
  | succ n ih =>
    intro c1 x2 x3 S ls hl hk_c1 h
    exact w_X5_faultOf_b20 C ih hl hk_c1 h
set_option maxRecDepth 20000 in
theorem w_X5_faultOf_b0 {w : zWd} {X : zX} {l0 : Launch} {r : Int32} {S1 : zMem} (C : zC LC w X l0 cX5_faultOf RX5 5 5 (some .int)) {c1 : Nat} {S : zMem} {ls : Array Slot} (hl : lv_has ls 5 [(0, .ref (w.2.2.1 29)), (1, .ref (w.2.2.1 c1))]) (hk_c1 : c1 < LC.1 ∧ LC.2.1 c1 = 9) (h : X5_faultOf_b0 c1 S = some (r, S1)) : zV LC w X (some (.int r)) S1 S 0 ls [] := by
  unfold X5_faultOf_b0 at h
  refine v_aload_n 0 C dX5_faultOf_0 rfl (lv_at hl 0 rfl) ?_
  refine v_getr 1 (30) C dX5_faultOf_1 fl_X5_12 rfl kC_29 rfl ?_
  refine v_iconst 4 C (v := (0 : Int32)) dX5_faultOf_4 (by decide) ?_
  refine v_puti 5 C dX5_faultOf_5 fl_X5_18 fp_5_4 rfl kC_30 h (fun S h => ?_)
  refine v_aload_n 8 C dX5_faultOf_8 rfl (lv_at hl 0 rfl) ?_
  refine v_getr 9 (30) C dX5_faultOf_9 fl_X5_12 rfl kC_29 rfl ?_
  refine v_iconst 12 C (v := (0 : Int32)) dX5_faultOf_12 (by decide) ?_
  refine v_puti 13 C dX5_faultOf_13 fl_X5_22 fp_5_5 rfl kC_30 h (fun S h => ?_)
  refine v_iconst 16 C (v := (0 : Int32)) dX5_faultOf_16 (by decide) ?_
  refine v_istore_n 17 C [(2, .int (0 : Int32)), (0, .ref (w.2.2.1 29)), (1, .ref (w.2.2.1 c1))] dX5_faultOf_17 rfl hl (by decide) rfl (fun ls hl => ?_)
  refine v_iconst 18 C (v := (0 : Int32)) dX5_faultOf_18 (by decide) ?_
  refine v_istore_n 19 C [(3, .int (0 : Int32)), (2, .int (0 : Int32)), (0, .ref (w.2.2.1 29)), (1, .ref (w.2.2.1 c1))] dX5_faultOf_19 rfl hl (by decide) rfl (fun ls hl => ?_)
  exact w_X5_faultOf_l20 C zF _ _ _ _ _ (lv_sub hl [2, 3, 1, 0] rfl) hk_c1 h
theorem c_X5_faultOf {w : zWd} {l0 : Launch} {c1 : Nat} {S S1 : zMem} {r : Int32} (hk_c1 : c1 < LC.1 ∧ LC.2.1 c1 = 9) (h : f_X5_faultOf c1 S = some (r, S1)) : zMet LC w l0 yX5_faultOf cX5_faultOf 5 (some .int) 5 [.ref (w.2.2.1 29), .ref (w.2.2.1 c1)] S (some (.int r)) S1 :=
  zMet_of (by decide +kernel) (Nat.le_of_ble_eq_true rfl) (fun X ls C hl => w_X5_faultOf_b0 C hl hk_c1 h)
theorem fl_X8_28 : zFL RX8 28 7 3 := ⟨_, rfl, by decide, zT_of (List.mem_of_getElem? (i := 320) (by decide +kernel)) rfl⟩
theorem ml_X8_129 : Cond.methodLink RX8 129 yX5_faultOf ∈ zT := zT_of (List.mem_of_getElem? (i := 443) (by decide +kernel)) rfl
theorem hy_X5_faultOf : zYv yX5_faultOf cX5_faultOf 5 (some .int) 1 := ⟨⟨zT_of (List.mem_of_getElem? (i := 446) (by decide +kernel)) rfl, zT_of (List.mem_of_getElem? (i := 72) (by decide +kernel)) rfl, by decide, by decide +kernel, by decide +kernel, by decide +kernel⟩, zT_of (List.mem_of_getElem? (i := 444) (by decide +kernel)) rfl, zT_of (List.mem_of_getElem? (i := 445) (by decide +kernel)) rfl⟩
theorem dX8_fault_0 : decode cX8_fault 0 = .ok (.iload_n 1, 1) := by decide +kernel
theorem dX8_fault_1 : decode cX8_fault 1 = .ok (.invokestatic 126, 3) := by decide +kernel
theorem dX8_fault_4 : decode cX8_fault 4 = .ok (.ifCond .ne 5, 3) := by decide +kernel
theorem dX8_fault_7 : decode cX8_fault 7 = .ok (.iconst (-1), 1) := by decide +kernel
theorem dX8_fault_8 : decode cX8_fault 8 = .ok (.ireturn, 1) := by decide +kernel
theorem dX8_fault_9 : decode cX8_fault 9 = .ok (.aload_n 0, 1) := by decide +kernel
theorem dX8_fault_10 : decode cX8_fault 10 = .ok (.getfield 15, 3) := by decide +kernel
theorem dX8_fault_13 : decode cX8_fault 13 = .ok (.iload_n 1, 1) := by decide +kernel
theorem dX8_fault_14 : decode cX8_fault 14 = .ok (.aaload, 1) := by decide +kernel
theorem dX8_fault_15 : decode cX8_fault 15 = .ok (.invokevirtual 92, 3) := by decide +kernel
theorem dX8_fault_18 : decode cX8_fault 18 = .ok (.ifCond .ne 9, 3) := by decide +kernel
theorem dX8_fault_21 : decode cX8_fault 21 = .ok (.aload_n 0, 1) := by decide +kernel
theorem dX8_fault_22 : decode cX8_fault 22 = .ok (.iconst 1, 1) := by decide +kernel
theorem dX8_fault_23 : decode cX8_fault 23 = .ok (.invokevirtual 84, 3) := by decide +kernel
theorem dX8_fault_26 : decode cX8_fault 26 = .ok (.ireturn, 1) := by decide +kernel
theorem dX8_fault_27 : decode cX8_fault 27 = .ok (.aload_n 0, 1) := by decide +kernel
theorem dX8_fault_28 : decode cX8_fault 28 = .ok (.getfield 28, 3) := by decide +kernel
theorem dX8_fault_31 : decode cX8_fault 31 = .ok (.aload_n 0, 1) := by decide +kernel
theorem dX8_fault_32 : decode cX8_fault 32 = .ok (.getfield 15, 3) := by decide +kernel
theorem dX8_fault_35 : decode cX8_fault 35 = .ok (.iload_n 1, 1) := by decide +kernel
theorem dX8_fault_36 : decode cX8_fault 36 = .ok (.aaload, 1) := by decide +kernel
theorem dX8_fault_37 : decode cX8_fault 37 = .ok (.invokevirtual 129, 3) := by decide +kernel
theorem dX8_fault_40 : decode cX8_fault 40 = .ok (.ireturn, 1) := by decide +kernel
set_option maxRecDepth 20000 in
theorem w_X8_fault_b0 {w : zWd} {X : zX} {l0 : Launch} {r : Int32} {S1 : zMem} (C : zC LC w X l0 cX8_fault RX8 2 6 (some .int)) {x1 : Int32} {S : zMem} {ls : Array Slot} (hl : lv_has ls 2 [(0, .ref (w.2.2.1 0)), (1, .int x1)]) (h : X8_fault_b0 x1 S = some (r, S1)) : zV LC w X (some (.int r)) S1 S 0 ls [] := by
  unfold X8_fault_b0 at h
  refine v_iload_n 0 C dX8_fault_0 rfl (lv_at hl 1 rfl) ?_
  obtain ⟨v1, S, hc, h⟩ := zb_e h
  refine v_callSi 1 C [] dX8_fault_1 ml_X8_126 hy_X8_isText (c_X8_isText  hc) (by decide) rfl hl.1 (Nat.le_of_ble_eq_true rfl) rfl ?_
  refine v_if_ne 4 9 C dX8_fault_4 (by decide) h (fun h => ?_) (fun h => ?_)
  · refine v_aload_n 9 C dX8_fault_9 rfl (lv_at hl 0 rfl) ?_
    refine v_getr 10 (2) C dX8_fault_10 fl_X8_15 rfl kC_0 rfl ?_
    refine v_iload_n 13 C dX8_fault_13 rfl (lv_at hl 1 rfl) ?_
    refine v_aald 14 (16 + 2 * Int32.toNatClampNeg x1) C dX8_fault_14 kC_2 (Or.inl rfl) rfl rfl h (fun hz2 h => ?_)
    obtain ⟨v3, S, hc, h⟩ := zb_e h
    refine v_callVi 15 C (ci := 6) [] dX8_fault_15 ml_X8_92 hy_X7_isThere (c_X7_isThere (kTxt hz2) hc) (by decide) rfl hl.1 (kTxt hz2) rfl (Nat.le_of_ble_eq_true rfl) rfl ?_
    refine v_if_ne 18 27 C dX8_fault_18 (by decide) h (fun h => ?_) (fun h => ?_)
    · refine v_aload_n 27 C dX8_fault_27 rfl (lv_at hl 0 rfl) ?_
      refine v_getr 28 (29) C dX8_fault_28 fl_X8_28 rfl kC_0 rfl ?_
      refine v_aload_n 31 C dX8_fault_31 rfl (lv_at hl 0 rfl) ?_
      refine v_getr 32 (2) C dX8_fault_32 fl_X8_15 rfl kC_0 rfl ?_
      refine v_iload_n 35 C dX8_fault_35 rfl (lv_at hl 1 rfl) ?_
      refine v_aald 36 (16 + 2 * Int32.toNatClampNeg x1) C dX8_fault_36 kC_2 (Or.inl rfl) rfl rfl h (fun hz4 h => ?_)
      obtain ⟨v5, S, hc, h⟩ := zb_e h
      refine v_callVi 37 C (ci := 4) [] dX8_fault_37 ml_X8_129 hy_X5_faultOf (c_X5_faultOf (kTxt hz4) hc) (by decide) rfl hl.1 kC_29 rfl (Nat.le_of_ble_eq_true rfl) rfl ?_
      exact v_ireturn 40 C dX8_fault_40 h
    · refine v_aload_n 21 C dX8_fault_21 rfl (lv_at hl 0 rfl) ?_
      refine v_iconst 22 C (v := (1 : Int32)) dX8_fault_22 (by decide) ?_
      obtain ⟨v6, S, hc, h⟩ := zb_e h
      refine v_callVi 23 C (ci := 7) [] dX8_fault_23 ml_X8_84 hy_X8_refuse (c_X8_refuse  hc) (by decide) rfl hl.1 kC_0 rfl (Nat.le_of_ble_eq_true rfl) rfl ?_
      exact v_ireturn 26 C dX8_fault_26 h
  · refine v_iconst 7 C (v := (-1 : Int32)) dX8_fault_7 (by decide) ?_
    exact v_ireturn 8 C dX8_fault_8 h
theorem c_X8_fault {w : zWd} {l0 : Launch} {x1 : Int32} {S S1 : zMem} {r : Int32} (h : f_X8_fault x1 S = some (r, S1)) : zMet LC w l0 yX8_fault cX8_fault 2 (some .int) 6 [.ref (w.2.2.1 0), .int x1] S (some (.int r)) S1 :=
  zMet_of (by decide +kernel) (Nat.le_of_ble_eq_true rfl) (fun X ls C hl => w_X8_fault_b0 C hl h)
theorem fl_X6_24 : zFL RX6 24 5 4 := ⟨_, rfl, by decide, zT_of (List.mem_of_getElem? (i := 114) (by decide +kernel)) rfl⟩
theorem fl_X6_28 : zFL RX6 28 5 5 := ⟨_, rfl, by decide, zT_of (List.mem_of_getElem? (i := 118) (by decide +kernel)) rfl⟩
theorem fl_X6_31 : zFL RX6 31 5 6 := ⟨_, rfl, by decide, zT_of (List.mem_of_getElem? (i := 122) (by decide +kernel)) rfl⟩
theorem fl_X6_34 : zFL RX6 34 5 7 := ⟨_, rfl, by decide, zT_of (List.mem_of_getElem? (i := 125) (by decide +kernel)) rfl⟩
theorem fl_X6_9 : zFL RX6 9 5 0 := ⟨_, rfl, by decide, zT_of (List.mem_of_getElem? (i := 99) (by decide +kernel)) rfl⟩
theorem ml_X6_37 : Cond.methodLink RX6 37 arraycopyName ∈ zT := zT_of (List.mem_of_getElem? (i := 480) (by decide +kernel)) rfl
theorem fl_X6_15 : zFL RX6 15 5 1 := ⟨_, rfl, by decide, zT_of (List.mem_of_getElem? (i := 102) (by decide +kernel)) rfl⟩
theorem fl_X6_18 : zFL RX6 18 5 2 := ⟨_, rfl, by decide, zT_of (List.mem_of_getElem? (i := 105) (by decide +kernel)) rfl⟩
theorem fl_X6_21 : zFL RX6 21 5 3 := ⟨_, rfl, by decide, zT_of (List.mem_of_getElem? (i := 111) (by decide +kernel)) rfl⟩
theorem dX6_become_0 : decode cX6_become 0 = .ok (.aload_n 0, 1) := by decide +kernel
theorem dX6_become_1 : decode cX6_become 1 = .ok (.aload_n 1, 1) := by decide +kernel
theorem dX6_become_2 : decode cX6_become 2 = .ok (.getfield 24, 3) := by decide +kernel
theorem dX6_become_5 : decode cX6_become 5 = .ok (.putfield 24, 3) := by decide +kernel
theorem dX6_become_8 : decode cX6_become 8 = .ok (.aload_n 0, 1) := by decide +kernel
theorem dX6_become_9 : decode cX6_become 9 = .ok (.aload_n 1, 1) := by decide +kernel
theorem dX6_become_10 : decode cX6_become 10 = .ok (.getfield 28, 3) := by decide +kernel
theorem dX6_become_13 : decode cX6_become 13 = .ok (.putfield 28, 3) := by decide +kernel
theorem dX6_become_16 : decode cX6_become 16 = .ok (.aload_n 0, 1) := by decide +kernel
theorem dX6_become_17 : decode cX6_become 17 = .ok (.aload_n 1, 1) := by decide +kernel
theorem dX6_become_18 : decode cX6_become 18 = .ok (.getfield 31, 3) := by decide +kernel
theorem dX6_become_21 : decode cX6_become 21 = .ok (.putfield 31, 3) := by decide +kernel
theorem dX6_become_24 : decode cX6_become 24 = .ok (.aload_n 0, 1) := by decide +kernel
theorem dX6_become_25 : decode cX6_become 25 = .ok (.aload_n 1, 1) := by decide +kernel
theorem dX6_become_26 : decode cX6_become 26 = .ok (.getfield 34, 3) := by decide +kernel
theorem dX6_become_29 : decode cX6_become 29 = .ok (.putfield 34, 3) := by decide +kernel
theorem dX6_become_32 : decode cX6_become 32 = .ok (.aload_n 1, 1) := by decide +kernel
theorem dX6_become_33 : decode cX6_become 33 = .ok (.getfield 9, 3) := by decide +kernel
theorem dX6_become_36 : decode cX6_become 36 = .ok (.iconst 0, 1) := by decide +kernel
theorem dX6_become_37 : decode cX6_become 37 = .ok (.aload_n 0, 1) := by decide +kernel
theorem dX6_become_38 : decode cX6_become 38 = .ok (.getfield 9, 3) := by decide +kernel
theorem dX6_become_41 : decode cX6_become 41 = .ok (.iconst 0, 1) := by decide +kernel
theorem dX6_become_42 : decode cX6_become 42 = .ok (.bipush 6, 2) := by decide +kernel
theorem dX6_become_44 : decode cX6_become 44 = .ok (.invokestatic 37, 3) := by decide +kernel
theorem dX6_become_47 : decode cX6_become 47 = .ok (.aload_n 1, 1) := by decide +kernel
theorem dX6_become_48 : decode cX6_become 48 = .ok (.getfield 15, 3) := by decide +kernel
theorem dX6_become_51 : decode cX6_become 51 = .ok (.iconst 0, 1) := by decide +kernel
theorem dX6_become_52 : decode cX6_become 52 = .ok (.aload_n 0, 1) := by decide +kernel
theorem dX6_become_53 : decode cX6_become 53 = .ok (.getfield 15, 3) := by decide +kernel
theorem dX6_become_56 : decode cX6_become 56 = .ok (.iconst 0, 1) := by decide +kernel
theorem dX6_become_57 : decode cX6_become 57 = .ok (.bipush 6, 2) := by decide +kernel
theorem dX6_become_59 : decode cX6_become 59 = .ok (.invokestatic 37, 3) := by decide +kernel
theorem dX6_become_62 : decode cX6_become 62 = .ok (.aload_n 1, 1) := by decide +kernel
theorem dX6_become_63 : decode cX6_become 63 = .ok (.getfield 18, 3) := by decide +kernel
theorem dX6_become_66 : decode cX6_become 66 = .ok (.iconst 0, 1) := by decide +kernel
theorem dX6_become_67 : decode cX6_become 67 = .ok (.aload_n 0, 1) := by decide +kernel
theorem dX6_become_68 : decode cX6_become 68 = .ok (.getfield 18, 3) := by decide +kernel
theorem dX6_become_71 : decode cX6_become 71 = .ok (.iconst 0, 1) := by decide +kernel
theorem dX6_become_72 : decode cX6_become 72 = .ok (.bipush 6, 2) := by decide +kernel
theorem dX6_become_74 : decode cX6_become 74 = .ok (.invokestatic 37, 3) := by decide +kernel
theorem dX6_become_77 : decode cX6_become 77 = .ok (.aload_n 1, 1) := by decide +kernel
theorem dX6_become_78 : decode cX6_become 78 = .ok (.getfield 21, 3) := by decide +kernel
theorem dX6_become_81 : decode cX6_become 81 = .ok (.iconst 0, 1) := by decide +kernel
theorem dX6_become_82 : decode cX6_become 82 = .ok (.aload_n 0, 1) := by decide +kernel
theorem dX6_become_83 : decode cX6_become 83 = .ok (.getfield 21, 3) := by decide +kernel
theorem dX6_become_86 : decode cX6_become 86 = .ok (.iconst 0, 1) := by decide +kernel
theorem dX6_become_87 : decode cX6_become 87 = .ok (.bipush 6, 2) := by decide +kernel
theorem dX6_become_89 : decode cX6_become 89 = .ok (.invokestatic 37, 3) := by decide +kernel
theorem dX6_become_92 : decode cX6_become 92 = .ok (.return_, 1) := by decide +kernel
set_option maxRecDepth 20000 in
theorem w_X6_become_b0 {w : zWd} {X : zX} {l0 : Launch} {r : Unit} {S1 : zMem} (C : zC LC w X l0 cX6_become RX6 2 1 none) {S : zMem} {ls : Array Slot} (hl : lv_has ls 2 [(0, .ref (w.2.2.1 24)), (1, .ref (w.2.2.1 30))]) (h : X6_become_b0  S = some (r, S1)) : zV LC w X none S1 S 0 ls [] := by
  unfold X6_become_b0 at h
  refine v_aload_n 0 C dX6_become_0 rfl (lv_at hl 0 rfl) ?_
  refine v_aload_n 1 C dX6_become_1 rfl (lv_at hl 1 rfl) ?_
  refine v_geti 2 C dX6_become_2 fl_X6_24 rfl kC_30 h (fun v1 h => ?_)
  refine v_puti 5 C dX6_become_5 fl_X6_24 fp_5_4 rfl kC_24 h (fun S h => ?_)
  refine v_aload_n 8 C dX6_become_8 rfl (lv_at hl 0 rfl) ?_
  refine v_aload_n 9 C dX6_become_9 rfl (lv_at hl 1 rfl) ?_
  refine v_geti 10 C dX6_become_10 fl_X6_28 rfl kC_30 h (fun v2 h => ?_)
  refine v_puti 13 C dX6_become_13 fl_X6_28 fp_5_5 rfl kC_24 h (fun S h => ?_)
  refine v_aload_n 16 C dX6_become_16 rfl (lv_at hl 0 rfl) ?_
  refine v_aload_n 17 C dX6_become_17 rfl (lv_at hl 1 rfl) ?_
  refine v_geti 18 C dX6_become_18 fl_X6_31 rfl kC_30 h (fun v3 h => ?_)
  refine v_puti 21 C dX6_become_21 fl_X6_31 fp_5_6 rfl kC_24 h (fun S h => ?_)
  refine v_aload_n 24 C dX6_become_24 rfl (lv_at hl 0 rfl) ?_
  refine v_aload_n 25 C dX6_become_25 rfl (lv_at hl 1 rfl) ?_
  refine v_geti 26 C dX6_become_26 fl_X6_34 rfl kC_30 h (fun v4 h => ?_)
  refine v_puti 29 C dX6_become_29 fl_X6_34 fp_5_7 rfl kC_24 h (fun S h => ?_)
  refine v_aload_n 32 C dX6_become_32 rfl (lv_at hl 1 rfl) ?_
  refine v_getr 33 (31) C dX6_become_33 fl_X6_9 rfl kC_30 rfl ?_
  refine v_iconst 36 C (v := (0 : Int32)) dX6_become_36 (by decide) ?_
  refine v_aload_n 37 C dX6_become_37 rfl (lv_at hl 0 rfl) ?_
  refine v_getr 38 (25) C dX6_become_38 fl_X6_9 rfl kC_24 rfl ?_
  refine v_iconst 41 C (v := (0 : Int32)) dX6_become_41 (by decide) ?_
  refine v_bipush 42 C (v := (6 : Int32)) dX6_become_42 (by decide) ?_
  refine v_copy 44 C dX6_become_44 ml_X6_37 hl.1 (by decide) (Nat.le_of_ble_eq_true rfl) kC_31 kC_25 rfl rfl h (fun S h => ?_)
  refine v_aload_n 47 C dX6_become_47 rfl (lv_at hl 1 rfl) ?_
  refine v_getr 48 (32) C dX6_become_48 fl_X6_15 rfl kC_30 rfl ?_
  refine v_iconst 51 C (v := (0 : Int32)) dX6_become_51 (by decide) ?_
  refine v_aload_n 52 C dX6_become_52 rfl (lv_at hl 0 rfl) ?_
  refine v_getr 53 (26) C dX6_become_53 fl_X6_15 rfl kC_24 rfl ?_
  refine v_iconst 56 C (v := (0 : Int32)) dX6_become_56 (by decide) ?_
  refine v_bipush 57 C (v := (6 : Int32)) dX6_become_57 (by decide) ?_
  refine v_copy 59 C dX6_become_59 ml_X6_37 hl.1 (by decide) (Nat.le_of_ble_eq_true rfl) kC_32 kC_26 rfl rfl h (fun S h => ?_)
  refine v_aload_n 62 C dX6_become_62 rfl (lv_at hl 1 rfl) ?_
  refine v_getr 63 (33) C dX6_become_63 fl_X6_18 rfl kC_30 rfl ?_
  refine v_iconst 66 C (v := (0 : Int32)) dX6_become_66 (by decide) ?_
  refine v_aload_n 67 C dX6_become_67 rfl (lv_at hl 0 rfl) ?_
  refine v_getr 68 (27) C dX6_become_68 fl_X6_18 rfl kC_24 rfl ?_
  refine v_iconst 71 C (v := (0 : Int32)) dX6_become_71 (by decide) ?_
  refine v_bipush 72 C (v := (6 : Int32)) dX6_become_72 (by decide) ?_
  refine v_copy 74 C dX6_become_74 ml_X6_37 hl.1 (by decide) (Nat.le_of_ble_eq_true rfl) kC_33 kC_27 rfl rfl h (fun S h => ?_)
  refine v_aload_n 77 C dX6_become_77 rfl (lv_at hl 1 rfl) ?_
  refine v_getr 78 (34) C dX6_become_78 fl_X6_21 rfl kC_30 rfl ?_
  refine v_iconst 81 C (v := (0 : Int32)) dX6_become_81 (by decide) ?_
  refine v_aload_n 82 C dX6_become_82 rfl (lv_at hl 0 rfl) ?_
  refine v_getr 83 (28) C dX6_become_83 fl_X6_21 rfl kC_24 rfl ?_
  refine v_iconst 86 C (v := (0 : Int32)) dX6_become_86 (by decide) ?_
  refine v_bipush 87 C (v := (6 : Int32)) dX6_become_87 (by decide) ?_
  refine v_copy 89 C dX6_become_89 ml_X6_37 hl.1 (by decide) (Nat.le_of_ble_eq_true rfl) kC_34 kC_28 rfl rfl h (fun S h => ?_)
  exact v_return 92 C dX6_become_92 h
theorem c_X6_become {w : zWd} {l0 : Launch} {S S1 : zMem} {r : Unit} (h : f_X6_become  S = some (r, S1)) : zMet LC w l0 yX6_become cX6_become 2 none 1 [.ref (w.2.2.1 24), .ref (w.2.2.1 30)] S none S1 :=
  zMet_of (by decide +kernel) (Nat.le_of_ble_eq_true rfl) (fun X ls C hl => w_X6_become_b0 C hl h)
theorem fl_X4_28 : zFL RX4 28 3 5 := ⟨_, rfl, by decide, zT_of (List.mem_of_getElem? (i := 173) (by decide +kernel)) rfl⟩
theorem fp_3_5 : zFP 3 5 .boolean := fun q h => by cases h; exact ⟨rfl, by decide +kernel⟩
theorem fl_X4_32 : zFL RX4 32 3 6 := ⟨_, rfl, by decide, zT_of (List.mem_of_getElem? (i := 175) (by decide +kernel)) rfl⟩
theorem fp_3_6 : zFP 3 6 .int := fun q h => by cases h; exact ⟨rfl, by decide +kernel⟩
theorem fl_X4_36 : zFL RX4 36 3 7 := ⟨_, rfl, by decide, zT_of (List.mem_of_getElem? (i := 177) (by decide +kernel)) rfl⟩
theorem fp_3_7 : zFP 3 7 .int := fun q h => by cases h; exact ⟨rfl, by decide +kernel⟩
theorem fl_X4_24 : zFL RX4 24 3 0 := ⟨_, rfl, by decide, zT_of (List.mem_of_getElem? (i := 165) (by decide +kernel)) rfl⟩
theorem fl_X4_39 : zFL RX4 39 5 6 := ⟨_, rfl, by decide, zT_of (List.mem_of_getElem? (i := 123) (by decide +kernel)) rfl⟩
theorem fl_X4_44 : zFL RX4 44 3 8 := ⟨_, rfl, by decide, zT_of (List.mem_of_getElem? (i := 180) (by decide +kernel)) rfl⟩
theorem fp_3_8 : zFP 3 8 .int := fun q h => by cases h; exact ⟨rfl, by decide +kernel⟩
theorem fl_X4_47 : zFL RX4 47 5 7 := ⟨_, rfl, by decide, zT_of (List.mem_of_getElem? (i := 126) (by decide +kernel)) rfl⟩
theorem fl_X4_50 : zFL RX4 50 3 9 := ⟨_, rfl, by decide, zT_of (List.mem_of_getElem? (i := 184) (by decide +kernel)) rfl⟩
theorem fp_3_9 : zFP 3 9 .int := fun q h => by cases h; exact ⟨rfl, by decide +kernel⟩
theorem fl_X4_53 : zFL RX4 53 3 10 := ⟨_, rfl, by decide, zT_of (List.mem_of_getElem? (i := 188) (by decide +kernel)) rfl⟩
theorem fp_3_10 : zFP 3 10 .int := fun q h => by cases h; exact ⟨rfl, by decide +kernel⟩
theorem fl_X4_56 : zFL RX4 56 3 11 := ⟨_, rfl, by decide, zT_of (List.mem_of_getElem? (i := 191) (by decide +kernel)) rfl⟩
theorem fp_3_11 : zFP 3 11 .int := fun q h => by cases h; exact ⟨rfl, by decide +kernel⟩
theorem fl_X4_59 : zFL RX4 59 5 0 := ⟨_, rfl, by decide, zT_of (List.mem_of_getElem? (i := 100) (by decide +kernel)) rfl⟩
theorem fl_X4_9 : zFL RX4 9 3 1 := ⟨_, rfl, by decide, zT_of (List.mem_of_getElem? (i := 166) (by decide +kernel)) rfl⟩
theorem ml_X4_62 : Cond.methodLink RX4 62 arraycopyName ∈ zT := zT_of (List.mem_of_getElem? (i := 485) (by decide +kernel)) rfl
theorem dX4_begin_0 : decode cX4_begin 0 = .ok (.aload_n 0, 1) := by decide +kernel
theorem dX4_begin_1 : decode cX4_begin 1 = .ok (.iconst 1, 1) := by decide +kernel
theorem dX4_begin_2 : decode cX4_begin 2 = .ok (.putfield 28, 3) := by decide +kernel
theorem dX4_begin_5 : decode cX4_begin 5 = .ok (.aload_n 0, 1) := by decide +kernel
theorem dX4_begin_6 : decode cX4_begin 6 = .ok (.iconst 0, 1) := by decide +kernel
theorem dX4_begin_7 : decode cX4_begin 7 = .ok (.putfield 32, 3) := by decide +kernel
theorem dX4_begin_10 : decode cX4_begin 10 = .ok (.aload_n 0, 1) := by decide +kernel
theorem dX4_begin_11 : decode cX4_begin 11 = .ok (.iconst 0, 1) := by decide +kernel
theorem dX4_begin_12 : decode cX4_begin 12 = .ok (.putfield 36, 3) := by decide +kernel
theorem dX4_begin_15 : decode cX4_begin 15 = .ok (.aload_n 0, 1) := by decide +kernel
theorem dX4_begin_16 : decode cX4_begin 16 = .ok (.aload_n 0, 1) := by decide +kernel
theorem dX4_begin_17 : decode cX4_begin 17 = .ok (.getfield 24, 3) := by decide +kernel
theorem dX4_begin_20 : decode cX4_begin 20 = .ok (.getfield 39, 3) := by decide +kernel
theorem dX4_begin_23 : decode cX4_begin 23 = .ok (.putfield 44, 3) := by decide +kernel
theorem dX4_begin_26 : decode cX4_begin 26 = .ok (.aload_n 0, 1) := by decide +kernel
theorem dX4_begin_27 : decode cX4_begin 27 = .ok (.aload_n 0, 1) := by decide +kernel
theorem dX4_begin_28 : decode cX4_begin 28 = .ok (.getfield 24, 3) := by decide +kernel
theorem dX4_begin_31 : decode cX4_begin 31 = .ok (.getfield 47, 3) := by decide +kernel
theorem dX4_begin_34 : decode cX4_begin 34 = .ok (.putfield 50, 3) := by decide +kernel
theorem dX4_begin_37 : decode cX4_begin 37 = .ok (.aload_n 0, 1) := by decide +kernel
theorem dX4_begin_38 : decode cX4_begin 38 = .ok (.iconst 0, 1) := by decide +kernel
theorem dX4_begin_39 : decode cX4_begin 39 = .ok (.putfield 53, 3) := by decide +kernel
theorem dX4_begin_42 : decode cX4_begin 42 = .ok (.aload_n 0, 1) := by decide +kernel
theorem dX4_begin_43 : decode cX4_begin 43 = .ok (.iconst 0, 1) := by decide +kernel
theorem dX4_begin_44 : decode cX4_begin 44 = .ok (.putfield 56, 3) := by decide +kernel
theorem dX4_begin_47 : decode cX4_begin 47 = .ok (.aload_n 0, 1) := by decide +kernel
theorem dX4_begin_48 : decode cX4_begin 48 = .ok (.getfield 24, 3) := by decide +kernel
theorem dX4_begin_51 : decode cX4_begin 51 = .ok (.getfield 59, 3) := by decide +kernel
theorem dX4_begin_54 : decode cX4_begin 54 = .ok (.iconst 0, 1) := by decide +kernel
theorem dX4_begin_55 : decode cX4_begin 55 = .ok (.aload_n 0, 1) := by decide +kernel
theorem dX4_begin_56 : decode cX4_begin 56 = .ok (.getfield 9, 3) := by decide +kernel
theorem dX4_begin_59 : decode cX4_begin 59 = .ok (.iconst 0, 1) := by decide +kernel
theorem dX4_begin_60 : decode cX4_begin 60 = .ok (.bipush 6, 2) := by decide +kernel
theorem dX4_begin_62 : decode cX4_begin 62 = .ok (.invokestatic 62, 3) := by decide +kernel
theorem dX4_begin_65 : decode cX4_begin 65 = .ok (.return_, 1) := by decide +kernel
set_option maxRecDepth 20000 in
theorem w_X4_begin_b0 {w : zWd} {X : zX} {l0 : Launch} {r : Unit} {S1 : zMem} (C : zC LC w X l0 cX4_begin RX4 1 1 none) {c0 : Nat} {S : zMem} {ls : Array Slot} (hl : lv_has ls 1 [(0, .ref (w.2.2.1 c0))]) (hk_c0 : c0 < LC.1 ∧ LC.2.1 c0 = 6) (h : X4_begin_b0 c0 S = some (r, S1)) : zV LC w X none S1 S 0 ls [] := by
  unfold X4_begin_b0 at h
  refine v_aload_n 0 C dX4_begin_0 rfl (lv_at hl 0 rfl) ?_
  refine v_iconst 1 C (v := (1 : Int32)) dX4_begin_1 (by decide) ?_
  refine v_putz 2 C dX4_begin_2 fl_X4_28 fp_3_5 rfl hk_c0 h (fun S h => ?_)
  refine v_aload_n 5 C dX4_begin_5 rfl (lv_at hl 0 rfl) ?_
  refine v_iconst 6 C (v := (0 : Int32)) dX4_begin_6 (by decide) ?_
  refine v_puti 7 C dX4_begin_7 fl_X4_32 fp_3_6 rfl hk_c0 h (fun S h => ?_)
  refine v_aload_n 10 C dX4_begin_10 rfl (lv_at hl 0 rfl) ?_
  refine v_iconst 11 C (v := (0 : Int32)) dX4_begin_11 (by decide) ?_
  refine v_puti 12 C dX4_begin_12 fl_X4_36 fp_3_7 rfl hk_c0 h (fun S h => ?_)
  refine v_aload_n 15 C dX4_begin_15 rfl (lv_at hl 0 rfl) ?_
  refine v_aload_n 16 C dX4_begin_16 rfl (lv_at hl 0 rfl) ?_
  refine v_getr 17 (24) C dX4_begin_17 fl_X4_24 rfl hk_c0 (rP0 hk_c0) ?_
  refine v_geti 20 C dX4_begin_20 fl_X4_39 rfl kC_24 h (fun v1 h => ?_)
  refine v_puti 23 C dX4_begin_23 fl_X4_44 fp_3_8 rfl hk_c0 h (fun S h => ?_)
  refine v_aload_n 26 C dX4_begin_26 rfl (lv_at hl 0 rfl) ?_
  refine v_aload_n 27 C dX4_begin_27 rfl (lv_at hl 0 rfl) ?_
  refine v_getr 28 (24) C dX4_begin_28 fl_X4_24 rfl hk_c0 (rP0 hk_c0) ?_
  refine v_geti 31 C dX4_begin_31 fl_X4_47 rfl kC_24 h (fun v2 h => ?_)
  refine v_puti 34 C dX4_begin_34 fl_X4_50 fp_3_9 rfl hk_c0 h (fun S h => ?_)
  refine v_aload_n 37 C dX4_begin_37 rfl (lv_at hl 0 rfl) ?_
  refine v_iconst 38 C (v := (0 : Int32)) dX4_begin_38 (by decide) ?_
  refine v_puti 39 C dX4_begin_39 fl_X4_53 fp_3_10 rfl hk_c0 h (fun S h => ?_)
  refine v_aload_n 42 C dX4_begin_42 rfl (lv_at hl 0 rfl) ?_
  refine v_iconst 43 C (v := (0 : Int32)) dX4_begin_43 (by decide) ?_
  refine v_puti 44 C dX4_begin_44 fl_X4_56 fp_3_11 rfl hk_c0 h (fun S h => ?_)
  refine v_aload_n 47 C dX4_begin_47 rfl (lv_at hl 0 rfl) ?_
  refine v_getr 48 (24) C dX4_begin_48 fl_X4_24 rfl hk_c0 (rP0 hk_c0) ?_
  refine v_getr 51 (25) C dX4_begin_51 fl_X4_59 rfl kC_24 rfl ?_
  refine v_iconst 54 C (v := (0 : Int32)) dX4_begin_54 (by decide) ?_
  refine v_aload_n 55 C dX4_begin_55 rfl (lv_at hl 0 rfl) ?_
  refine v_getr 56 (c0 + 1) C dX4_begin_56 fl_X4_9 rfl hk_c0 (rP1 hk_c0) ?_
  refine v_iconst 59 C (v := (0 : Int32)) dX4_begin_59 (by decide) ?_
  refine v_bipush 60 C (v := (6 : Int32)) dX4_begin_60 (by decide) ?_
  refine v_copy 62 C dX4_begin_62 ml_X4_62 hl.1 (by decide) (Nat.le_of_ble_eq_true rfl) kC_25 (kP1 hk_c0) rfl (nP1 hk_c0) h (fun S h => ?_)
  exact v_return 65 C dX4_begin_65 h
theorem c_X4_begin {w : zWd} {l0 : Launch} {c0 : Nat} {S S1 : zMem} {r : Unit} (hk_c0 : c0 < LC.1 ∧ LC.2.1 c0 = 6) (h : f_X4_begin c0 S = some (r, S1)) : zMet LC w l0 yX4_begin cX4_begin 1 none 1 [.ref (w.2.2.1 c0)] S none S1 :=
  zMet_of (by decide +kernel) (Nat.le_of_ble_eq_true rfl) (fun X ls C hl => w_X4_begin_b0 C hl hk_c0 h)
theorem fl_X8_21 : zFL RX8 21 7 2 := ⟨_, rfl, by decide, zT_of (List.mem_of_getElem? (i := 319) (by decide +kernel)) rfl⟩
theorem fl_X8_146 : zFL RX8 146 5 5 := ⟨_, rfl, by decide, zT_of (List.mem_of_getElem? (i := 121) (by decide +kernel)) rfl⟩
theorem fl_X8_142 : zFL RX8 142 3 5 := ⟨_, rfl, by decide, zT_of (List.mem_of_getElem? (i := 174) (by decide +kernel)) rfl⟩
theorem fl_X8_133 : zFL RX8 133 4 0 := ⟨_, rfl, by decide, zT_of (List.mem_of_getElem? (i := 155) (by decide +kernel)) rfl⟩
theorem ml_X8_136 : Cond.methodLink RX8 136 yX6_become ∈ zT := zT_of (List.mem_of_getElem? (i := 476) (by decide +kernel)) rfl
theorem hy_X6_become : zYv yX6_become cX6_become 2 none 1 := ⟨⟨zT_of (List.mem_of_getElem? (i := 479) (by decide +kernel)) rfl, zT_of (List.mem_of_getElem? (i := 71) (by decide +kernel)) rfl, by decide, by decide +kernel, by decide +kernel, by decide +kernel⟩, zT_of (List.mem_of_getElem? (i := 477) (by decide +kernel)) rfl, zT_of (List.mem_of_getElem? (i := 478) (by decide +kernel)) rfl⟩
theorem fl_X8_37 : zFL RX8 37 7 4 := ⟨_, rfl, by decide, zT_of (List.mem_of_getElem? (i := 321) (by decide +kernel)) rfl⟩
theorem ml_X8_139 : Cond.methodLink RX8 139 yX4_begin ∈ zT := zT_of (List.mem_of_getElem? (i := 481) (by decide +kernel)) rfl
theorem hy_X4_begin : zYv yX4_begin cX4_begin 1 none 0 := ⟨⟨zT_of (List.mem_of_getElem? (i := 484) (by decide +kernel)) rfl, zT_of (List.mem_of_getElem? (i := 73) (by decide +kernel)) rfl, by decide, by decide +kernel, by decide +kernel, by decide +kernel⟩, zT_of (List.mem_of_getElem? (i := 482) (by decide +kernel)) rfl, zT_of (List.mem_of_getElem? (i := 483) (by decide +kernel)) rfl⟩
theorem fl_X8_44 : zFL RX8 44 7 6 := ⟨_, rfl, by decide, zT_of (List.mem_of_getElem? (i := 323) (by decide +kernel)) rfl⟩
theorem dX8_post_0 : decode cX8_post 0 = .ok (.iload_n 1, 1) := by decide +kernel
theorem dX8_post_1 : decode cX8_post 1 = .ok (.invokestatic 126, 3) := by decide +kernel
theorem dX8_post_4 : decode cX8_post 4 = .ok (.ifCond .ne 5, 3) := by decide +kernel
theorem dX8_post_7 : decode cX8_post 7 = .ok (.iconst (-1), 1) := by decide +kernel
theorem dX8_post_8 : decode cX8_post 8 = .ok (.ireturn, 1) := by decide +kernel
theorem dX8_post_9 : decode cX8_post 9 = .ok (.aload_n 0, 1) := by decide +kernel
theorem dX8_post_10 : decode cX8_post 10 = .ok (.getfield 15, 3) := by decide +kernel
theorem dX8_post_13 : decode cX8_post 13 = .ok (.iload_n 1, 1) := by decide +kernel
theorem dX8_post_14 : decode cX8_post 14 = .ok (.aaload, 1) := by decide +kernel
theorem dX8_post_15 : decode cX8_post 15 = .ok (.invokevirtual 92, 3) := by decide +kernel
theorem dX8_post_18 : decode cX8_post 18 = .ok (.ifCond .ne 9, 3) := by decide +kernel
theorem dX8_post_21 : decode cX8_post 21 = .ok (.aload_n 0, 1) := by decide +kernel
theorem dX8_post_22 : decode cX8_post 22 = .ok (.iconst 1, 1) := by decide +kernel
theorem dX8_post_23 : decode cX8_post 23 = .ok (.invokevirtual 84, 3) := by decide +kernel
theorem dX8_post_26 : decode cX8_post 26 = .ok (.ireturn, 1) := by decide +kernel
theorem dX8_post_27 : decode cX8_post 27 = .ok (.aload_n 0, 1) := by decide +kernel
theorem dX8_post_28 : decode cX8_post 28 = .ok (.getfield 28, 3) := by decide +kernel
theorem dX8_post_31 : decode cX8_post 31 = .ok (.aload_n 0, 1) := by decide +kernel
theorem dX8_post_32 : decode cX8_post 32 = .ok (.getfield 15, 3) := by decide +kernel
theorem dX8_post_35 : decode cX8_post 35 = .ok (.iload_n 1, 1) := by decide +kernel
theorem dX8_post_36 : decode cX8_post 36 = .ok (.aaload, 1) := by decide +kernel
theorem dX8_post_37 : decode cX8_post 37 = .ok (.invokevirtual 129, 3) := by decide +kernel
theorem dX8_post_40 : decode cX8_post 40 = .ok (.bipush (-9), 2) := by decide +kernel
theorem dX8_post_42 : decode cX8_post 42 = .ok (.if_icmp .eq 6, 3) := by decide +kernel
theorem dX8_post_45 : decode cX8_post 45 = .ok (.bipush (-4), 2) := by decide +kernel
theorem dX8_post_47 : decode cX8_post 47 = .ok (.ireturn, 1) := by decide +kernel
theorem dX8_post_48 : decode cX8_post 48 = .ok (.aload_n 0, 1) := by decide +kernel
theorem dX8_post_49 : decode cX8_post 49 = .ok (.getfield 21, 3) := by decide +kernel
theorem dX8_post_52 : decode cX8_post 52 = .ok (.aload_n 0, 1) := by decide +kernel
theorem dX8_post_53 : decode cX8_post 53 = .ok (.getfield 28, 3) := by decide +kernel
theorem dX8_post_56 : decode cX8_post 56 = .ok (.getfield 133, 3) := by decide +kernel
theorem dX8_post_59 : decode cX8_post 59 = .ok (.invokevirtual 136, 3) := by decide +kernel
theorem dX8_post_62 : decode cX8_post 62 = .ok (.aload_n 0, 1) := by decide +kernel
theorem dX8_post_63 : decode cX8_post 63 = .ok (.getfield 37, 3) := by decide +kernel
theorem dX8_post_66 : decode cX8_post 66 = .ok (.invokevirtual 139, 3) := by decide +kernel
theorem dX8_post_69 : decode cX8_post 69 = .ok (.aload_n 0, 1) := by decide +kernel
theorem dX8_post_70 : decode cX8_post 70 = .ok (.getfield 44, 3) := by decide +kernel
theorem dX8_post_73 : decode cX8_post 73 = .ok (.astore_n 2, 1) := by decide +kernel
theorem dX8_post_74 : decode cX8_post 74 = .ok (.aload_n 2, 1) := by decide +kernel
theorem dX8_post_75 : decode cX8_post 75 = .ok (.arraylength, 1) := by decide +kernel
theorem dX8_post_76 : decode cX8_post 76 = .ok (.istore_n 3, 1) := by decide +kernel
theorem dX8_post_77 : decode cX8_post 77 = .ok (.iconst 0, 1) := by decide +kernel
theorem dX8_post_78 : decode cX8_post 78 = .ok (.istore 4, 2) := by decide +kernel
theorem dX8_post_80 : decode cX8_post 80 = .ok (.iload 4, 2) := by decide +kernel
theorem dX8_post_82 : decode cX8_post 82 = .ok (.iload_n 3, 1) := by decide +kernel
theorem dX8_post_83 : decode cX8_post 83 = .ok (.if_icmp .ge 21, 3) := by decide +kernel
theorem dX8_post_86 : decode cX8_post 86 = .ok (.aload_n 2, 1) := by decide +kernel
theorem dX8_post_87 : decode cX8_post 87 = .ok (.iload 4, 2) := by decide +kernel
theorem dX8_post_89 : decode cX8_post 89 = .ok (.aaload, 1) := by decide +kernel
theorem dX8_post_90 : decode cX8_post 90 = .ok (.astore 5, 2) := by decide +kernel
theorem dX8_post_92 : decode cX8_post 92 = .ok (.aload 5, 2) := by decide +kernel
theorem dX8_post_94 : decode cX8_post 94 = .ok (.iconst 0, 1) := by decide +kernel
theorem dX8_post_95 : decode cX8_post 95 = .ok (.putfield 142, 3) := by decide +kernel
theorem dX8_post_98 : decode cX8_post 98 = .ok (.iinc 4 1, 3) := by decide +kernel
theorem dX8_post_101 : decode cX8_post 101 = .ok (.goto (-21), 3) := by decide +kernel
theorem dX8_post_104 : decode cX8_post 104 = .ok (.aload_n 0, 1) := by decide +kernel
theorem dX8_post_105 : decode cX8_post 105 = .ok (.getfield 21, 3) := by decide +kernel
theorem dX8_post_108 : decode cX8_post 108 = .ok (.getfield 146, 3) := by decide +kernel
theorem dX8_post_111 : decode cX8_post 111 = .ok (.ireturn, 1) := by decide +kernel
set_option maxRecDepth 20000 in
theorem w_X8_post_b80 {w : zWd} {X : zX} {l0 : Launch} {r : Int32} {S1 : zMem} (C : zC LC w X l0 cX8_post RX8 6 6 (some .int)) {k80 : Int32 → Int32 → zMem → Option (Int32 × zMem)} (hc80 : ∀ (x3 : Int32) (x4 : Int32) (S : zMem) (ls : Array Slot), lv_has ls 6 [(0, .ref (w.2.2.1 0)), (2, .ref (w.2.2.1 3)), (3, .int x3), (4, .int x4)] → k80 x3 x4 S = some (r, S1) → zV LC w X (some (.int r)) S1 S 80 ls []) {x3 : Int32} {x4 : Int32} {S : zMem} {ls : Array Slot} (hl : lv_has ls 6 [(0, .ref (w.2.2.1 0)), (2, .ref (w.2.2.1 3)), (3, .int x3), (4, .int x4)]) (h : X8_post_b80 k80 x3 x4 S = some (r, S1)) : zV LC w X (some (.int r)) S1 S 80 ls [] := by
  unfold X8_post_b80 at h
  refine v_iload 80 C dX8_post_80 (lv_at hl 3 rfl) ?_
  refine v_iload_n 82 C dX8_post_82 rfl (lv_at hl 2 rfl) ?_
  refine v_icmp_ge 83 104 C dX8_post_83 (by decide) h (fun h => ?_) (fun h => ?_)
  · refine v_aload_n 104 C dX8_post_104 rfl (lv_at hl 0 rfl) ?_
    refine v_getr 105 (24) C dX8_post_105 fl_X8_21 rfl kC_0 rfl ?_
    refine v_geti 108 C dX8_post_108 fl_X8_146 rfl kC_24 h (fun v1 h => ?_)
    exact v_ireturn 111 C dX8_post_111 h
  · refine v_aload_n 86 C dX8_post_86 rfl (lv_at hl 1 rfl) ?_
    refine v_iload 87 C dX8_post_87 (lv_at hl 3 rfl) ?_
    refine v_aald 89 (45 + 5 * Int32.toNatClampNeg x4) C dX8_post_89 kC_3 (Or.inr rfl) rfl rfl h (fun hz2 h => ?_)
    refine v_astore 90 C [(5, .ref (w.2.2.1 (45 + 5 * Int32.toNatClampNeg x4))), (0, .ref (w.2.2.1 0)), (2, .ref (w.2.2.1 3)), (3, .int x3), (4, .int x4)] dX8_post_90 hl (by decide) rfl (fun ls hl => ?_)
    refine v_aload 92 C dX8_post_92 (lv_at hl 0 rfl) ?_
    refine v_iconst 94 C (v := (0 : Int32)) dX8_post_94 (by decide) ?_
    refine v_putz 95 C dX8_post_95 fl_X8_142 fp_3_5 rfl (kKpt hz2) h (fun S h => ?_)
    refine v_iinc 98 C (nn := (1 : Int32)) (fun v => [(4, .int v), (5, .ref (w.2.2.1 (45 + 5 * Int32.toNatClampNeg x4))), (0, .ref (w.2.2.1 0)), (2, .ref (w.2.2.1 3)), (3, .int x3)]) dX8_post_98 hl (k := 4) rfl (by decide) (by decide) (fun _ => rfl) h (fun v3 ls hl h => ?_)
    refine v_goto 101 80 C dX8_post_101 (by decide) ?_
    exact hc80 _ _ _ _ (lv_sub hl [2, 3, 4, 0] rfl) h
theorem w_X8_post_l80 {w : zWd} {X : zX} {l0 : Launch} {r : Int32} {S1 : zMem} (C : zC LC w X l0 cX8_post RX8 6 6 (some .int)) : ∀ (n : Nat) (x3 : Int32) (x4 : Int32) (S : zMem) (ls : Array Slot), lv_has ls 6 [(0, .ref (w.2.2.1 0)), (2, .ref (w.2.2.1 3)), (3, .int x3), (4, .int x4)] → X8_post_l80 n x3 x4 S = some (r, S1) → zV LC w X (some (.int r)) S1 S 80 ls [] := by
  intro n
  induction n with
  | zero =>
    intro x3 x4 S ls hl h
    cases (show (none : Option (Int32 × zMem)) = some _ from h)
  | succ n ih =>
    intro x3 x4 S ls hl h
    exact w_X8_post_b80 C ih hl h
set_option maxRecDepth 20000 in
theorem w_X8_post_b0 {w : zWd} {X : zX} {l0 : Launch} {r : Int32} {S1 : zMem} (C : zC LC w X l0 cX8_post RX8 6 6 (some .int)) {x1 : Int32} {S : zMem} {ls : Array Slot} (hl : lv_has ls 6 [(0, .ref (w.2.2.1 0)), (1, .int x1)]) (h : X8_post_b0 x1 S = some (r, S1)) : zV LC w X (some (.int r)) S1 S 0 ls [] := by
  unfold X8_post_b0 at h
  refine v_iload_n 0 C dX8_post_0 rfl (lv_at hl 1 rfl) ?_
  obtain ⟨v1, S, hc, h⟩ := zb_e h
  refine v_callSi 1 C [] dX8_post_1 ml_X8_126 hy_X8_isText (c_X8_isText  hc) (by decide) rfl hl.1 (Nat.le_of_ble_eq_true rfl) rfl ?_
  refine v_if_ne 4 9 C dX8_post_4 (by decide) h (fun h => ?_) (fun h => ?_)
  · refine v_aload_n 9 C dX8_post_9 rfl (lv_at hl 0 rfl) ?_
    refine v_getr 10 (2) C dX8_post_10 fl_X8_15 rfl kC_0 rfl ?_
    refine v_iload_n 13 C dX8_post_13 rfl (lv_at hl 1 rfl) ?_
    refine v_aald 14 (16 + 2 * Int32.toNatClampNeg x1) C dX8_post_14 kC_2 (Or.inl rfl) rfl rfl h (fun hz2 h => ?_)
    obtain ⟨v3, S, hc, h⟩ := zb_e h
    refine v_callVi 15 C (ci := 6) [] dX8_post_15 ml_X8_92 hy_X7_isThere (c_X7_isThere (kTxt hz2) hc) (by decide) rfl hl.1 (kTxt hz2) rfl (Nat.le_of_ble_eq_true rfl) rfl ?_
    refine v_if_ne 18 27 C dX8_post_18 (by decide) h (fun h => ?_) (fun h => ?_)
    · refine v_aload_n 27 C dX8_post_27 rfl (lv_at hl 0 rfl) ?_
      refine v_getr 28 (29) C dX8_post_28 fl_X8_28 rfl kC_0 rfl ?_
      refine v_aload_n 31 C dX8_post_31 rfl (lv_at hl 0 rfl) ?_
      refine v_getr 32 (2) C dX8_post_32 fl_X8_15 rfl kC_0 rfl ?_
      refine v_iload_n 35 C dX8_post_35 rfl (lv_at hl 1 rfl) ?_
      refine v_aald 36 (16 + 2 * Int32.toNatClampNeg x1) C dX8_post_36 kC_2 (Or.inl rfl) rfl rfl h (fun hz4 h => ?_)
      obtain ⟨v5, S, hc, h⟩ := zb_e h
      refine v_callVi 37 C (ci := 4) [] dX8_post_37 ml_X8_129 hy_X5_faultOf (c_X5_faultOf (kTxt hz4) hc) (by decide) rfl hl.1 kC_29 rfl (Nat.le_of_ble_eq_true rfl) rfl ?_
      refine v_bipush 40 C (v := (-9 : Int32)) dX8_post_40 (by decide) ?_
      refine v_icmp_eq 42 48 C dX8_post_42 (by decide) h (fun h => ?_) (fun h => ?_)
      · refine v_aload_n 48 C dX8_post_48 rfl (lv_at hl 0 rfl) ?_
        refine v_getr 49 (24) C dX8_post_49 fl_X8_21 rfl kC_0 rfl ?_
        refine v_aload_n 52 C dX8_post_52 rfl (lv_at hl 0 rfl) ?_
        refine v_getr 53 (29) C dX8_post_53 fl_X8_28 rfl kC_0 rfl ?_
        refine v_getr 56 (30) C dX8_post_56 fl_X8_133 rfl kC_29 rfl ?_
        obtain ⟨v6, S, hc, h⟩ := zb_e h
        refine v_callVv 59 C (ci := 5) [] dX8_post_59 ml_X8_136 hy_X6_become (c_X6_become  hc) (by decide) rfl hl.1 kC_24 rfl (Nat.le_of_ble_eq_true rfl) rfl ?_
        refine v_aload_n 62 C dX8_post_62 rfl (lv_at hl 0 rfl) ?_
        refine v_getr 63 (35) C dX8_post_63 fl_X8_37 rfl kC_0 rfl ?_
        obtain ⟨v7, S, hc, h⟩ := zb_e h
        refine v_callVv 66 C (ci := 3) [] dX8_post_66 ml_X8_139 hy_X4_begin (c_X4_begin kC_35 hc) (by decide) rfl hl.1 kC_35 rfl (Nat.le_of_ble_eq_true rfl) rfl ?_
        refine v_aload_n 69 C dX8_post_69 rfl (lv_at hl 0 rfl) ?_
        refine v_getr 70 (3) C dX8_post_70 fl_X8_44 rfl kC_0 rfl ?_
        refine v_astore_n 73 C [(2, .ref (w.2.2.1 3)), (0, .ref (w.2.2.1 0)), (1, .int x1)] dX8_post_73 rfl hl (by decide) rfl (fun ls hl => ?_)
        refine v_aload_n 74 C dX8_post_74 rfl (lv_at hl 0 rfl) ?_
        refine v_rlen 75 C (v := (3 : Int32)) dX8_post_75 kC_3 (Or.inr rfl) (by decide) ?_
        refine v_istore_n 76 C [(3, .int (3 : Int32)), (2, .ref (w.2.2.1 3)), (0, .ref (w.2.2.1 0)), (1, .int x1)] dX8_post_76 rfl hl (by decide) rfl (fun ls hl => ?_)
        refine v_iconst 77 C (v := (0 : Int32)) dX8_post_77 (by decide) ?_
        refine v_istore 78 C [(4, .int (0 : Int32)), (3, .int (3 : Int32)), (2, .ref (w.2.2.1 3)), (0, .ref (w.2.2.1 0)), (1, .int x1)] dX8_post_78 hl (by decide) rfl (fun ls hl => ?_)
        exact w_X8_post_l80 C zF _ _ _ _ (lv_sub hl [3, 2, 1, 0] rfl) h
      · refine v_bipush 45 C (v := (-4 : Int32)) dX8_post_45 (by decide) ?_
        exact v_ireturn 47 C dX8_post_47 h
    · refine v_aload_n 21 C dX8_post_21 rfl (lv_at hl 0 rfl) ?_
      refine v_iconst 22 C (v := (1 : Int32)) dX8_post_22 (by decide) ?_
      obtain ⟨v8, S, hc, h⟩ := zb_e h
      refine v_callVi 23 C (ci := 7) [] dX8_post_23 ml_X8_84 hy_X8_refuse (c_X8_refuse  hc) (by decide) rfl hl.1 kC_0 rfl (Nat.le_of_ble_eq_true rfl) rfl ?_
      exact v_ireturn 26 C dX8_post_26 h
  · refine v_iconst 7 C (v := (-1 : Int32)) dX8_post_7 (by decide) ?_
    exact v_ireturn 8 C dX8_post_8 h
theorem c_X8_post {w : zWd} {l0 : Launch} {x1 : Int32} {S S1 : zMem} {r : Int32} (h : f_X8_post x1 S = some (r, S1)) : zMet LC w l0 yX8_post cX8_post 6 (some .int) 6 [.ref (w.2.2.1 0), .int x1] S (some (.int r)) S1 :=
  zMet_of (by decide +kernel) (Nat.le_of_ble_eq_true rfl) (fun X ls C hl => w_X8_post_b0 C hl h)
theorem fl_X8_337 : zFL RX8 337 5 4 := ⟨_, rfl, by decide, zT_of (List.mem_of_getElem? (i := 117) (by decide +kernel)) rfl⟩
theorem dX8_isHouse_0 : decode cX8_isHouse 0 = .ok (.iload_n 1, 1) := by decide +kernel
theorem dX8_isHouse_1 : decode cX8_isHouse 1 = .ok (.aload_n 0, 1) := by decide +kernel
theorem dX8_isHouse_2 : decode cX8_isHouse 2 = .ok (.getfield 21, 3) := by decide +kernel
theorem dX8_isHouse_5 : decode cX8_isHouse 5 = .ok (.getfield 337, 3) := by decide +kernel
theorem dX8_isHouse_8 : decode cX8_isHouse 8 = .ok (.iconst 1, 1) := by decide +kernel
theorem dX8_isHouse_9 : decode cX8_isHouse 9 = .ok (.isub, 1) := by decide +kernel
theorem dX8_isHouse_10 : decode cX8_isHouse 10 = .ok (.invokestatic 152, 3) := by decide +kernel
theorem dX8_isHouse_13 : decode cX8_isHouse 13 = .ok (.ireturn, 1) := by decide +kernel
set_option maxRecDepth 20000 in
theorem w_X8_isHouse_b0 {w : zWd} {X : zX} {l0 : Launch} {r : Int32} {S1 : zMem} (C : zC LC w X l0 cX8_isHouse RX8 2 2 (some .boolean)) {x1 : Int32} {S : zMem} {ls : Array Slot} (hl : lv_has ls 2 [(0, .ref (w.2.2.1 0)), (1, .int x1)]) (h : X8_isHouse_b0 x1 S = some (r, S1)) : zV LC w X (some (.int r)) S1 S 0 ls [] := by
  unfold X8_isHouse_b0 at h
  refine v_iload_n 0 C dX8_isHouse_0 rfl (lv_at hl 1 rfl) ?_
  refine v_aload_n 1 C dX8_isHouse_1 rfl (lv_at hl 0 rfl) ?_
  refine v_getr 2 (24) C dX8_isHouse_2 fl_X8_21 rfl kC_0 rfl ?_
  refine v_geti 5 C dX8_isHouse_5 fl_X8_337 rfl kC_24 h (fun v1 h => ?_)
  refine v_iconst 8 C (v := (1 : Int32)) dX8_isHouse_8 (by decide) ?_
  refine v_isub 9 C dX8_isHouse_9 h (fun v2 h => ?_)
  obtain ⟨v3, S, hc, h⟩ := zb_e h
  refine v_callSi 10 C [] dX8_isHouse_10 ml_X8_152 hy_X8_within (c_X8_within  hc) (by decide) rfl hl.1 (Nat.le_of_ble_eq_true rfl) rfl ?_
  exact v_zreturn 13 C dX8_isHouse_13 h
theorem c_X8_isHouse {w : zWd} {l0 : Launch} {x1 : Int32} {S S1 : zMem} {r : Int32} (h : f_X8_isHouse x1 S = some (r, S1)) : zMet LC w l0 yX8_isHouse cX8_isHouse 2 (some .boolean) 2 [.ref (w.2.2.1 0), .int x1] S (some (.int r)) S1 :=
  zMet_of (by decide +kernel) (Nat.le_of_ble_eq_true rfl) (fun X ls C hl => w_X8_isHouse_b0 C hl h)
theorem dX6_lettersTo_0 : decode cX6_lettersTo 0 = .ok (.iconst 0, 1) := by decide +kernel
theorem dX6_lettersTo_1 : decode cX6_lettersTo 1 = .ok (.istore_n 2, 1) := by decide +kernel
theorem dX6_lettersTo_2 : decode cX6_lettersTo 2 = .ok (.iconst 0, 1) := by decide +kernel
theorem dX6_lettersTo_3 : decode cX6_lettersTo 3 = .ok (.istore_n 3, 1) := by decide +kernel
theorem dX6_lettersTo_4 : decode cX6_lettersTo 4 = .ok (.iload_n 3, 1) := by decide +kernel
theorem dX6_lettersTo_5 : decode cX6_lettersTo 5 = .ok (.aload_n 0, 1) := by decide +kernel
theorem dX6_lettersTo_6 : decode cX6_lettersTo 6 = .ok (.getfield 28, 3) := by decide +kernel
theorem dX6_lettersTo_9 : decode cX6_lettersTo 9 = .ok (.if_icmp .ge 25, 3) := by decide +kernel
theorem dX6_lettersTo_12 : decode cX6_lettersTo 12 = .ok (.aload_n 0, 1) := by decide +kernel
theorem dX6_lettersTo_13 : decode cX6_lettersTo 13 = .ok (.getfield 18, 3) := by decide +kernel
theorem dX6_lettersTo_16 : decode cX6_lettersTo 16 = .ok (.iload_n 3, 1) := by decide +kernel
theorem dX6_lettersTo_17 : decode cX6_lettersTo 17 = .ok (.iaload, 1) := by decide +kernel
theorem dX6_lettersTo_18 : decode cX6_lettersTo 18 = .ok (.iload_n 1, 1) := by decide +kernel
theorem dX6_lettersTo_19 : decode cX6_lettersTo 19 = .ok (.if_icmp .ne 9, 3) := by decide +kernel
theorem dX6_lettersTo_22 : decode cX6_lettersTo 22 = .ok (.iload_n 2, 1) := by decide +kernel
theorem dX6_lettersTo_23 : decode cX6_lettersTo 23 = .ok (.iconst 1, 1) := by decide +kernel
theorem dX6_lettersTo_24 : decode cX6_lettersTo 24 = .ok (.iload_n 3, 1) := by decide +kernel
theorem dX6_lettersTo_25 : decode cX6_lettersTo 25 = .ok (.ishl, 1) := by decide +kernel
theorem dX6_lettersTo_26 : decode cX6_lettersTo 26 = .ok (.ior, 1) := by decide +kernel
theorem dX6_lettersTo_27 : decode cX6_lettersTo 27 = .ok (.istore_n 2, 1) := by decide +kernel
theorem dX6_lettersTo_28 : decode cX6_lettersTo 28 = .ok (.iinc 3 1, 3) := by decide +kernel
theorem dX6_lettersTo_31 : decode cX6_lettersTo 31 = .ok (.goto (-27), 3) := by decide +kernel
theorem dX6_lettersTo_34 : decode cX6_lettersTo 34 = .ok (.iload_n 2, 1) := by decide +kernel
theorem dX6_lettersTo_35 : decode cX6_lettersTo 35 = .ok (.ireturn, 1) := by decide +kernel
set_option maxRecDepth 20000 in
theorem w_X6_lettersTo_b28 {w : zWd} {X : zX} {l0 : Launch} {r : Int32} {S1 : zMem} (C : zC LC w X l0 cX6_lettersTo RX6 4 1 (some .int)) {k4 : Int32 → Int32 → Int32 → zMem → Option (Int32 × zMem)} (hc4 : ∀ (x1 : Int32) (x2 : Int32) (x3 : Int32) (S : zMem) (ls : Array Slot), lv_has ls 4 [(0, .ref (w.2.2.1 24)), (1, .int x1), (2, .int x2), (3, .int x3)] → k4 x1 x2 x3 S = some (r, S1) → zV LC w X (some (.int r)) S1 S 4 ls []) {x1 : Int32} {x2 : Int32} {x3 : Int32} {S : zMem} {ls : Array Slot} (hl : lv_has ls 4 [(0, .ref (w.2.2.1 24)), (1, .int x1), (2, .int x2), (3, .int x3)]) (h : X6_lettersTo_b28 k4 x1 x2 x3 S = some (r, S1)) : zV LC w X (some (.int r)) S1 S 28 ls [] := by
  unfold X6_lettersTo_b28 at h
  refine v_iinc 28 C (nn := (1 : Int32)) (fun v => [(3, .int v), (0, .ref (w.2.2.1 24)), (1, .int x1), (2, .int x2)]) dX6_lettersTo_28 hl (k := 3) rfl (by decide) (by decide) (fun _ => rfl) h (fun v1 ls hl h => ?_)
  refine v_goto 31 4 C dX6_lettersTo_31 (by decide) ?_
  exact hc4 _ _ _ _ _ (lv_sub hl [1, 2, 3, 0] rfl) h
set_option maxRecDepth 20000 in
theorem w_X6_lettersTo_b4 {w : zWd} {X : zX} {l0 : Launch} {r : Int32} {S1 : zMem} (C : zC LC w X l0 cX6_lettersTo RX6 4 1 (some .int)) {k4 : Int32 → Int32 → Int32 → zMem → Option (Int32 × zMem)} (hc4 : ∀ (x1 : Int32) (x2 : Int32) (x3 : Int32) (S : zMem) (ls : Array Slot), lv_has ls 4 [(0, .ref (w.2.2.1 24)), (1, .int x1), (2, .int x2), (3, .int x3)] → k4 x1 x2 x3 S = some (r, S1) → zV LC w X (some (.int r)) S1 S 4 ls []) {x1 : Int32} {x2 : Int32} {x3 : Int32} {S : zMem} {ls : Array Slot} (hl : lv_has ls 4 [(0, .ref (w.2.2.1 24)), (1, .int x1), (2, .int x2), (3, .int x3)]) (h : X6_lettersTo_b4 k4 x1 x2 x3 S = some (r, S1)) : zV LC w X (some (.int r)) S1 S 4 ls [] := by
  unfold X6_lettersTo_b4 at h
  refine v_iload_n 4 C dX6_lettersTo_4 rfl (lv_at hl 3 rfl) ?_
  refine v_aload_n 5 C dX6_lettersTo_5 rfl (lv_at hl 0 rfl) ?_
  refine v_geti 6 C dX6_lettersTo_6 fl_X6_28 rfl kC_24 h (fun v1 h => ?_)
  refine v_icmp_ge 9 34 C dX6_lettersTo_9 (by decide) h (fun h => ?_) (fun h => ?_)
  · refine v_iload_n 34 C dX6_lettersTo_34 rfl (lv_at hl 2 rfl) ?_
    exact v_ireturn 35 C dX6_lettersTo_35 h
  · refine v_aload_n 12 C dX6_lettersTo_12 rfl (lv_at hl 0 rfl) ?_
    refine v_getr 13 (27) C dX6_lettersTo_13 fl_X6_18 rfl kC_24 rfl ?_
    refine v_iload_n 16 C dX6_lettersTo_16 rfl (lv_at hl 3 rfl) ?_
    refine v_iald 17 C dX6_lettersTo_17 kC_27 rfl h (fun v2 h => ?_)
    refine v_iload_n 18 C dX6_lettersTo_18 rfl (lv_at hl 1 rfl) ?_
    refine v_icmp_ne 19 28 C dX6_lettersTo_19 (by decide) h (fun h => ?_) (fun h => ?_)
    · exact w_X6_lettersTo_b28 C hc4 (lv_sub hl [0, 1, 2, 3] rfl) h
    · refine v_iload_n 22 C dX6_lettersTo_22 rfl (lv_at hl 2 rfl) ?_
      refine v_iconst 23 C (v := (1 : Int32)) dX6_lettersTo_23 (by decide) ?_
      refine v_iload_n 24 C dX6_lettersTo_24 rfl (lv_at hl 3 rfl) ?_
      refine v_ishl 25 C dX6_lettersTo_25 h (fun v3 h => ?_)
      refine v_ior 26 C dX6_lettersTo_26 h (fun v4 h => ?_)
      refine v_istore_n 27 C [(2, .int v4), (0, .ref (w.2.2.1 24)), (1, .int x1), (3, .int x3)] dX6_lettersTo_27 rfl hl (by decide) rfl (fun ls hl => ?_)
      exact w_X6_lettersTo_b28 C hc4 (lv_sub hl [1, 2, 0, 3] rfl) h
theorem w_X6_lettersTo_l4 {w : zWd} {X : zX} {l0 : Launch} {r : Int32} {S1 : zMem} (C : zC LC w X l0 cX6_lettersTo RX6 4 1 (some .int)) : ∀ (n : Nat) (x1 : Int32) (x2 : Int32) (x3 : Int32) (S : zMem) (ls : Array Slot), lv_has ls 4 [(0, .ref (w.2.2.1 24)), (1, .int x1), (2, .int x2), (3, .int x3)] → X6_lettersTo_l4 n x1 x2 x3 S = some (r, S1) → zV LC w X (some (.int r)) S1 S 4 ls [] := by
  intro n
  induction n with
  | zero =>
    intro x1 x2 x3 S ls hl h
    cases (show (none : Option (Int32 × zMem)) = some _ from h)
  | succ n ih =>
    intro x1 x2 x3 S ls hl h
    exact w_X6_lettersTo_b4 C ih hl h
set_option maxRecDepth 20000 in
theorem w_X6_lettersTo_b0 {w : zWd} {X : zX} {l0 : Launch} {r : Int32} {S1 : zMem} (C : zC LC w X l0 cX6_lettersTo RX6 4 1 (some .int)) {x1 : Int32} {S : zMem} {ls : Array Slot} (hl : lv_has ls 4 [(0, .ref (w.2.2.1 24)), (1, .int x1)]) (h : X6_lettersTo_b0 x1 S = some (r, S1)) : zV LC w X (some (.int r)) S1 S 0 ls [] := by
  unfold X6_lettersTo_b0 at h
  refine v_iconst 0 C (v := (0 : Int32)) dX6_lettersTo_0 (by decide) ?_
  refine v_istore_n 1 C [(2, .int (0 : Int32)), (0, .ref (w.2.2.1 24)), (1, .int x1)] dX6_lettersTo_1 rfl hl (by decide) rfl (fun ls hl => ?_)
  refine v_iconst 2 C (v := (0 : Int32)) dX6_lettersTo_2 (by decide) ?_
  refine v_istore_n 3 C [(3, .int (0 : Int32)), (2, .int (0 : Int32)), (0, .ref (w.2.2.1 24)), (1, .int x1)] dX6_lettersTo_3 rfl hl (by decide) rfl (fun ls hl => ?_)
  exact w_X6_lettersTo_l4 C zF _ _ _ _ _ (lv_sub hl [2, 3, 1, 0] rfl) h
theorem c_X6_lettersTo {w : zWd} {l0 : Launch} {x1 : Int32} {S S1 : zMem} {r : Int32} (h : f_X6_lettersTo x1 S = some (r, S1)) : zMet LC w l0 yX6_lettersTo cX6_lettersTo 4 (some .int) 1 [.ref (w.2.2.1 24), .int x1] S (some (.int r)) S1 :=
  zMet_of (by decide +kernel) (Nat.le_of_ble_eq_true rfl) (fun X ls C hl => w_X6_lettersTo_b0 C hl h)
theorem fl_X8_233 : zFL RX8 233 3 1 := ⟨_, rfl, by decide, zT_of (List.mem_of_getElem? (i := 168) (by decide +kernel)) rfl⟩
theorem ml_X8_358 : Cond.methodLink RX8 358 yX6_lettersTo ∈ zT := zT_of (List.mem_of_getElem? (i := 498) (by decide +kernel)) rfl
theorem hy_X6_lettersTo : zYv yX6_lettersTo cX6_lettersTo 4 (some .int) 1 := ⟨⟨zT_of (List.mem_of_getElem? (i := 501) (by decide +kernel)) rfl, zT_of (List.mem_of_getElem? (i := 71) (by decide +kernel)) rfl, by decide, by decide +kernel, by decide +kernel, by decide +kernel⟩, zT_of (List.mem_of_getElem? (i := 499) (by decide +kernel)) rfl, zT_of (List.mem_of_getElem? (i := 500) (by decide +kernel)) rfl⟩
theorem fl_X8_351 : zFL RX8 351 3 10 := ⟨_, rfl, by decide, zT_of (List.mem_of_getElem? (i := 190) (by decide +kernel)) rfl⟩
theorem ml_X8_361 : Cond.methodLink RX8 361 Lib.Math.abs.name ∈ zT := zT_of (List.mem_of_getElem? (i := 502) (by decide +kernel)) rfl
theorem dX8_ofHouse_0 : decode cX8_ofHouse 0 = .ok (.iload_n 2, 1) := by decide +kernel
theorem dX8_ofHouse_1 : decode cX8_ofHouse 1 = .ok (.lookupswitch 46 #[(0, 27), (1, 37)], 27) := by decide +kernel
theorem dX8_ofHouse_28 : decode cX8_ofHouse 28 = .ok (.aload_n 0, 1) := by decide +kernel
theorem dX8_ofHouse_29 : decode cX8_ofHouse 29 = .ok (.getfield 37, 3) := by decide +kernel
theorem dX8_ofHouse_32 : decode cX8_ofHouse 32 = .ok (.getfield 233, 3) := by decide +kernel
theorem dX8_ofHouse_35 : decode cX8_ofHouse 35 = .ok (.iload_n 1, 1) := by decide +kernel
theorem dX8_ofHouse_36 : decode cX8_ofHouse 36 = .ok (.iaload, 1) := by decide +kernel
theorem dX8_ofHouse_37 : decode cX8_ofHouse 37 = .ok (.ireturn, 1) := by decide +kernel
theorem dX8_ofHouse_38 : decode cX8_ofHouse 38 = .ok (.aload_n 0, 1) := by decide +kernel
theorem dX8_ofHouse_39 : decode cX8_ofHouse 39 = .ok (.getfield 21, 3) := by decide +kernel
theorem dX8_ofHouse_42 : decode cX8_ofHouse 42 = .ok (.iload_n 1, 1) := by decide +kernel
theorem dX8_ofHouse_43 : decode cX8_ofHouse 43 = .ok (.invokevirtual 358, 3) := by decide +kernel
theorem dX8_ofHouse_46 : decode cX8_ofHouse 46 = .ok (.ireturn, 1) := by decide +kernel
theorem dX8_ofHouse_47 : decode cX8_ofHouse 47 = .ok (.iload_n 1, 1) := by decide +kernel
theorem dX8_ofHouse_48 : decode cX8_ofHouse 48 = .ok (.aload_n 0, 1) := by decide +kernel
theorem dX8_ofHouse_49 : decode cX8_ofHouse 49 = .ok (.getfield 37, 3) := by decide +kernel
theorem dX8_ofHouse_52 : decode cX8_ofHouse 52 = .ok (.getfield 351, 3) := by decide +kernel
theorem dX8_ofHouse_55 : decode cX8_ofHouse 55 = .ok (.isub, 1) := by decide +kernel
theorem dX8_ofHouse_56 : decode cX8_ofHouse 56 = .ok (.invokestatic 361, 3) := by decide +kernel
theorem dX8_ofHouse_59 : decode cX8_ofHouse 59 = .ok (.ireturn, 1) := by decide +kernel
set_option maxRecDepth 20000 in
theorem w_X8_ofHouse_b0 {w : zWd} {X : zX} {l0 : Launch} {r : Int32} {S1 : zMem} (C : zC LC w X l0 cX8_ofHouse RX8 3 2 (some .int)) {x1 : Int32} {x2 : Int32} {S : zMem} {ls : Array Slot} (hl : lv_has ls 3 [(0, .ref (w.2.2.1 0)), (1, .int x1), (2, .int x2)]) (h : X8_ofHouse_b0 x1 x2 S = some (r, S1)) : zV LC w X (some (.int r)) S1 S 0 ls [] := by
  unfold X8_ofHouse_b0 at h
  refine v_iload_n 0 C dX8_ofHouse_0 rfl (lv_at hl 2 rfl) ?_
  refine v_ite h (fun hq2 h => ?_) (fun hq2 h => ?_)
  · refine v_look 1 28 C (x := x2) (off := 27) dX8_ofHouse_1 (by decide) (by rw [hq2]; rfl) (by decide) ?_
    refine v_aload_n 28 C dX8_ofHouse_28 rfl (lv_at hl 0 rfl) ?_
    refine v_getr 29 (35) C dX8_ofHouse_29 fl_X8_37 rfl kC_0 rfl ?_
    refine v_getr 32 (36) C dX8_ofHouse_32 fl_X8_233 rfl kC_35 rfl ?_
    refine v_iload_n 35 C dX8_ofHouse_35 rfl (lv_at hl 1 rfl) ?_
    refine v_iald 36 C dX8_ofHouse_36 kC_36 rfl h (fun v1 h => ?_)
    exact v_ireturn 37 C dX8_ofHouse_37 h
  · refine v_ite h (fun hq4 h => ?_) (fun hq4 h => ?_)
    · refine v_look 1 38 C (x := x2) (off := 37) dX8_ofHouse_1 (by decide) (by rw [hq4]; rfl) (by decide) ?_
      refine v_aload_n 38 C dX8_ofHouse_38 rfl (lv_at hl 0 rfl) ?_
      refine v_getr 39 (24) C dX8_ofHouse_39 fl_X8_21 rfl kC_0 rfl ?_
      refine v_iload_n 42 C dX8_ofHouse_42 rfl (lv_at hl 1 rfl) ?_
      obtain ⟨v3, S, hc, h⟩ := zb_e h
      refine v_callVi 43 C (ci := 5) [] dX8_ofHouse_43 ml_X8_358 hy_X6_lettersTo (c_X6_lettersTo  hc) (by decide) rfl hl.1 kC_24 rfl (Nat.le_of_ble_eq_true rfl) rfl ?_
      exact v_ireturn 46 C dX8_ofHouse_46 h
    · refine v_look 1 47 C (x := x2) (off := 46) dX8_ofHouse_1 (by decide) (by rw [lv_osw hq2 (by decide)]; rw [lv_osw hq4 (by decide)]; rfl) (by decide) ?_
      refine v_iload_n 47 C dX8_ofHouse_47 rfl (lv_at hl 1 rfl) ?_
      refine v_aload_n 48 C dX8_ofHouse_48 rfl (lv_at hl 0 rfl) ?_
      refine v_getr 49 (35) C dX8_ofHouse_49 fl_X8_37 rfl kC_0 rfl ?_
      refine v_geti 52 C dX8_ofHouse_52 fl_X8_351 rfl kC_35 h (fun v5 h => ?_)
      refine v_isub 55 C dX8_ofHouse_55 h (fun v6 h => ?_)
      refine v_mabs 56 C dX8_ofHouse_56 ml_X8_361 hl.1 (by decide) (Nat.le_of_ble_eq_true rfl) h (fun v7 h => ?_)
      exact v_ireturn 59 C dX8_ofHouse_59 h
theorem c_X8_ofHouse {w : zWd} {l0 : Launch} {x1 : Int32} {x2 : Int32} {S S1 : zMem} {r : Int32} (h : f_X8_ofHouse x1 x2 S = some (r, S1)) : zMet LC w l0 yX8_ofHouse cX8_ofHouse 3 (some .int) 2 [.ref (w.2.2.1 0), .int x1, .int x2] S (some (.int r)) S1 :=
  zMet_of (by decide +kernel) (Nat.le_of_ble_eq_true rfl) (fun X ls C hl => w_X8_ofHouse_b0 C hl h)
end
