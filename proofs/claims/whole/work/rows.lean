section
-- ===== PART A: goes FIRST, ahead of the names: the tables' words, and 'selects' of the private methods out of them =====
/-- a private method of a class that the tables say can be made, by its rows of tables_1 -/
def lw_okq (q : MethodName × Nat) : Prop := (q.1.cls ≠ "java/lang/invoke/MethodHandle" ∧ q.1.cls ≠ "java/lang/invoke/VarHandle") ∧ Cond.instantiable q.1.cls q.2 ∈ tables_1 ∧ Cond.privateMethod q.1 ∈ tables_1 ∧ Cond.instanceMethod q.1 ∈ tables_1
theorem lw_p0 : lw_okq (⟨"RopeLine", "faulted", "(I)I"⟩, 9) := ⟨⟨by decide +kernel, by decide +kernel⟩, List.mem_of_getElem? (i := 11) (by decide +kernel), List.mem_of_getElem? (i := 297) (by decide +kernel), List.mem_of_getElem? (i := 298) (by decide +kernel)⟩
theorem lw_p1 : lw_okq (⟨"RopeLine$Text", "takes", "(I)Z"⟩, 11) := ⟨⟨by decide +kernel, by decide +kernel⟩, List.mem_of_getElem? (i := 40) (by decide +kernel), List.mem_of_getElem? (i := 314) (by decide +kernel), List.mem_of_getElem? (i := 315) (by decide +kernel)⟩
theorem lw_p2 : lw_okq (⟨"RopeLine$Text", "codeAtNext", "()I"⟩, 11) := ⟨⟨by decide +kernel, by decide +kernel⟩, List.mem_of_getElem? (i := 40) (by decide +kernel), List.mem_of_getElem? (i := 318) (by decide +kernel), List.mem_of_getElem? (i := 319) (by decide +kernel)⟩
theorem lw_p3 : lw_okq (⟨"RopeLine$Text", "takesNumber", "(II)Z"⟩, 11) := ⟨⟨by decide +kernel, by decide +kernel⟩, List.mem_of_getElem? (i := 40) (by decide +kernel), List.mem_of_getElem? (i := 323) (by decide +kernel), List.mem_of_getElem? (i := 324) (by decide +kernel)⟩
theorem lw_p4 : lw_okq (⟨"RopeLine$Text", "isDigitNext", "()Z"⟩, 11) := ⟨⟨by decide +kernel, by decide +kernel⟩, List.mem_of_getElem? (i := 40) (by decide +kernel), List.mem_of_getElem? (i := 327) (by decide +kernel), List.mem_of_getElem? (i := 328) (by decide +kernel)⟩
theorem lw_p5 : lw_okq (⟨"RopeLine$Text", "takesSort", "(I)Z"⟩, 11) := ⟨⟨by decide +kernel, by decide +kernel⟩, List.mem_of_getElem? (i := 40) (by decide +kernel), List.mem_of_getElem? (i := 332) (by decide +kernel), List.mem_of_getElem? (i := 333) (by decide +kernel)⟩
theorem lw_p6 : lw_okq (⟨"RopeLine$Lengths", "weigh", "()V"⟩, 7) := ⟨⟨by decide +kernel, by decide +kernel⟩, List.mem_of_getElem? (i := 140) (by decide +kernel), List.mem_of_getElem? (i := 426) (by decide +kernel), List.mem_of_getElem? (i := 427) (by decide +kernel)⟩
theorem lw_p7 : lw_okq (⟨"RopeLine$Lengths", "grows", "(I)J"⟩, 7) := ⟨⟨by decide +kernel, by decide +kernel⟩, List.mem_of_getElem? (i := 140) (by decide +kernel), List.mem_of_getElem? (i := 433) (by decide +kernel), List.mem_of_getElem? (i := 434) (by decide +kernel)⟩
theorem lw_p8 : lw_okq (⟨"RopeLine$Lengths", "shrinks", "(I)J"⟩, 7) := ⟨⟨by decide +kernel, by decide +kernel⟩, List.mem_of_getElem? (i := 140) (by decide +kernel), List.mem_of_getElem? (i := 441) (by decide +kernel), List.mem_of_getElem? (i := 442) (by decide +kernel)⟩
theorem lw_p9 : lw_okq (⟨"RopeLine", "barFor", "(II)I"⟩, 9) := ⟨⟨by decide +kernel, by decide +kernel⟩, List.mem_of_getElem? (i := 11) (by decide +kernel), List.mem_of_getElem? (i := 465) (by decide +kernel), List.mem_of_getElem? (i := 466) (by decide +kernel)⟩
theorem lw_p10 : lw_okq (⟨"RopeLine$Lengths", "goOn", "()V"⟩, 7) := ⟨⟨by decide +kernel, by decide +kernel⟩, List.mem_of_getElem? (i := 140) (by decide +kernel), List.mem_of_getElem? (i := 513) (by decide +kernel), List.mem_of_getElem? (i := 514) (by decide +kernel)⟩
theorem lw_p11 : lw_okq (⟨"RopeLine", "mendsAll", "(I)Z"⟩, 9) := ⟨⟨by decide +kernel, by decide +kernel⟩, List.mem_of_getElem? (i := 11) (by decide +kernel), List.mem_of_getElem? (i := 542) (by decide +kernel), List.mem_of_getElem? (i := 543) (by decide +kernel)⟩
theorem lw_p12 : lw_okq (⟨"RopeLine", "paysBlind", "(I)Z"⟩, 9) := ⟨⟨by decide +kernel, by decide +kernel⟩, List.mem_of_getElem? (i := 11) (by decide +kernel), List.mem_of_getElem? (i := 559) (by decide +kernel), List.mem_of_getElem? (i := 560) (by decide +kernel)⟩
theorem lw_p13 : lw_okq (⟨"RopeLine$Queue", "worthOf", "(ILRopeLine$Place;)I"⟩, 9) := ⟨⟨by decide +kernel, by decide +kernel⟩, List.mem_of_getElem? (i := 203) (by decide +kernel), List.mem_of_getElem? (i := 590) (by decide +kernel), List.mem_of_getElem? (i := 591) (by decide +kernel)⟩
theorem lw_p14 : lw_okq (⟨"RopeLine", "isKind", "(II)Z"⟩, 9) := ⟨⟨by decide +kernel, by decide +kernel⟩, List.mem_of_getElem? (i := 11) (by decide +kernel), List.mem_of_getElem? (i := 615) (by decide +kernel), List.mem_of_getElem? (i := 616) (by decide +kernel)⟩
theorem lw_p15 : lw_okq (⟨"RopeLine$Queue", "envies", "(II)Z"⟩, 9) := ⟨⟨by decide +kernel, by decide +kernel⟩, List.mem_of_getElem? (i := 203) (by decide +kernel), List.mem_of_getElem? (i := 640) (by decide +kernel), List.mem_of_getElem? (i := 641) (by decide +kernel)⟩
def lw_privs_1 : List (MethodName × Nat) := [(⟨"RopeLine", "faulted", "(I)I"⟩, 9), (⟨"RopeLine$Text", "takes", "(I)Z"⟩, 11), (⟨"RopeLine$Text", "codeAtNext", "()I"⟩, 11), (⟨"RopeLine$Text", "takesNumber", "(II)Z"⟩, 11), (⟨"RopeLine$Text", "isDigitNext", "()Z"⟩, 11), (⟨"RopeLine$Text", "takesSort", "(I)Z"⟩, 11), (⟨"RopeLine$Lengths", "weigh", "()V"⟩, 7), (⟨"RopeLine$Lengths", "grows", "(I)J"⟩, 7), (⟨"RopeLine$Lengths", "shrinks", "(I)J"⟩, 7), (⟨"RopeLine", "barFor", "(II)I"⟩, 9), (⟨"RopeLine$Lengths", "goOn", "()V"⟩, 7), (⟨"RopeLine", "mendsAll", "(I)Z"⟩, 9), (⟨"RopeLine", "paysBlind", "(I)Z"⟩, 9), (⟨"RopeLine$Queue", "worthOf", "(ILRopeLine$Place;)I"⟩, 9), (⟨"RopeLine", "isKind", "(II)Z"⟩, 9), (⟨"RopeLine$Queue", "envies", "(II)Z"⟩, 9)]
theorem lw_r1 : ∀ q ∈ lw_privs_1, lw_okq q := List.forall_mem_cons.mpr ⟨lw_p0, List.forall_mem_cons.mpr ⟨lw_p1, List.forall_mem_cons.mpr ⟨lw_p2, List.forall_mem_cons.mpr ⟨lw_p3, List.forall_mem_cons.mpr ⟨lw_p4, List.forall_mem_cons.mpr ⟨lw_p5, List.forall_mem_cons.mpr ⟨lw_p6, List.forall_mem_cons.mpr ⟨lw_p7, List.forall_mem_cons.mpr ⟨lw_p8, List.forall_mem_cons.mpr ⟨lw_p9, List.forall_mem_cons.mpr ⟨lw_p10, List.forall_mem_cons.mpr ⟨lw_p11, List.forall_mem_cons.mpr ⟨lw_p12, List.forall_mem_cons.mpr ⟨lw_p13, List.forall_mem_cons.mpr ⟨lw_p14, List.forall_mem_cons.mpr ⟨lw_p15, fun _ h => absurd h List.not_mem_nil⟩⟩⟩⟩⟩⟩⟩⟩⟩⟩⟩⟩⟩⟩⟩⟩
theorem lw_p16 : lw_okq (⟨"RopeLine", "lost", "(I)J"⟩, 9) := ⟨⟨by decide +kernel, by decide +kernel⟩, List.mem_of_getElem? (i := 11) (by decide +kernel), List.mem_of_getElem? (i := 673) (by decide +kernel), List.mem_of_getElem? (i := 674) (by decide +kernel)⟩
theorem lw_p17 : lw_okq (⟨"RopeLine", "toldByDone", "(I)I"⟩, 9) := ⟨⟨by decide +kernel, by decide +kernel⟩, List.mem_of_getElem? (i := 11) (by decide +kernel), List.mem_of_getElem? (i := 685) (by decide +kernel), List.mem_of_getElem? (i := 686) (by decide +kernel)⟩
theorem lw_p18 : lw_okq (⟨"RopeLine", "leaveNumber", "(I)V"⟩, 9) := ⟨⟨by decide +kernel, by decide +kernel⟩, List.mem_of_getElem? (i := 11) (by decide +kernel), List.mem_of_getElem? (i := 689) (by decide +kernel), List.mem_of_getElem? (i := 690) (by decide +kernel)⟩
theorem lw_p19 : lw_okq (⟨"RopeLine", "toldByStands", "(I)I"⟩, 9) := ⟨⟨by decide +kernel, by decide +kernel⟩, List.mem_of_getElem? (i := 11) (by decide +kernel), List.mem_of_getElem? (i := 693) (by decide +kernel), List.mem_of_getElem? (i := 694) (by decide +kernel)⟩
theorem lw_p20 : lw_okq (⟨"RopeLine", "toldByComer", "(I)I"⟩, 9) := ⟨⟨by decide +kernel, by decide +kernel⟩, List.mem_of_getElem? (i := 11) (by decide +kernel), List.mem_of_getElem? (i := 697) (by decide +kernel), List.mem_of_getElem? (i := 698) (by decide +kernel)⟩
theorem lw_p21 : lw_okq (⟨"RopeLine", "calledByDone", "()I"⟩, 9) := ⟨⟨by decide +kernel, by decide +kernel⟩, List.mem_of_getElem? (i := 11) (by decide +kernel), List.mem_of_getElem? (i := 705) (by decide +kernel), List.mem_of_getElem? (i := 706) (by decide +kernel)⟩
theorem lw_p22 : lw_okq (⟨"RopeLine", "calledByLent", "(I)I"⟩, 9) := ⟨⟨by decide +kernel, by decide +kernel⟩, List.mem_of_getElem? (i := 11) (by decide +kernel), List.mem_of_getElem? (i := 709) (by decide +kernel), List.mem_of_getElem? (i := 710) (by decide +kernel)⟩
theorem lw_p23 : lw_okq (⟨"RopeLineModel", "fails", "(I)I"⟩, 40) := ⟨⟨by decide +kernel, by decide +kernel⟩, List.mem_of_getElem? (i := 733) (by decide +kernel), List.mem_of_getElem? (i := 873) (by decide +kernel), List.mem_of_getElem? (i := 874) (by decide +kernel)⟩
theorem lw_p24 : lw_okq (⟨"RopeLineModel", "readsAll", "()Z"⟩, 40) := ⟨⟨by decide +kernel, by decide +kernel⟩, List.mem_of_getElem? (i := 733) (by decide +kernel), List.mem_of_getElem? (i := 877) (by decide +kernel), List.mem_of_getElem? (i := 878) (by decide +kernel)⟩
theorem lw_p25 : lw_okq (⟨"RopeLineModel", "readsLetter", "(I)Z"⟩, 40) := ⟨⟨by decide +kernel, by decide +kernel⟩, List.mem_of_getElem? (i := 733) (by decide +kernel), List.mem_of_getElem? (i := 881) (by decide +kernel), List.mem_of_getElem? (i := 882) (by decide +kernel)⟩
theorem lw_p26 : lw_okq (⟨"RopeLineModel", "codeAt", "()I"⟩, 40) := ⟨⟨by decide +kernel, by decide +kernel⟩, List.mem_of_getElem? (i := 733) (by decide +kernel), List.mem_of_getElem? (i := 885) (by decide +kernel), List.mem_of_getElem? (i := 886) (by decide +kernel)⟩
theorem lw_p27 : lw_okq (⟨"RopeLineModel", "readsNumber", "(II)I"⟩, 40) := ⟨⟨by decide +kernel, by decide +kernel⟩, List.mem_of_getElem? (i := 733) (by decide +kernel), List.mem_of_getElem? (i := 889) (by decide +kernel), List.mem_of_getElem? (i := 890) (by decide +kernel)⟩
theorem lw_p28 : lw_okq (⟨"RopeLineModel", "readsSort", "()Z"⟩, 40) := ⟨⟨by decide +kernel, by decide +kernel⟩, List.mem_of_getElem? (i := 733) (by decide +kernel), List.mem_of_getElem? (i := 893) (by decide +kernel), List.mem_of_getElem? (i := 894) (by decide +kernel)⟩
theorem lw_p29 : lw_okq (⟨"RopeLineModel", "allTwelfths", "()I"⟩, 40) := ⟨⟨by decide +kernel, by decide +kernel⟩, List.mem_of_getElem? (i := 733) (by decide +kernel), List.mem_of_getElem? (i := 901) (by decide +kernel), List.mem_of_getElem? (i := 902) (by decide +kernel)⟩
theorem lw_p30 : lw_okq (⟨"RopeLineModel", "isSort", "(I)Z"⟩, 40) := ⟨⟨by decide +kernel, by decide +kernel⟩, List.mem_of_getElem? (i := 733) (by decide +kernel), List.mem_of_getElem? (i := 909) (by decide +kernel), List.mem_of_getElem? (i := 910) (by decide +kernel)⟩
theorem lw_p31 : lw_okq (⟨"RopeLineModel", "hisBar", "(IIII)I"⟩, 40) := ⟨⟨by decide +kernel, by decide +kernel⟩, List.mem_of_getElem? (i := 733) (by decide +kernel), List.mem_of_getElem? (i := 913) (by decide +kernel), List.mem_of_getElem? (i := 914) (by decide +kernel)⟩
def lw_privs_2 : List (MethodName × Nat) := [(⟨"RopeLine", "lost", "(I)J"⟩, 9), (⟨"RopeLine", "toldByDone", "(I)I"⟩, 9), (⟨"RopeLine", "leaveNumber", "(I)V"⟩, 9), (⟨"RopeLine", "toldByStands", "(I)I"⟩, 9), (⟨"RopeLine", "toldByComer", "(I)I"⟩, 9), (⟨"RopeLine", "calledByDone", "()I"⟩, 9), (⟨"RopeLine", "calledByLent", "(I)I"⟩, 9), (⟨"RopeLineModel", "fails", "(I)I"⟩, 40), (⟨"RopeLineModel", "readsAll", "()Z"⟩, 40), (⟨"RopeLineModel", "readsLetter", "(I)Z"⟩, 40), (⟨"RopeLineModel", "codeAt", "()I"⟩, 40), (⟨"RopeLineModel", "readsNumber", "(II)I"⟩, 40), (⟨"RopeLineModel", "readsSort", "()Z"⟩, 40), (⟨"RopeLineModel", "allTwelfths", "()I"⟩, 40), (⟨"RopeLineModel", "isSort", "(I)Z"⟩, 40), (⟨"RopeLineModel", "hisBar", "(IIII)I"⟩, 40)]
theorem lw_r2 : ∀ q ∈ lw_privs_2, lw_okq q := List.forall_mem_cons.mpr ⟨lw_p16, List.forall_mem_cons.mpr ⟨lw_p17, List.forall_mem_cons.mpr ⟨lw_p18, List.forall_mem_cons.mpr ⟨lw_p19, List.forall_mem_cons.mpr ⟨lw_p20, List.forall_mem_cons.mpr ⟨lw_p21, List.forall_mem_cons.mpr ⟨lw_p22, List.forall_mem_cons.mpr ⟨lw_p23, List.forall_mem_cons.mpr ⟨lw_p24, List.forall_mem_cons.mpr ⟨lw_p25, List.forall_mem_cons.mpr ⟨lw_p26, List.forall_mem_cons.mpr ⟨lw_p27, List.forall_mem_cons.mpr ⟨lw_p28, List.forall_mem_cons.mpr ⟨lw_p29, List.forall_mem_cons.mpr ⟨lw_p30, List.forall_mem_cons.mpr ⟨lw_p31, fun _ h => absurd h List.not_mem_nil⟩⟩⟩⟩⟩⟩⟩⟩⟩⟩⟩⟩⟩⟩⟩⟩
theorem lw_p32 : lw_okq (⟨"RopeLineModel", "toldMinutes", "(III)I"⟩, 40) := ⟨⟨by decide +kernel, by decide +kernel⟩, List.mem_of_getElem? (i := 733) (by decide +kernel), List.mem_of_getElem? (i := 917) (by decide +kernel), List.mem_of_getElem? (i := 918) (by decide +kernel)⟩
theorem lw_p33 : lw_okq (⟨"RopeLineModel", "layRun", "([I)V"⟩, 40) := ⟨⟨by decide +kernel, by decide +kernel⟩, List.mem_of_getElem? (i := 733) (by decide +kernel), List.mem_of_getElem? (i := 941) (by decide +kernel), List.mem_of_getElem? (i := 942) (by decide +kernel)⟩
theorem lw_p34 : lw_okq (⟨"RopeLineModel", "layJoins", "([I)V"⟩, 40) := ⟨⟨by decide +kernel, by decide +kernel⟩, List.mem_of_getElem? (i := 733) (by decide +kernel), List.mem_of_getElem? (i := 945) (by decide +kernel), List.mem_of_getElem? (i := 946) (by decide +kernel)⟩
theorem lw_p35 : lw_okq (⟨"RopeLineModel", "layWeights", "(I)V"⟩, 40) := ⟨⟨by decide +kernel, by decide +kernel⟩, List.mem_of_getElem? (i := 733) (by decide +kernel), List.mem_of_getElem? (i := 950) (by decide +kernel), List.mem_of_getElem? (i := 951) (by decide +kernel)⟩
theorem lw_p36 : lw_okq (⟨"RopeLineModel", "allWeights", "()J"⟩, 40) := ⟨⟨by decide +kernel, by decide +kernel⟩, List.mem_of_getElem? (i := 733) (by decide +kernel), List.mem_of_getElem? (i := 954) (by decide +kernel), List.mem_of_getElem? (i := 955) (by decide +kernel)⟩
theorem lw_p37 : lw_okq (⟨"RopeLineModel", "share", "(JJ)V"⟩, 40) := ⟨⟨by decide +kernel, by decide +kernel⟩, List.mem_of_getElem? (i := 733) (by decide +kernel), List.mem_of_getElem? (i := 958) (by decide +kernel), List.mem_of_getElem? (i := 959) (by decide +kernel)⟩
theorem lw_p38 : lw_okq (⟨"RopeLineModel", "told", "(I)J"⟩, 40) := ⟨⟨by decide +kernel, by decide +kernel⟩, List.mem_of_getElem? (i := 733) (by decide +kernel), List.mem_of_getElem? (i := 965) (by decide +kernel), List.mem_of_getElem? (i := 966) (by decide +kernel)⟩
theorem lw_p39 : lw_okq (⟨"RopeLineModel", "meanWeights", "()J"⟩, 40) := ⟨⟨by decide +kernel, by decide +kernel⟩, List.mem_of_getElem? (i := 733) (by decide +kernel), List.mem_of_getElem? (i := 973) (by decide +kernel), List.mem_of_getElem? (i := 974) (by decide +kernel)⟩
theorem lw_p40 : lw_okq (⟨"RopeLineModel", "metAt", "(I)J"⟩, 40) := ⟨⟨by decide +kernel, by decide +kernel⟩, List.mem_of_getElem? (i := 733) (by decide +kernel), List.mem_of_getElem? (i := 981) (by decide +kernel), List.mem_of_getElem? (i := 982) (by decide +kernel)⟩
theorem lw_p41 : lw_okq (⟨"RopeLineModel", "layGain", "([I)V"⟩, 40) := ⟨⟨by decide +kernel, by decide +kernel⟩, List.mem_of_getElem? (i := 733) (by decide +kernel), List.mem_of_getElem? (i := 1002) (by decide +kernel), List.mem_of_getElem? (i := 1003) (by decide +kernel)⟩
theorem lw_p42 : lw_okq (⟨"RopeLineModel", "findBest", "()V"⟩, 40) := ⟨⟨by decide +kernel, by decide +kernel⟩, List.mem_of_getElem? (i := 733) (by decide +kernel), List.mem_of_getElem? (i := 1010) (by decide +kernel), List.mem_of_getElem? (i := 1011) (by decide +kernel)⟩
theorem lw_p43 : lw_okq (⟨"RopeLineModel", "allRows", "()I"⟩, 40) := ⟨⟨by decide +kernel, by decide +kernel⟩, List.mem_of_getElem? (i := 733) (by decide +kernel), List.mem_of_getElem? (i := 1014) (by decide +kernel), List.mem_of_getElem? (i := 1015) (by decide +kernel)⟩
theorem lw_p44 : lw_okq (⟨"RopeLineModel", "layRow", "(I)V"⟩, 40) := ⟨⟨by decide +kernel, by decide +kernel⟩, List.mem_of_getElem? (i := 733) (by decide +kernel), List.mem_of_getElem? (i := 1018) (by decide +kernel), List.mem_of_getElem? (i := 1019) (by decide +kernel)⟩
theorem lw_p45 : lw_okq (⟨"RopeLineModel", "layBlind", "(I)V"⟩, 40) := ⟨⟨by decide +kernel, by decide +kernel⟩, List.mem_of_getElem? (i := 733) (by decide +kernel), List.mem_of_getElem? (i := 1044) (by decide +kernel), List.mem_of_getElem? (i := 1045) (by decide +kernel)⟩
theorem lw_p46 : lw_okq (⟨"RopeLineModel", "sortBy", "(I)I"⟩, 40) := ⟨⟨by decide +kernel, by decide +kernel⟩, List.mem_of_getElem? (i := 733) (by decide +kernel), List.mem_of_getElem? (i := 1060) (by decide +kernel), List.mem_of_getElem? (i := 1061) (by decide +kernel)⟩
theorem lw_p47 : lw_okq (⟨"RopeLineModel", "nextServed", "()I"⟩, 40) := ⟨⟨by decide +kernel, by decide +kernel⟩, List.mem_of_getElem? (i := 733) (by decide +kernel), List.mem_of_getElem? (i := 1064) (by decide +kernel), List.mem_of_getElem? (i := 1065) (by decide +kernel)⟩
def lw_privs_3 : List (MethodName × Nat) := [(⟨"RopeLineModel", "toldMinutes", "(III)I"⟩, 40), (⟨"RopeLineModel", "layRun", "([I)V"⟩, 40), (⟨"RopeLineModel", "layJoins", "([I)V"⟩, 40), (⟨"RopeLineModel", "layWeights", "(I)V"⟩, 40), (⟨"RopeLineModel", "allWeights", "()J"⟩, 40), (⟨"RopeLineModel", "share", "(JJ)V"⟩, 40), (⟨"RopeLineModel", "told", "(I)J"⟩, 40), (⟨"RopeLineModel", "meanWeights", "()J"⟩, 40), (⟨"RopeLineModel", "metAt", "(I)J"⟩, 40), (⟨"RopeLineModel", "layGain", "([I)V"⟩, 40), (⟨"RopeLineModel", "findBest", "()V"⟩, 40), (⟨"RopeLineModel", "allRows", "()I"⟩, 40), (⟨"RopeLineModel", "layRow", "(I)V"⟩, 40), (⟨"RopeLineModel", "layBlind", "(I)V"⟩, 40), (⟨"RopeLineModel", "sortBy", "(I)I"⟩, 40), (⟨"RopeLineModel", "nextServed", "()I"⟩, 40)]
theorem lw_r3 : ∀ q ∈ lw_privs_3, lw_okq q := List.forall_mem_cons.mpr ⟨lw_p32, List.forall_mem_cons.mpr ⟨lw_p33, List.forall_mem_cons.mpr ⟨lw_p34, List.forall_mem_cons.mpr ⟨lw_p35, List.forall_mem_cons.mpr ⟨lw_p36, List.forall_mem_cons.mpr ⟨lw_p37, List.forall_mem_cons.mpr ⟨lw_p38, List.forall_mem_cons.mpr ⟨lw_p39, List.forall_mem_cons.mpr ⟨lw_p40, List.forall_mem_cons.mpr ⟨lw_p41, List.forall_mem_cons.mpr ⟨lw_p42, List.forall_mem_cons.mpr ⟨lw_p43, List.forall_mem_cons.mpr ⟨lw_p44, List.forall_mem_cons.mpr ⟨lw_p45, List.forall_mem_cons.mpr ⟨lw_p46, List.forall_mem_cons.mpr ⟨lw_p47, fun _ h => absurd h List.not_mem_nil⟩⟩⟩⟩⟩⟩⟩⟩⟩⟩⟩⟩⟩⟩⟩⟩
theorem lw_p48 : lw_okq (⟨"RopeLineModel", "standing", "()I"⟩, 40) := ⟨⟨by decide +kernel, by decide +kernel⟩, List.mem_of_getElem? (i := 733) (by decide +kernel), List.mem_of_getElem? (i := 1068) (by decide +kernel), List.mem_of_getElem? (i := 1069) (by decide +kernel)⟩
theorem lw_p49 : lw_okq (⟨"RopeLineModel", "isComer", "(I)Z"⟩, 40) := ⟨⟨by decide +kernel, by decide +kernel⟩, List.mem_of_getElem? (i := 733) (by decide +kernel), List.mem_of_getElem? (i := 1076) (by decide +kernel), List.mem_of_getElem? (i := 1077) (by decide +kernel)⟩
theorem lw_p50 : lw_okq (⟨"RopeLineModel", "lost", "(I)J"⟩, 40) := ⟨⟨by decide +kernel, by decide +kernel⟩, List.mem_of_getElem? (i := 733) (by decide +kernel), List.mem_of_getElem? (i := 1108) (by decide +kernel), List.mem_of_getElem? (i := 1109) (by decide +kernel)⟩
theorem lw_p51 : lw_okq (⟨"RopeLineModel", "begins", "(I)V"⟩, 40) := ⟨⟨by decide +kernel, by decide +kernel⟩, List.mem_of_getElem? (i := 733) (by decide +kernel), List.mem_of_getElem? (i := 1116) (by decide +kernel), List.mem_of_getElem? (i := 1117) (by decide +kernel)⟩
def lw_privs_4 : List (MethodName × Nat) := [(⟨"RopeLineModel", "standing", "()I"⟩, 40), (⟨"RopeLineModel", "isComer", "(I)Z"⟩, 40), (⟨"RopeLineModel", "lost", "(I)J"⟩, 40), (⟨"RopeLineModel", "begins", "(I)V"⟩, 40)]
theorem lw_r4 : ∀ q ∈ lw_privs_4, lw_okq q := List.forall_mem_cons.mpr ⟨lw_p48, List.forall_mem_cons.mpr ⟨lw_p49, List.forall_mem_cons.mpr ⟨lw_p50, List.forall_mem_cons.mpr ⟨lw_p51, fun _ h => absurd h List.not_mem_nil⟩⟩⟩⟩
def lw_privs : List (MethodName × Nat) := lw_privs_1 ++ (lw_privs_2 ++ (lw_privs_3 ++ (lw_privs_4)))
def lw_tbl : List Cond := k2_sels lw_privs ++ tables_1
theorem lw_privs_ok : ∀ q ∈ lw_privs, lw_okq q := by
  show ∀ q ∈ lw_privs_1 ++ (lw_privs_2 ++ (lw_privs_3 ++ (lw_privs_4))), lw_okq q
  exact List.forall_mem_append.mpr ⟨lw_r1, List.forall_mem_append.mpr ⟨lw_r2, List.forall_mem_append.mpr ⟨lw_r3, lw_r4⟩⟩⟩
end
section
/-! ===== BEGIN words of one list among another's, by their places ===== -/
theorem goodIn_r {big : List Cond} (ws : List Cond) (ps : List Nat) (hp : ws = ps.filterMap (fun i => big[i]?)) (h : ws.all goodWord = true) : GoodIn big ws := by
  intro w hw
  have h1 := List.all_eq_true.mp h w hw
  rw [hp] at hw
  obtain ⟨i, -, hi⟩ := List.mem_filterMap.mp hw
  have hm : w ∈ big := by first | exact List.mem_of_getElem? hi | exact List.getElem?_mem hi
  exact ⟨hm, good_of_word h1⟩
theorem goodIn_app {big a b : List Cond} (ha : GoodIn big a) (hb : GoodIn big b) : GoodIn big (a ++ b) := fun w h => (List.mem_append.mp h).elim (ha w) (hb w)
theorem goodIn_ca {big a b : List Cond} {c : Cond} (ha : GoodIn big (c :: a)) (hb : GoodIn big b) : GoodIn big (c :: (a ++ b)) := fun w h => (List.mem_cons.mp h).elim (fun e => ha w (List.mem_cons.mpr (Or.inl e))) (fun h => (List.mem_append.mp h).elim (fun h => ha w (List.mem_cons.mpr (Or.inr h))) (hb w))
theorem goodIn_sub {big ws : List Cond} (hm : ∀ w ∈ ws, w ∈ big) (h : ws.all goodWord = true) : GoodIn big ws := fun w hw => ⟨hm w hw, good_of_word (List.all_eq_true.mp h w hw)⟩
/-! ===== END ===== -/

/-! ===== BEGIN printed: names, fields, word lists, decode rows ===== -/
def RX0 : String := "RopeLine$Gains"
def TX0 : u_T := fun k => match k with
  | 0 => ("RopeLine$Gains", "lengths", "LRopeLine$Lengths;", true)
  | 1 => ("RopeLine$Gains", "row", "[I", true)
  | 2 => ("RopeLine$Gains", "bestRow", "[I", true)
  | 3 => ("RopeLine$Gains", "knowsBest", "Z", false)
  | 4 => ("RopeLine$Gains", "upper", "J", false)
  | _ => ("RopeLine$Gains", "lower", "J", false)
def tyX0 : Nat → FieldType := fun k => match k with
  | 0 => .object "RopeLine$Lengths"
  | 1 => .array .int
  | 2 => .array .int
  | 3 => .boolean
  | 4 => .long
  | _ => .long
abbrev wsX00 : List Cond := u_ws RX0 TX0 6
theorem nmX0 : ∀ a, a < 6 → ∀ b, b < 6 → a ≠ b → (TX0 a).2.1 ≠ (TX0 b).2.1 := by decide +kernel
theorem tyX0_ok : ∀ k, k < 6 → parseFieldDescriptor (TX0 k).2.2.1 = some (tyX0 k) := by decide +kernel
abbrev cX0_init : ByteArray := prog_2_method_1_code
def yX0_init : MethodName := ⟨RX0, "<init>", "()V"⟩
abbrev cX0_forgets : ByteArray := prog_2_method_2_code
def yX0_forgets : MethodName := ⟨RX0, "forgets", "()V"⟩
abbrev cX0_reckon : ByteArray := prog_2_method_3_code
def yX0_reckon : MethodName := ⟨RX0, "reckon", "(LRopeLine$Place;[I)V"⟩
abbrev cX0_rowBecomes : ByteArray := prog_2_method_4_code
def yX0_rowBecomes : MethodName := ⟨RX0, "rowBecomes", "(LRopeLine$Place;I)V"⟩
abbrev cX0_knowBest : ByteArray := prog_2_method_5_code
def yX0_knowBest : MethodName := ⟨RX0, "knowBest", "(LRopeLine$Place;)V"⟩
def RX1 : String := "RopeLine$Lengths"
def TX1 : u_T := fun k => match k with
  | 0 => ("RopeLine$Lengths", "joining", "[I", true)
  | 1 => ("RopeLine$Lengths", "weights", "[J", true)
  | 2 => ("RopeLine$Lengths", "now", "[J", true)
  | 3 => ("RopeLine$Lengths", "then", "[J", true)
  | 4 => ("RopeLine$Lengths", "served", "I", false)
  | 5 => ("RopeLine$Lengths", "whole", "I", false)
  | _ => ("RopeLine$Lengths", "total", "J", false)
def tyX1 : Nat → FieldType := fun k => match k with
  | 0 => .array .int
  | 1 => .array .long
  | 2 => .array .long
  | 3 => .array .long
  | 4 => .int
  | 5 => .int
  | _ => .long
abbrev wsX10 : List Cond := u_ws RX1 TX1 7
theorem nmX1 : ∀ a, a < 7 → ∀ b, b < 7 → a ≠ b → (TX1 a).2.1 ≠ (TX1 b).2.1 := by decide +kernel
theorem tyX1_ok : ∀ k, k < 7 → parseFieldDescriptor (TX1 k).2.2.1 = some (tyX1 k) := by decide +kernel
abbrev cX1_init : ByteArray := prog_3_method_1_code
def yX1_init : MethodName := ⟨RX1, "<init>", "()V"⟩
abbrev cX1_comeByBars : ByteArray := prog_3_method_2_code
def yX1_comeByBars : MethodName := ⟨RX1, "comeByBars", "(LRopeLine$Place;[I)V"⟩
abbrev cX1_comeBlind : ByteArray := prog_3_method_3_code
def yX1_comeBlind : MethodName := ⟨RX1, "comeBlind", "(LRopeLine$Place;I)V"⟩
abbrev cX1_weigh : ByteArray := prog_3_method_4_code
def yX1_weigh : MethodName := ⟨RX1, "weigh", "()V"⟩
abbrev cX1_grows : ByteArray := prog_3_method_5_code
def yX1_grows : MethodName := ⟨RX1, "grows", "(I)J"⟩
abbrev cX1_shrinks : ByteArray := prog_3_method_6_code
def yX1_shrinks : MethodName := ⟨RX1, "shrinks", "(I)J"⟩
abbrev cX1_lengthsByWeight : ByteArray := prog_3_method_7_code
def yX1_lengthsByWeight : MethodName := ⟨RX1, "lengthsByWeight", "()J"⟩
abbrev cX1_found : ByteArray := prog_3_method_8_code
def yX1_found : MethodName := ⟨RX1, "found", "(I)J"⟩
abbrev cX1_foundBelow : ByteArray := prog_3_method_9_code
def yX1_foundBelow : MethodName := ⟨RX1, "foundBelow", "(I)J"⟩
abbrev cX1_tillLess : ByteArray := prog_3_method_10_code
def yX1_tillLess : MethodName := ⟨RX1, "tillLess", "(II)J"⟩
abbrev cX1_afterMinutes : ByteArray := prog_3_method_11_code
def yX1_afterMinutes : MethodName := ⟨RX1, "afterMinutes", "(IIII)J"⟩
abbrev cX1_goOn : ByteArray := prog_3_method_12_code
def yX1_goOn : MethodName := ⟨RX1, "goOn", "()V"⟩
def RX2 : String := "RopeLine$Place"
def TX2 : u_T := fun k => match k with
  | 0 => ("RopeLine$Place", "twelfths", "[I", true)
  | 1 => ("RopeLine$Place", "worths", "[I", true)
  | 2 => ("RopeLine$Place", "bars", "[I", true)
  | 3 => ("RopeLine$Place", "isTold", "Z", false)
  | 4 => ("RopeLine$Place", "served", "I", false)
  | 5 => ("RopeLine$Place", "cost", "I", false)
  | 6 => ("RopeLine$Place", "sorts", "I", false)
  | 7 => ("RopeLine$Place", "toll", "I", false)
  | 8 => ("RopeLine$Place", "step", "I", false)
  | _ => ("RopeLine$Place", "lie", "I", false)
def tyX2 : Nat → FieldType := fun k => match k with
  | 0 => .array .int
  | 1 => .array .int
  | 2 => .array .int
  | 3 => .boolean
  | 4 => .int
  | 5 => .int
  | 6 => .int
  | 7 => .int
  | 8 => .int
  | _ => .int
abbrev wsX20 : List Cond := u_ws RX2 TX2 10
theorem nmX2 : ∀ a, a < 10 → ∀ b, b < 10 → a ≠ b → (TX2 a).2.1 ≠ (TX2 b).2.1 := by decide +kernel
theorem tyX2_ok : ∀ k, k < 10 → parseFieldDescriptor (TX2 k).2.2.1 = some (tyX2 k) := by decide +kernel
abbrev cX2_init : ByteArray := prog_4_method_1_code
def yX2_init : MethodName := ⟨RX2, "<init>", "()V"⟩
abbrev cX2_becomes : ByteArray := prog_4_method_2_code
def yX2_becomes : MethodName := ⟨RX2, "becomes", "(LRopeLine$Text;)V"⟩
abbrev cX2_has : ByteArray := prog_4_method_3_code
def yX2_has : MethodName := ⟨RX2, "has", "(I)Z"⟩
abbrev cX2_twelfthsTogether : ByteArray := prog_4_method_4_code
def yX2_twelfthsTogether : MethodName := ⟨RX2, "twelfthsTogether", "()I"⟩
abbrev cX2_joining : ByteArray := prog_4_method_5_code
def yX2_joining : MethodName := ⟨RX2, "joining", "([II)I"⟩
abbrev cX2_sortDrawn : ByteArray := prog_4_method_6_code
def yX2_sortDrawn : MethodName := ⟨RX2, "sortDrawn", "(I)I"⟩
abbrev cX2_minutesAsTold : ByteArray := prog_4_method_7_code
def yX2_minutesAsTold : MethodName := ⟨RX2, "minutesAsTold", "(I)I"⟩
abbrev cX2_hisBar : ByteArray := prog_4_method_8_code
def yX2_hisBar : MethodName := ⟨RX2, "hisBar", "(I)I"⟩
abbrev cX2_hisBarUnseen : ByteArray := prog_4_method_9_code
def yX2_hisBarUnseen : MethodName := ⟨RX2, "hisBarUnseen", "(II)I"⟩
def RX3 : String := "RopeLine$Queue"
def TX3 : u_T := fun k => match k with
  | 0 => ("RopeLine$Queue", "kinds", "[I", true)
  | 1 => ("RopeLine$Queue", "sorts", "[I", true)
  | 2 => ("RopeLine$Queue", "waited", "[I", true)
  | 3 => ("RopeLine$Queue", "cameIn", "[I", true)
  | 4 => ("RopeLine$Queue", "servedIn", "[I", true)
  | 5 => ("RopeLine$Queue", "row", "[I", true)
  | 6 => ("RopeLine$Queue", "comers", "I", false)
  | 7 => ("RopeLine$Queue", "standing", "I", false)
  | _ => ("RopeLine$Queue", "minutes", "I", false)
def tyX3 : Nat → FieldType := fun k => match k with
  | 0 => .array .int
  | 1 => .array .int
  | 2 => .array .int
  | 3 => .array .int
  | 4 => .array .int
  | 5 => .array .int
  | 6 => .int
  | 7 => .int
  | _ => .int
abbrev wsX30 : List Cond := u_ws RX3 TX3 9
theorem nmX3 : ∀ a, a < 9 → ∀ b, b < 9 → a ≠ b → (TX3 a).2.1 ≠ (TX3 b).2.1 := by decide +kernel
theorem tyX3_ok : ∀ k, k < 9 → parseFieldDescriptor (TX3 k).2.2.1 = some (tyX3 k) := by decide +kernel
abbrev cX3_init : ByteArray := prog_5_method_1_code
def yX3_init : MethodName := ⟨RX3, "<init>", "()V"⟩
abbrev cX3_empties : ByteArray := prog_5_method_2_code
def yX3_empties : MethodName := ⟨RX3, "empties", "()V"⟩
abbrev cX3_has : ByteArray := prog_5_method_3_code
def yX3_has : MethodName := ⟨RX3, "has", "(I)Z"⟩
abbrev cX3_isFull : ByteArray := prog_5_method_4_code
def yX3_isFull : MethodName := ⟨RX3, "isFull", "()Z"⟩
abbrev cX3_allWait : ByteArray := prog_5_method_5_code
def yX3_allWait : MethodName := ⟨RX3, "allWait", "()V"⟩
abbrev cX3_nextBy : ByteArray := prog_5_method_6_code
def yX3_nextBy : MethodName := ⟨RX3, "nextBy", "(ILRopeLine$Place;)I"⟩
abbrev cX3_worthOf : ByteArray := prog_5_method_7_code
def yX3_worthOf : MethodName := ⟨RX3, "worthOf", "(ILRopeLine$Place;)I"⟩
abbrev cX3_serve : ByteArray := prog_5_method_8_code
def yX3_serve : MethodName := ⟨RX3, "serve", "(I)I"⟩
abbrev cX3_comes : ByteArray := prog_5_method_9_code
def yX3_comes : MethodName := ⟨RX3, "comes", "(II)Z"⟩
abbrev cX3_placeOf : ByteArray := prog_5_method_10_code
def yX3_placeOf : MethodName := ⟨RX3, "placeOf", "(I)I"⟩
abbrev cX3_takeOut : ByteArray := prog_5_method_11_code
def yX3_takeOut : MethodName := ⟨RX3, "takeOut", "(I)V"⟩
abbrev cX3_done : ByteArray := prog_5_method_12_code
def yX3_done : MethodName := ⟨RX3, "done", "()I"⟩
abbrev cX3_envious : ByteArray := prog_5_method_13_code
def yX3_envious : MethodName := ⟨RX3, "envious", "()I"⟩
abbrev cX3_envies : ByteArray := prog_5_method_14_code
def yX3_envies : MethodName := ⟨RX3, "envies", "(II)Z"⟩
def RX4 : String := "RopeLine$Sheets"
def TX4 : u_T := fun k => match k with
  | 0 => ("RopeLine$Sheets", "lanes", "[I", true)
  | 1 => ("RopeLine$Sheets", "sizes", "[I", true)
  | _ => ("RopeLine$Sheets", "cells", "[I", true)
def tyX4 : Nat → FieldType := fun k => match k with
  | 0 => .array .int
  | 1 => .array .int
  | _ => .array .int
abbrev wsX40 : List Cond := u_ws RX4 TX4 3
theorem nmX4 : ∀ a, a < 3 → ∀ b, b < 3 → a ≠ b → (TX4 a).2.1 ≠ (TX4 b).2.1 := by decide +kernel
theorem tyX4_ok : ∀ k, k < 3 → parseFieldDescriptor (TX4 k).2.2.1 = some (tyX4 k) := by decide +kernel
abbrev cX4_init : ByteArray := prog_6_method_1_code
def yX4_init : MethodName := ⟨RX4, "<init>", "()V"⟩
abbrev cX4_has : ByteArray := prog_6_method_2_code
def yX4_has : MethodName := ⟨RX4, "has", "(I)Z"⟩
abbrev cX4_hasNothing : ByteArray := prog_6_method_3_code
def yX4_hasNothing : MethodName := ⟨RX4, "hasNothing", "(I)Z"⟩
abbrev cX4_isOfAnotherLane : ByteArray := prog_6_method_4_code
def yX4_isOfAnotherLane : MethodName := ⟨RX4, "isOfAnotherLane", "(II)Z"⟩
abbrev cX4_sizeOf : ByteArray := prog_6_method_5_code
def yX4_sizeOf : MethodName := ⟨RX4, "sizeOf", "(I)I"⟩
abbrev cX4_renew : ByteArray := prog_6_method_6_code
def yX4_renew : MethodName := ⟨RX4, "renew", "(III)V"⟩
abbrev cX4_forget : ByteArray := prog_6_method_7_code
def yX4_forget : MethodName := ⟨RX4, "forget", "(I)V"⟩
abbrev cX4_indexOf : ByteArray := prog_6_method_8_code
def yX4_indexOf : MethodName := ⟨RX4, "indexOf", "(II)I"⟩
abbrev cX4_read : ByteArray := prog_6_method_9_code
def yX4_read : MethodName := ⟨RX4, "read", "(II)I"⟩
abbrev cX4_write : ByteArray := prog_6_method_10_code
def yX4_write : MethodName := ⟨RX4, "write", "(III)V"⟩
def RX5 : String := "RopeLine$Text"
def TX5 : u_T := fun k => match k with
  | 0 => ("RopeLine$Text", "twelfths", "[I", true)
  | 1 => ("RopeLine$Text", "worths", "[I", true)
  | 2 => ("RopeLine$Text", "sheets", "LRopeLine$Sheets;", true)
  | 3 => ("RopeLine$Text", "start", "I", false)
  | 4 => ("RopeLine$Text", "codes", "I", false)
  | 5 => ("RopeLine$Text", "next", "I", false)
  | 6 => ("RopeLine$Text", "number", "I", false)
  | 7 => ("RopeLine$Text", "served", "I", false)
  | 8 => ("RopeLine$Text", "cost", "I", false)
  | 9 => ("RopeLine$Text", "sorts", "I", false)
  | _ => ("RopeLine$Text", "left", "I", false)
def tyX5 : Nat → FieldType := fun k => match k with
  | 0 => .array .int
  | 1 => .array .int
  | 2 => .object "RopeLine$Sheets"
  | 3 => .int
  | 4 => .int
  | 5 => .int
  | 6 => .int
  | 7 => .int
  | 8 => .int
  | 9 => .int
  | _ => .int
abbrev wsX50 : List Cond := u_ws RX5 TX5 11
theorem nmX5 : ∀ a, a < 11 → ∀ b, b < 11 → a ≠ b → (TX5 a).2.1 ≠ (TX5 b).2.1 := by decide +kernel
theorem tyX5_ok : ∀ k, k < 11 → parseFieldDescriptor (TX5 k).2.2.1 = some (tyX5 k) := by decide +kernel
abbrev cX5_init : ByteArray := prog_7_method_1_code
def yX5_init : MethodName := ⟨RX5, "<init>", "(LRopeLine$Sheets;)V"⟩
abbrev cX5_isTaken : ByteArray := prog_7_method_2_code
def yX5_isTaken : MethodName := ⟨RX5, "isTaken", "(III)Z"⟩
abbrev cX5_takesSort : ByteArray := prog_7_method_3_code
def yX5_takesSort : MethodName := ⟨RX5, "takesSort", "(I)Z"⟩
abbrev cX5_takes : ByteArray := prog_7_method_4_code
def yX5_takes : MethodName := ⟨RX5, "takes", "(I)Z"⟩
abbrev cX5_takesNumber : ByteArray := prog_7_method_5_code
def yX5_takesNumber : MethodName := ⟨RX5, "takesNumber", "(II)Z"⟩
abbrev cX5_isDigitNext : ByteArray := prog_7_method_6_code
def yX5_isDigitNext : MethodName := ⟨RX5, "isDigitNext", "()Z"⟩
abbrev cX5_codeAtNext : ByteArray := prog_7_method_7_code
def yX5_codeAtNext : MethodName := ⟨RX5, "codeAtNext", "()I"⟩
def RX6 : String := "RopeLine"
def TX6 : u_T := fun k => match k with
  | 0 => ("RopeLine", "sheets", "LRopeLine$Sheets;", true)
  | 1 => ("RopeLine", "text", "LRopeLine$Text;", true)
  | 2 => ("RopeLine", "here", "LRopeLine$Place;", true)
  | 3 => ("RopeLine", "lengths", "LRopeLine$Lengths;", true)
  | 4 => ("RopeLine", "gains", "LRopeLine$Gains;", true)
  | 5 => ("RopeLine", "queue", "LRopeLine$Queue;", true)
  | 6 => ("RopeLine", "orderNow", "I", false)
  | 7 => ("RopeLine", "traceNow", "I", false)
  | _ => ("RopeLine", "faultNow", "I", false)
def tyX6 : Nat → FieldType := fun k => match k with
  | 0 => .object "RopeLine$Sheets"
  | 1 => .object "RopeLine$Text"
  | 2 => .object "RopeLine$Place"
  | 3 => .object "RopeLine$Lengths"
  | 4 => .object "RopeLine$Gains"
  | 5 => .object "RopeLine$Queue"
  | 6 => .int
  | 7 => .int
  | _ => .int
abbrev wsX60 : List Cond := u_ws RX6 TX6 9
theorem nmX6 : ∀ a, a < 9 → ∀ b, b < 9 → a ≠ b → (TX6 a).2.1 ≠ (TX6 b).2.1 := by decide +kernel
theorem tyX6_ok : ∀ k, k < 9 → parseFieldDescriptor (TX6 k).2.2.1 = some (tyX6 k) := by decide +kernel
abbrev cX6_init : ByteArray := prog_1_method_1_code
def yX6_init : MethodName := ⟨RX6, "<init>", "()V"⟩
abbrev cX6_place : ByteArray := prog_1_method_2_code
def yX6_place : MethodName := ⟨RX6, "place", "(IIII)I"⟩
abbrev cX6_about : ByteArray := prog_1_method_3_code
def yX6_about : MethodName := ⟨RX6, "about", "(I)I"⟩
abbrev cX6_ofSort : ByteArray := prog_1_method_4_code
def yX6_ofSort : MethodName := ⟨RX6, "ofSort", "(II)I"⟩
abbrev cX6_bar : ByteArray := prog_1_method_5_code
def yX6_bar : MethodName := ⟨RX6, "bar", "(II)I"⟩
abbrev cX6_toll : ByteArray := prog_1_method_6_code
def yX6_toll : MethodName := ⟨RX6, "toll", "(I)I"⟩
abbrev cX6_board : ByteArray := prog_1_method_7_code
def yX6_board : MethodName := ⟨RX6, "board", "(II)I"⟩
abbrev cX6_bars : ByteArray := prog_1_method_8_code
def yX6_bars : MethodName := ⟨RX6, "bars", "(I)I"⟩
abbrev cX6_barFor : ByteArray := prog_1_method_9_code
def yX6_barFor : MethodName := ⟨RX6, "barFor", "(II)I"⟩
abbrev cX6_often : ByteArray := prog_1_method_10_code
def yX6_often : MethodName := ⟨RX6, "often", "(II)J"⟩
abbrev cX6_mean : ByteArray := prog_1_method_11_code
def yX6_mean : MethodName := ⟨RX6, "mean", "(I)J"⟩
abbrev cX6_on : ByteArray := prog_1_method_12_code
def yX6_on : MethodName := ⟨RX6, "on", "(II)J"⟩
abbrev cX6_less : ByteArray := prog_1_method_13_code
def yX6_less : MethodName := ⟨RX6, "less", "(II)J"⟩
abbrev cX6_after : ByteArray := prog_1_method_14_code
def yX6_after : MethodName := ⟨RX6, "after", "(IIII)J"⟩
abbrev cX6_minutes : ByteArray := prog_1_method_15_code
def yX6_minutes : MethodName := ⟨RX6, "minutes", "(II)J"⟩
abbrev cX6_gain : ByteArray := prog_1_method_16_code
def yX6_gain : MethodName := ⟨RX6, "gain", "(I)J"⟩
abbrev cX6_best : ByteArray := prog_1_method_17_code
def yX6_best : MethodName := ⟨RX6, "best", "(I)I"⟩
abbrev cX6_against : ByteArray := prog_1_method_18_code
def yX6_against : MethodName := ⟨RX6, "against", "(II)I"⟩
abbrev cX6_mends : ByteArray := prog_1_method_19_code
def yX6_mends : MethodName := ⟨RX6, "mends", "(I)I"⟩
abbrev cX6_mendsAll : ByteArray := prog_1_method_20_code
def yX6_mendsAll : MethodName := ⟨RX6, "mendsAll", "(I)Z"⟩
abbrev cX6_blind : ByteArray := prog_1_method_21_code
def yX6_blind : MethodName := ⟨RX6, "blind", "(III)J"⟩
abbrev cX6_rest : ByteArray := prog_1_method_22_code
def yX6_rest : MethodName := ⟨RX6, "rest", "()I"⟩
abbrev cX6_paysBlind : ByteArray := prog_1_method_23_code
def yX6_paysBlind : MethodName := ⟨RX6, "paysBlind", "(I)Z"⟩
abbrev cX6_order : ByteArray := prog_1_method_24_code
def yX6_order : MethodName := ⟨RX6, "order", "(I)I"⟩
abbrev cX6_minute : ByteArray := prog_1_method_25_code
def yX6_minute : MethodName := ⟨RX6, "minute", "(II)I"⟩
abbrev cX6_ofComer : ByteArray := prog_1_method_26_code
def yX6_ofComer : MethodName := ⟨RX6, "ofComer", "(II)I"⟩
abbrev cX6_leave : ByteArray := prog_1_method_27_code
def yX6_leave : MethodName := ⟨RX6, "leave", "(I)I"⟩
abbrev cX6_line : ByteArray := prog_1_method_28_code
def yX6_line : MethodName := ⟨RX6, "line", "(I)I"⟩
abbrev cX6_envy : ByteArray := prog_1_method_29_code
def yX6_envy : MethodName := ⟨RX6, "envy", "()I"⟩
abbrev cX6_sheet : ByteArray := prog_1_method_30_code
def yX6_sheet : MethodName := ⟨RX6, "sheet", "(III)I"⟩
abbrev cX6_lose : ByteArray := prog_1_method_31_code
def yX6_lose : MethodName := ⟨RX6, "lose", "(I)I"⟩
abbrev cX6_put : ByteArray := prog_1_method_32_code
def yX6_put : MethodName := ⟨RX6, "put", "(III)I"⟩
abbrev cX6_cell : ByteArray := prog_1_method_33_code
def yX6_cell : MethodName := ⟨RX6, "cell", "(III)J"⟩
abbrev cX6_tell : ByteArray := prog_1_method_34_code
def yX6_tell : MethodName := ⟨RX6, "tell", "(I)I"⟩
abbrev cX6_call : ByteArray := prog_1_method_35_code
def yX6_call : MethodName := ⟨RX6, "call", "(I)I"⟩
abbrev cX6_as : ByteArray := prog_1_method_36_code
def yX6_as : MethodName := ⟨RX6, "as", "(II)I"⟩
abbrev cX6_trace : ByteArray := prog_1_method_37_code
def yX6_trace : MethodName := ⟨RX6, "trace", "()I"⟩
abbrev cX6_fault : ByteArray := prog_1_method_38_code
def yX6_fault : MethodName := ⟨RX6, "fault", "()I"⟩
abbrev cX6_many : ByteArray := prog_1_method_39_code
def yX6_many : MethodName := ⟨RX6, "many", "(I)I"⟩
abbrev cX6_toldByComer : ByteArray := prog_1_method_40_code
def yX6_toldByComer : MethodName := ⟨RX6, "toldByComer", "(I)I"⟩
abbrev cX6_toldByStands : ByteArray := prog_1_method_41_code
def yX6_toldByStands : MethodName := ⟨RX6, "toldByStands", "(I)I"⟩
abbrev cX6_toldByDone : ByteArray := prog_1_method_42_code
def yX6_toldByDone : MethodName := ⟨RX6, "toldByDone", "(I)I"⟩
abbrev cX6_calledByLent : ByteArray := prog_1_method_43_code
def yX6_calledByLent : MethodName := ⟨RX6, "calledByLent", "(I)I"⟩
abbrev cX6_calledByDone : ByteArray := prog_1_method_44_code
def yX6_calledByDone : MethodName := ⟨RX6, "calledByDone", "()I"⟩
abbrev cX6_leaveNumber : ByteArray := prog_1_method_45_code
def yX6_leaveNumber : MethodName := ⟨RX6, "leaveNumber", "(I)V"⟩
abbrev cX6_isKind : ByteArray := prog_1_method_46_code
def yX6_isKind : MethodName := ⟨RX6, "isKind", "(II)Z"⟩
abbrev cX6_faulted : ByteArray := prog_1_method_47_code
def yX6_faulted : MethodName := ⟨RX6, "faulted", "(I)I"⟩
abbrev cX6_lost : ByteArray := prog_1_method_48_code
def yX6_lost : MethodName := ⟨RX6, "lost", "(I)J"⟩
abbrev cX6_isWithin : ByteArray := prog_1_method_49_code
def yX6_isWithin : MethodName := ⟨RX6, "isWithin", "(III)Z"⟩
abbrev cX6_at : ByteArray := prog_1_method_50_code
def yX6_at : MethodName := ⟨RX6, "at", "([II)I"⟩
abbrev cX6_at_ : ByteArray := prog_1_method_51_code
def yX6_at_ : MethodName := ⟨RX6, "at", "([JI)J"⟩
abbrev cX6_set : ByteArray := prog_1_method_52_code
def yX6_set : MethodName := ⟨RX6, "set", "([III)V"⟩
abbrev cX6_set_ : ByteArray := prog_1_method_53_code
def yX6_set_ : MethodName := ⟨RX6, "set", "([JIJ)V"⟩
abbrev cX6_rowsOf : ByteArray := prog_1_method_54_code
def yX6_rowsOf : MethodName := ⟨RX6, "rowsOf", "(I)I"⟩
abbrev cX6_share : ByteArray := prog_1_method_55_code
def yX6_share : MethodName := ⟨RX6, "share", "(JJI)J"⟩
abbrev cX6_commonDivisor : ByteArray := prog_1_method_56_code
def yX6_commonDivisor : MethodName := ⟨RX6, "commonDivisor", "(JJ)J"⟩
abbrev cX6_compareShares : ByteArray := prog_1_method_57_code
def yX6_compareShares : MethodName := ⟨RX6, "compareShares", "(JJJJ)I"⟩
def RX7 : String := "RopeLineModel"
def TX7 : u_T := fun k => match k with
  | 0 => ("RopeLineModel", "fault", "I", false)
  | 1 => ("RopeLineModel", "trace", "I", false)
  | 2 => ("RopeLineModel", "up", "J", false)
  | 3 => ("RopeLineModel", "down", "J", false)
  | 4 => ("RopeLineModel", "lanes", "[I", true)
  | 5 => ("RopeLineModel", "sheetLong", "[I", true)
  | 6 => ("RopeLineModel", "cells", "[I", true)
  | 7 => ("RopeLineModel", "isPlace", "Z", false)
  | 8 => ("RopeLineModel", "served", "I", false)
  | 9 => ("RopeLineModel", "cost", "I", false)
  | 10 => ("RopeLineModel", "sorts", "I", false)
  | 11 => ("RopeLineModel", "twelfths", "[I", true)
  | 12 => ("RopeLineModel", "worths", "[I", true)
  | 13 => ("RopeLineModel", "bars", "[I", true)
  | 14 => ("RopeLineModel", "toll", "I", false)
  | 15 => ("RopeLineModel", "step", "I", false)
  | 16 => ("RopeLineModel", "lie", "I", false)
  | 17 => ("RopeLineModel", "at", "I", false)
  | 18 => ("RopeLineModel", "end", "I", false)
  | 19 => ("RopeLineModel", "readServed", "I", false)
  | 20 => ("RopeLineModel", "readCost", "I", false)
  | 21 => ("RopeLineModel", "readSorts", "I", false)
  | 22 => ("RopeLineModel", "readTwelfths", "[I", true)
  | 23 => ("RopeLineModel", "readWorths", "[I", true)
  | 24 => ("RopeLineModel", "joins", "[I", true)
  | 25 => ("RopeLineModel", "ups", "[J", true)
  | 26 => ("RopeLineModel", "downs", "[J", true)
  | 27 => ("RopeLineModel", "weights", "[J", true)
  | 28 => ("RopeLineModel", "now", "[J", true)
  | 29 => ("RopeLineModel", "next", "[J", true)
  | 30 => ("RopeLineModel", "row", "[I", true)
  | 31 => ("RopeLineModel", "bestRow", "[I", true)
  | 32 => ("RopeLineModel", "comers", "I", false)
  | 33 => ("RopeLineModel", "minutes", "I", false)
  | 34 => ("RopeLineModel", "order", "I", false)
  | 35 => ("RopeLineModel", "comerSort", "[I", true)
  | 36 => ("RopeLineModel", "comerKind", "[I", true)
  | 37 => ("RopeLineModel", "waited", "[I", true)
  | 38 => ("RopeLineModel", "came", "[I", true)
  | _ => ("RopeLineModel", "gone", "[I", true)
def tyX7 : Nat → FieldType := fun k => match k with
  | 0 => .int
  | 1 => .int
  | 2 => .long
  | 3 => .long
  | 4 => .array .int
  | 5 => .array .int
  | 6 => .array .int
  | 7 => .boolean
  | 8 => .int
  | 9 => .int
  | 10 => .int
  | 11 => .array .int
  | 12 => .array .int
  | 13 => .array .int
  | 14 => .int
  | 15 => .int
  | 16 => .int
  | 17 => .int
  | 18 => .int
  | 19 => .int
  | 20 => .int
  | 21 => .int
  | 22 => .array .int
  | 23 => .array .int
  | 24 => .array .int
  | 25 => .array .long
  | 26 => .array .long
  | 27 => .array .long
  | 28 => .array .long
  | 29 => .array .long
  | 30 => .array .int
  | 31 => .array .int
  | 32 => .int
  | 33 => .int
  | 34 => .int
  | 35 => .array .int
  | 36 => .array .int
  | 37 => .array .int
  | 38 => .array .int
  | _ => .array .int
abbrev wsX70 : List Cond := u_ws RX7 TX7 40
theorem nmX7 : ∀ a, a < 40 → ∀ b, b < 40 → a ≠ b → (TX7 a).2.1 ≠ (TX7 b).2.1 := by decide +kernel
theorem tyX7_ok : ∀ k, k < 40 → parseFieldDescriptor (TX7 k).2.2.1 = some (tyX7 k) := by decide +kernel
abbrev cX7_init : ByteArray := prog_9_method_1_code
def yX7_init : MethodName := ⟨RX7, "<init>", "()V"⟩
abbrev cX7_fails : ByteArray := prog_9_method_3_code
def yX7_fails : MethodName := ⟨RX7, "fails", "(I)I"⟩
abbrev cX7_lost : ByteArray := prog_9_method_4_code
def yX7_lost : MethodName := ⟨RX7, "lost", "(I)J"⟩
abbrev cX7_within : ByteArray := prog_9_method_5_code
def yX7_within : MethodName := ⟨RX7, "within", "(III)Z"⟩
abbrev cX7_common : ByteArray := prog_9_method_6_code
def yX7_common : MethodName := ⟨RX7, "common", "(JJ)J"⟩
abbrev cX7_share : ByteArray := prog_9_method_7_code
def yX7_share : MethodName := ⟨RX7, "share", "(JJ)V"⟩
abbrev cX7_told : ByteArray := prog_9_method_8_code
def yX7_told : MethodName := ⟨RX7, "told", "(I)J"⟩
abbrev cX7_isWhich : ByteArray := prog_9_method_9_code
def yX7_isWhich : MethodName := ⟨RX7, "isWhich", "(I)Z"⟩
abbrev cX7_compare : ByteArray := prog_9_method_10_code
def yX7_compare : MethodName := ⟨RX7, "compare", "(JJJJ)I"⟩
abbrev cX7_whole : ByteArray := prog_9_method_11_code
def yX7_whole : MethodName := ⟨RX7, "whole", "(JJ)J"⟩
abbrev cX7_isSheet : ByteArray := prog_9_method_12_code
def yX7_isSheet : MethodName := ⟨RX7, "isSheet", "(I)Z"⟩
abbrev cX7_isLane : ByteArray := prog_9_method_13_code
def yX7_isLane : MethodName := ⟨RX7, "isLane", "(I)Z"⟩
abbrev cX7_codeAt : ByteArray := prog_9_method_14_code
def yX7_codeAt : MethodName := ⟨RX7, "codeAt", "()I"⟩
abbrev cX7_readsLetter : ByteArray := prog_9_method_15_code
def yX7_readsLetter : MethodName := ⟨RX7, "readsLetter", "(I)Z"⟩
abbrev cX7_readsNumber : ByteArray := prog_9_method_16_code
def yX7_readsNumber : MethodName := ⟨RX7, "readsNumber", "(II)I"⟩
abbrev cX7_readsSort : ByteArray := prog_9_method_17_code
def yX7_readsSort : MethodName := ⟨RX7, "readsSort", "()Z"⟩
abbrev cX7_readsAll : ByteArray := prog_9_method_18_code
def yX7_readsAll : MethodName := ⟨RX7, "readsAll", "()Z"⟩
abbrev cX7_place : ByteArray := prog_9_method_19_code
def yX7_place : MethodName := ⟨RX7, "place", "(IIII)I"⟩
abbrev cX7_allTwelfths : ByteArray := prog_9_method_20_code
def yX7_allTwelfths : MethodName := ⟨RX7, "allTwelfths", "()I"⟩
abbrev cX7_about : ByteArray := prog_9_method_21_code
def yX7_about : MethodName := ⟨RX7, "about", "(I)I"⟩
abbrev cX7_isSort : ByteArray := prog_9_method_22_code
def yX7_isSort : MethodName := ⟨RX7, "isSort", "(I)Z"⟩
abbrev cX7_toldMinutes : ByteArray := prog_9_method_23_code
def yX7_toldMinutes : MethodName := ⟨RX7, "toldMinutes", "(III)I"⟩
abbrev cX7_hisBar : ByteArray := prog_9_method_24_code
def yX7_hisBar : MethodName := ⟨RX7, "hisBar", "(IIII)I"⟩
abbrev cX7_ofSort : ByteArray := prog_9_method_25_code
def yX7_ofSort : MethodName := ⟨RX7, "ofSort", "(II)I"⟩
abbrev cX7_bar : ByteArray := prog_9_method_26_code
def yX7_bar : MethodName := ⟨RX7, "bar", "(II)I"⟩
abbrev cX7_toll : ByteArray := prog_9_method_27_code
def yX7_toll : MethodName := ⟨RX7, "toll", "(I)I"⟩
abbrev cX7_board : ByteArray := prog_9_method_28_code
def yX7_board : MethodName := ⟨RX7, "board", "(II)I"⟩
abbrev cX7_layJoins : ByteArray := prog_9_method_29_code
def yX7_layJoins : MethodName := ⟨RX7, "layJoins", "([I)V"⟩
abbrev cX7_layWeights : ByteArray := prog_9_method_30_code
def yX7_layWeights : MethodName := ⟨RX7, "layWeights", "(I)V"⟩
abbrev cX7_layRun : ByteArray := prog_9_method_31_code
def yX7_layRun : MethodName := ⟨RX7, "layRun", "([I)V"⟩
abbrev cX7_allWeights : ByteArray := prog_9_method_32_code
def yX7_allWeights : MethodName := ⟨RX7, "allWeights", "()J"⟩
abbrev cX7_meanWeights : ByteArray := prog_9_method_33_code
def yX7_meanWeights : MethodName := ⟨RX7, "meanWeights", "()J"⟩
abbrev cX7_metAt : ByteArray := prog_9_method_34_code
def yX7_metAt : MethodName := ⟨RX7, "metAt", "(I)J"⟩
abbrev cX7_often : ByteArray := prog_9_method_35_code
def yX7_often : MethodName := ⟨RX7, "often", "(II)J"⟩
abbrev cX7_mean : ByteArray := prog_9_method_36_code
def yX7_mean : MethodName := ⟨RX7, "mean", "(I)J"⟩
abbrev cX7_on : ByteArray := prog_9_method_37_code
def yX7_on : MethodName := ⟨RX7, "on", "(II)J"⟩
abbrev cX7_less : ByteArray := prog_9_method_38_code
def yX7_less : MethodName := ⟨RX7, "less", "(II)J"⟩
abbrev cX7_after : ByteArray := prog_9_method_39_code
def yX7_after : MethodName := ⟨RX7, "after", "(IIII)J"⟩
abbrev cX7_minutes : ByteArray := prog_9_method_40_code
def yX7_minutes : MethodName := ⟨RX7, "minutes", "(II)J"⟩
abbrev cX7_layGain : ByteArray := prog_9_method_41_code
def yX7_layGain : MethodName := ⟨RX7, "layGain", "([I)V"⟩
abbrev cX7_gain : ByteArray := prog_9_method_42_code
def yX7_gain : MethodName := ⟨RX7, "gain", "(I)J"⟩
abbrev cX7_allRows : ByteArray := prog_9_method_43_code
def yX7_allRows : MethodName := ⟨RX7, "allRows", "()I"⟩
abbrev cX7_layRow : ByteArray := prog_9_method_44_code
def yX7_layRow : MethodName := ⟨RX7, "layRow", "(I)V"⟩
abbrev cX7_findBest : ByteArray := prog_9_method_45_code
def yX7_findBest : MethodName := ⟨RX7, "findBest", "()V"⟩
abbrev cX7_best : ByteArray := prog_9_method_46_code
def yX7_best : MethodName := ⟨RX7, "best", "(I)I"⟩
abbrev cX7_bars : ByteArray := prog_9_method_47_code
def yX7_bars : MethodName := ⟨RX7, "bars", "(I)I"⟩
abbrev cX7_against : ByteArray := prog_9_method_48_code
def yX7_against : MethodName := ⟨RX7, "against", "(II)I"⟩
abbrev cX7_mends : ByteArray := prog_9_method_49_code
def yX7_mends : MethodName := ⟨RX7, "mends", "(I)I"⟩
abbrev cX7_layBlind : ByteArray := prog_9_method_50_code
def yX7_layBlind : MethodName := ⟨RX7, "layBlind", "(I)V"⟩
abbrev cX7_blind : ByteArray := prog_9_method_51_code
def yX7_blind : MethodName := ⟨RX7, "blind", "(III)J"⟩
abbrev cX7_rest : ByteArray := prog_9_method_52_code
def yX7_rest : MethodName := ⟨RX7, "rest", "()I"⟩
abbrev cX7_order : ByteArray := prog_9_method_53_code
def yX7_order : MethodName := ⟨RX7, "order", "(I)I"⟩
abbrev cX7_standing : ByteArray := prog_9_method_54_code
def yX7_standing : MethodName := ⟨RX7, "standing", "()I"⟩
abbrev cX7_nextServed : ByteArray := prog_9_method_55_code
def yX7_nextServed : MethodName := ⟨RX7, "nextServed", "()I"⟩
abbrev cX7_sortBy : ByteArray := prog_9_method_56_code
def yX7_sortBy : MethodName := ⟨RX7, "sortBy", "(I)I"⟩
abbrev cX7_minute : ByteArray := prog_9_method_57_code
def yX7_minute : MethodName := ⟨RX7, "minute", "(II)I"⟩
abbrev cX7_isComer : ByteArray := prog_9_method_58_code
def yX7_isComer : MethodName := ⟨RX7, "isComer", "(I)Z"⟩
abbrev cX7_ofComer : ByteArray := prog_9_method_59_code
def yX7_ofComer : MethodName := ⟨RX7, "ofComer", "(II)I"⟩
abbrev cX7_leave : ByteArray := prog_9_method_60_code
def yX7_leave : MethodName := ⟨RX7, "leave", "(I)I"⟩
abbrev cX7_line : ByteArray := prog_9_method_61_code
def yX7_line : MethodName := ⟨RX7, "line", "(I)I"⟩
abbrev cX7_envy : ByteArray := prog_9_method_62_code
def yX7_envy : MethodName := ⟨RX7, "envy", "()I"⟩
abbrev cX7_sheet : ByteArray := prog_9_method_63_code
def yX7_sheet : MethodName := ⟨RX7, "sheet", "(III)I"⟩
abbrev cX7_lose : ByteArray := prog_9_method_64_code
def yX7_lose : MethodName := ⟨RX7, "lose", "(I)I"⟩
abbrev cX7_put : ByteArray := prog_9_method_65_code
def yX7_put : MethodName := ⟨RX7, "put", "(III)I"⟩
abbrev cX7_cell : ByteArray := prog_9_method_66_code
def yX7_cell : MethodName := ⟨RX7, "cell", "(III)J"⟩
abbrev cX7_begins : ByteArray := prog_9_method_67_code
def yX7_begins : MethodName := ⟨RX7, "begins", "(I)V"⟩
abbrev cX7_tell : ByteArray := prog_9_method_68_code
def yX7_tell : MethodName := ⟨RX7, "tell", "(I)I"⟩
abbrev cX7_call : ByteArray := prog_9_method_69_code
def yX7_call : MethodName := ⟨RX7, "call", "(I)I"⟩
abbrev cX7_as : ByteArray := prog_9_method_70_code
def yX7_as : MethodName := ⟨RX7, "as", "(II)I"⟩
abbrev cX7_trace : ByteArray := prog_9_method_71_code
def yX7_trace : MethodName := ⟨RX7, "trace", "()I"⟩
abbrev cX7_fault : ByteArray := prog_9_method_72_code
def yX7_fault : MethodName := ⟨RX7, "fault", "()I"⟩
abbrev cX7_many : ByteArray := prog_9_method_73_code
def yX7_many : MethodName := ⟨RX7, "many", "(I)I"⟩
def RJ9 : String := "java/lang/Math"
def TJ9 : u_T := fun k => match k with
  | _ => ("", "", "", false)
def tyJ9 : Nat → FieldType := fun k => match k with
  | _ => .int
abbrev wsJ90 : List Cond := u_ws RJ9 TJ9 0
theorem nmJ9 : ∀ a, a < 0 → ∀ b, b < 0 → a ≠ b → (TJ9 a).2.1 ≠ (TJ9 b).2.1 := by decide +kernel
theorem tyJ9_ok : ∀ k, k < 0 → parseFieldDescriptor (TJ9 k).2.2.1 = some (tyJ9 k) := by decide +kernel
abbrev cJ9_floorDiv_f86c9 : ByteArray := prog_10_method_49_code
def yJ9_floorDiv_f86c9 : MethodName := ⟨RJ9, "floorDiv", "(JJ)J"⟩
abbrev cJ9_abs_067f4 : ByteArray := prog_10_method_61_code
def yJ9_abs_067f4 : MethodName := ⟨RJ9, "abs", "(J)J"⟩
abbrev cJ9_max_7cf53 : ByteArray := prog_10_method_65_code
def yJ9_max_7cf53 : MethodName := ⟨RJ9, "max", "(II)I"⟩
def RL : String := "RopeLineLaw"
abbrev cL_law : ByteArray := code
def yL_law : MethodName := ⟨RL, "law", "([I)Z"⟩
def wsX1_init : List Cond := .code yX1_init cX1_init 1 none :: ([.methodLink RX1 3 objectInit, .instanceMethod objectInit, .code objectInit ⟨#[0xb1]⟩ 1 none, .arrayClass .int, .fieldLink RX1 9 "RopeLine$Lengths" "joining" "[I", .arrayClass .long, .fieldLink RX1 15 "RopeLine$Lengths" "weights" "[J", .fieldLink RX1 19 "RopeLine$Lengths" "now" "[J", .fieldLink RX1 22 "RopeLine$Lengths" "then" "[J"] ++ wsX10)
def wsX0_init : List Cond := .code yX0_init cX0_init 1 none :: ([.methodLink RX0 3 objectInit, .instanceMethod objectInit, .code objectInit ⟨#[0xb1]⟩ 1 none, .classLink RX0 9 RX1, .instantiable RX1 7, .initialized RX1, .fieldLink RX0 12 "RopeLine$Gains" "lengths" "LRopeLine$Lengths;", .arrayClass .int, .fieldLink RX0 18 "RopeLine$Gains" "row" "[I", .fieldLink RX0 22 "RopeLine$Gains" "bestRow" "[I", .instanceMethod yX1_init, .code yX1_init cX1_init 1 none, .methodLink RX1 3 objectInit, .fieldLink RX1 9 "RopeLine$Lengths" "joining" "[I", .arrayClass .long, .fieldLink RX1 15 "RopeLine$Lengths" "weights" "[J", .fieldLink RX1 19 "RopeLine$Lengths" "now" "[J", .fieldLink RX1 22 "RopeLine$Lengths" "then" "[J"] ++ wsX10 ++ wsX00)
def wsX0_forgets : List Cond := .code yX0_forgets cX0_forgets 1 none :: ([.fieldLink RX0 25 "RopeLine$Gains" "knowsBest" "Z"] ++ wsX00)
def wsX6_at : List Cond := .code yX6_at cX6_at 2 (some .int) :: ([])
def wsX2_joining : List Cond := .code yX2_joining cX2_joining 5 (some .int) :: ([.fieldLink RX2 39 "RopeLine$Place" "sorts" "I", .fieldLink RX2 9 "RopeLine$Place" "twelfths" "[I", .static yX6_at, .initialized RX6, .code yX6_at cX6_at 2 (some .int)] ++ wsX20)
def wsX6_set : List Cond := .code yX6_set cX6_set 3 none :: ([])
def wsX6_set_ : List Cond := .code yX6_set_ cX6_set_ 4 none :: ([])
def wsX1_grows : List Cond := .code yX1_grows cX1_grows 2 (some .long) :: ([.fieldLink RX1 31 "RopeLine$Lengths" "served" "I", .fieldLink RX1 9 "RopeLine$Lengths" "joining" "[I", .static yX6_at, .initialized RX6, .code yX6_at cX6_at 2 (some .int)] ++ wsX10)
def wsX6_at_ : List Cond := .code yX6_at_ cX6_at_ 2 (some .long) :: ([])
def wsX1_shrinks : List Cond := .code yX1_shrinks cX1_shrinks 2 (some .long) :: ([.fieldLink RX1 31 "RopeLine$Lengths" "served" "I", .fieldLink RX1 32 "RopeLine$Lengths" "whole" "I", .fieldLink RX1 9 "RopeLine$Lengths" "joining" "[I", .static yX6_at, .initialized RX6, .code yX6_at cX6_at 2 (some .int)] ++ wsX10)
def wsX1_weigh : List Cond := .code yX1_weigh cX1_weigh 3 none :: ([.fieldLink RX1 15 "RopeLine$Lengths" "weights" "[J", .fieldLink RX1 64 "RopeLine$Lengths" "total" "J", .static yX6_set_, .initialized RX6, .code yX6_set_ cX6_set_ 4 none, .methodLink RX1 54 yX1_grows, .instanceMethod yX1_grows, .selects RX1 yX1_grows yX1_grows, .initialized RX1, .code yX1_grows cX1_grows 2 (some .long), .fieldLink RX1 31 "RopeLine$Lengths" "served" "I", .fieldLink RX1 9 "RopeLine$Lengths" "joining" "[I", .static yX6_at, .code yX6_at cX6_at 2 (some .int), .static yX6_at_, .code yX6_at_ cX6_at_ 2 (some .long), .methodLink RX1 61 yX1_shrinks, .instanceMethod yX1_shrinks, .selects RX1 yX1_shrinks yX1_shrinks, .code yX1_shrinks cX1_shrinks 2 (some .long), .fieldLink RX1 32 "RopeLine$Lengths" "whole" "I"] ++ wsX10)
def wsX1_comeByBars_r1 : List Cond := [Cond.fieldLink RX1 31 "RopeLine$Lengths" "served" "I", Cond.fieldLink RX1 32 "RopeLine$Lengths" "whole" "I", Cond.fieldLink RX1 9 "RopeLine$Lengths" "joining" "[I", Cond.methodLink RX1 35 yX2_joining, Cond.instanceMethod yX2_joining, Cond.selects RX2 yX2_joining yX2_joining, Cond.initialized RX2, Cond.code yX2_joining cX2_joining 5 (some .int), Cond.fieldLink RX2 39 "RopeLine$Place" "sorts" "I", Cond.fieldLink RX2 9 "RopeLine$Place" "twelfths" "[I", Cond.static yX6_at, Cond.initialized RX6, Cond.code yX6_at cX6_at 2 (some .int), Cond.static yX6_set, Cond.code yX6_set cX6_set 3 none, Cond.methodLink RX1 42 yX1_weigh, Cond.instanceMethod yX1_weigh, Cond.selects RX1 yX1_weigh yX1_weigh, Cond.initialized RX1, Cond.code yX1_weigh cX1_weigh 3 none, Cond.fieldLink RX1 15 "RopeLine$Lengths" "weights" "[J", Cond.fieldLink RX1 64 "RopeLine$Lengths" "total" "J", Cond.static yX6_set_, Cond.code yX6_set_ cX6_set_ 4 none]
def wsX1_comeByBars_r2 : List Cond := [Cond.methodLink RX1 54 yX1_grows, Cond.instanceMethod yX1_grows, Cond.selects RX1 yX1_grows yX1_grows, Cond.code yX1_grows cX1_grows 2 (some .long), Cond.static yX6_at_, Cond.code yX6_at_ cX6_at_ 2 (some .long), Cond.methodLink RX1 61 yX1_shrinks, Cond.instanceMethod yX1_shrinks, Cond.selects RX1 yX1_shrinks yX1_shrinks, Cond.code yX1_shrinks cX1_shrinks 2 (some .long)]
def wsX1_comeByBars : List Cond := .code yX1_comeByBars cX1_comeByBars 4 none :: ((wsX1_comeByBars_r1 ++ wsX1_comeByBars_r2) ++ wsX20 ++ wsX10)
def wsX1_found : List Cond := .code yX1_found cX1_found 2 (some .long) :: ([.fieldLink RX1 31 "RopeLine$Lengths" "served" "I", .fieldLink RX1 15 "RopeLine$Lengths" "weights" "[J", .static yX6_at_, .initialized RX6, .code yX6_at_ cX6_at_ 2 (some .long)] ++ wsX10)
def wsX1_foundBelow : List Cond := .code yX1_foundBelow cX1_foundBelow 5 (some .long) :: ([.methodLink RX1 68 yX1_found, .instanceMethod yX1_found, .selects RX1 yX1_found yX1_found, .initialized RX1, .code yX1_found cX1_found 2 (some .long), .fieldLink RX1 31 "RopeLine$Lengths" "served" "I", .fieldLink RX1 15 "RopeLine$Lengths" "weights" "[J", .static yX6_at_, .initialized RX6, .code yX6_at_ cX6_at_ 2 (some .long)] ++ wsX10)
def wsX1_lengthsByWeight : List Cond := .code yX1_lengthsByWeight cX1_lengthsByWeight 4 (some .long) :: ([.fieldLink RX1 15 "RopeLine$Lengths" "weights" "[J", .static yX6_at_, .initialized RX6, .code yX6_at_ cX6_at_ 2 (some .long)] ++ wsX10)
def wsX0_reckon_r1 : List Cond := [Cond.fieldLink RX0 12 "RopeLine$Gains" "lengths" "LRopeLine$Lengths;", Cond.fieldLink RX0 60 "RopeLine$Gains" "upper" "J", Cond.constantLong RX0 64 (144), Cond.fieldLink RX0 69 "RopeLine$Gains" "lower" "J", Cond.methodLink RX0 29 yX1_comeByBars, Cond.instanceMethod yX1_comeByBars, Cond.selects RX1 yX1_comeByBars yX1_comeByBars, Cond.initialized RX1, Cond.code yX1_comeByBars cX1_comeByBars 4 none, Cond.fieldLink RX1 31 "RopeLine$Lengths" "served" "I", Cond.fieldLink RX1 32 "RopeLine$Lengths" "whole" "I", Cond.fieldLink RX1 9 "RopeLine$Lengths" "joining" "[I", Cond.methodLink RX1 35 yX2_joining, Cond.instanceMethod yX2_joining, Cond.selects RX2 yX2_joining yX2_joining, Cond.initialized RX2, Cond.code yX2_joining cX2_joining 5 (some .int), Cond.fieldLink RX2 39 "RopeLine$Place" "sorts" "I", Cond.fieldLink RX2 9 "RopeLine$Place" "twelfths" "[I", Cond.static yX6_at, Cond.initialized RX6, Cond.code yX6_at cX6_at 2 (some .int), Cond.static yX6_set, Cond.code yX6_set cX6_set 3 none]
def wsX0_reckon_r2 : List Cond := [Cond.methodLink RX1 42 yX1_weigh, Cond.instanceMethod yX1_weigh, Cond.selects RX1 yX1_weigh yX1_weigh, Cond.code yX1_weigh cX1_weigh 3 none, Cond.fieldLink RX1 15 "RopeLine$Lengths" "weights" "[J", Cond.fieldLink RX1 64 "RopeLine$Lengths" "total" "J", Cond.static yX6_set_, Cond.code yX6_set_ cX6_set_ 4 none, Cond.methodLink RX1 54 yX1_grows, Cond.instanceMethod yX1_grows, Cond.selects RX1 yX1_grows yX1_grows, Cond.code yX1_grows cX1_grows 2 (some .long), Cond.static yX6_at_, Cond.code yX6_at_ cX6_at_ 2 (some .long), Cond.methodLink RX1 61 yX1_shrinks, Cond.instanceMethod yX1_shrinks, Cond.selects RX1 yX1_shrinks yX1_shrinks, Cond.code yX1_shrinks cX1_shrinks 2 (some .long), Cond.methodLink RX0 49 yX1_foundBelow, Cond.instanceMethod yX1_foundBelow, Cond.selects RX1 yX1_foundBelow yX1_foundBelow, Cond.code yX1_foundBelow cX1_foundBelow 5 (some .long), Cond.methodLink RX1 68 yX1_found, Cond.instanceMethod yX1_found]
def wsX0_reckon_r3 : List Cond := [Cond.selects RX1 yX1_found yX1_found, Cond.code yX1_found cX1_found 2 (some .long), Cond.methodLink RX0 56 yX1_lengthsByWeight, Cond.instanceMethod yX1_lengthsByWeight, Cond.selects RX1 yX1_lengthsByWeight yX1_lengthsByWeight, Cond.code yX1_lengthsByWeight cX1_lengthsByWeight 4 (some .long)]
def wsX0_reckon : List Cond := .code yX0_reckon cX0_reckon 6 none :: ((wsX0_reckon_r1 ++ (wsX0_reckon_r2 ++ wsX0_reckon_r3)) ++ wsX00 ++ wsX20 ++ wsX10)
def wsX0_rowBecomes : List Cond := .code yX0_rowBecomes cX0_rowBecomes 5 none :: ([.fieldLink RX0 18 "RopeLine$Gains" "row" "[I", .static yX6_set, .initialized RX6, .code yX6_set cX6_set 3 none] ++ wsX20 ++ wsX00)
def wsX6_rowsOf : List Cond := .code yX6_rowsOf cX6_rowsOf 3 (some .int) :: ([])
def wsJ9_floorDiv_f86c9 : List Cond := .code yJ9_floorDiv_f86c9 cJ9_floorDiv_f86c9 6 (some .long) :: ([])
def wsX6_compareShares : List Cond := .code yX6_compareShares cX6_compareShares 25 (some .int) :: ([.methodLink RX6 347 yJ9_floorDiv_f86c9, .static yJ9_floorDiv_f86c9, .initialized RJ9, .code yJ9_floorDiv_f86c9 cJ9_floorDiv_f86c9 6 (some .long)])
def wsX0_knowBest_r1 : List Cond := [Cond.fieldLink RX0 25 "RopeLine$Gains" "knowsBest" "Z", Cond.fieldLink RX0 18 "RopeLine$Gains" "row" "[I", Cond.fieldLink RX0 60 "RopeLine$Gains" "upper" "J", Cond.fieldLink RX0 69 "RopeLine$Gains" "lower" "J", Cond.fieldLink RX0 22 "RopeLine$Gains" "bestRow" "[I", Cond.static yX6_rowsOf, Cond.initialized RX6, Cond.code yX6_rowsOf cX6_rowsOf 3 (some .int), Cond.methodLink RX0 80 yX0_rowBecomes, Cond.instanceMethod yX0_rowBecomes, Cond.selects RX0 yX0_rowBecomes yX0_rowBecomes, Cond.initialized RX0, Cond.code yX0_rowBecomes cX0_rowBecomes 5 none, Cond.static yX6_set, Cond.code yX6_set cX6_set 3 none, Cond.methodLink RX0 84 yX0_reckon, Cond.instanceMethod yX0_reckon, Cond.selects RX0 yX0_reckon yX0_reckon, Cond.code yX0_reckon cX0_reckon 6 none, Cond.fieldLink RX0 12 "RopeLine$Gains" "lengths" "LRopeLine$Lengths;", Cond.constantLong RX0 64 (144), Cond.methodLink RX0 29 yX1_comeByBars, Cond.instanceMethod yX1_comeByBars, Cond.selects RX1 yX1_comeByBars yX1_comeByBars]
def wsX0_knowBest_r2 : List Cond := [Cond.initialized RX1, Cond.code yX1_comeByBars cX1_comeByBars 4 none, Cond.fieldLink RX1 31 "RopeLine$Lengths" "served" "I", Cond.fieldLink RX1 32 "RopeLine$Lengths" "whole" "I", Cond.fieldLink RX1 9 "RopeLine$Lengths" "joining" "[I", Cond.methodLink RX1 35 yX2_joining, Cond.instanceMethod yX2_joining, Cond.selects RX2 yX2_joining yX2_joining, Cond.initialized RX2, Cond.code yX2_joining cX2_joining 5 (some .int), Cond.fieldLink RX2 39 "RopeLine$Place" "sorts" "I", Cond.fieldLink RX2 9 "RopeLine$Place" "twelfths" "[I", Cond.static yX6_at, Cond.code yX6_at cX6_at 2 (some .int), Cond.methodLink RX1 42 yX1_weigh, Cond.instanceMethod yX1_weigh, Cond.selects RX1 yX1_weigh yX1_weigh, Cond.code yX1_weigh cX1_weigh 3 none, Cond.fieldLink RX1 15 "RopeLine$Lengths" "weights" "[J", Cond.fieldLink RX1 64 "RopeLine$Lengths" "total" "J", Cond.static yX6_set_, Cond.code yX6_set_ cX6_set_ 4 none, Cond.methodLink RX1 54 yX1_grows, Cond.instanceMethod yX1_grows]
def wsX0_knowBest_r3 : List Cond := [Cond.selects RX1 yX1_grows yX1_grows, Cond.code yX1_grows cX1_grows 2 (some .long), Cond.static yX6_at_, Cond.code yX6_at_ cX6_at_ 2 (some .long), Cond.methodLink RX1 61 yX1_shrinks, Cond.instanceMethod yX1_shrinks, Cond.selects RX1 yX1_shrinks yX1_shrinks, Cond.code yX1_shrinks cX1_shrinks 2 (some .long), Cond.methodLink RX0 49 yX1_foundBelow, Cond.instanceMethod yX1_foundBelow, Cond.selects RX1 yX1_foundBelow yX1_foundBelow, Cond.code yX1_foundBelow cX1_foundBelow 5 (some .long), Cond.methodLink RX1 68 yX1_found, Cond.instanceMethod yX1_found, Cond.selects RX1 yX1_found yX1_found, Cond.code yX1_found cX1_found 2 (some .long), Cond.methodLink RX0 56 yX1_lengthsByWeight, Cond.instanceMethod yX1_lengthsByWeight, Cond.selects RX1 yX1_lengthsByWeight yX1_lengthsByWeight, Cond.code yX1_lengthsByWeight cX1_lengthsByWeight 4 (some .long), Cond.static yX6_compareShares, Cond.code yX6_compareShares cX6_compareShares 25 (some .int), Cond.methodLink RX6 347 yJ9_floorDiv_f86c9, Cond.static yJ9_floorDiv_f86c9]
def wsX0_knowBest_r4 : List Cond := [Cond.initialized RJ9, Cond.code yJ9_floorDiv_f86c9 cJ9_floorDiv_f86c9 6 (some .long)]
def wsX0_knowBest : List Cond := .code yX0_knowBest cX0_knowBest 9 none :: ((wsX0_knowBest_r1 ++ (wsX0_knowBest_r2 ++ (wsX0_knowBest_r3 ++ wsX0_knowBest_r4))) ++ wsX00 ++ wsX20 ++ wsX10)
def wsX1_comeBlind_r1 : List Cond := [Cond.fieldLink RX1 31 "RopeLine$Lengths" "served" "I", Cond.fieldLink RX1 32 "RopeLine$Lengths" "whole" "I", Cond.fieldLink RX1 9 "RopeLine$Lengths" "joining" "[I", Cond.static yX6_at, Cond.initialized RX6, Cond.code yX6_at cX6_at 2 (some .int), Cond.static yX6_set, Cond.code yX6_set cX6_set 3 none, Cond.methodLink RX1 42 yX1_weigh, Cond.instanceMethod yX1_weigh, Cond.selects RX1 yX1_weigh yX1_weigh, Cond.initialized RX1, Cond.code yX1_weigh cX1_weigh 3 none, Cond.fieldLink RX1 15 "RopeLine$Lengths" "weights" "[J", Cond.fieldLink RX1 64 "RopeLine$Lengths" "total" "J", Cond.static yX6_set_, Cond.code yX6_set_ cX6_set_ 4 none, Cond.methodLink RX1 54 yX1_grows, Cond.instanceMethod yX1_grows, Cond.selects RX1 yX1_grows yX1_grows, Cond.code yX1_grows cX1_grows 2 (some .long), Cond.static yX6_at_, Cond.code yX6_at_ cX6_at_ 2 (some .long), Cond.methodLink RX1 61 yX1_shrinks]
def wsX1_comeBlind_r2 : List Cond := [Cond.instanceMethod yX1_shrinks, Cond.selects RX1 yX1_shrinks yX1_shrinks, Cond.code yX1_shrinks cX1_shrinks 2 (some .long)]
def wsX1_comeBlind : List Cond := .code yX1_comeBlind cX1_comeBlind 4 none :: ((wsX1_comeBlind_r1 ++ wsX1_comeBlind_r2) ++ wsX20 ++ wsX10)
def wsX6_commonDivisor : List Cond := .code yX6_commonDivisor cX6_commonDivisor 11 (some .long) :: ([])
def wsX6_share : List Cond := .code yX6_share cX6_share 7 (some .long) :: ([.methodLink RX6 337 Lib.MathLoose.abs_long.x, .static Lib.MathLoose.abs_long.x, .initialized "java/lang/Math", .code Lib.MathLoose.abs_long.x Lib.MathLoose.abs_long.code 2 (some .long), .constantLong RX6 156 (-9223372036854775808), .methodLink RX6 343 yX6_commonDivisor, .static yX6_commonDivisor, .initialized RX6, .code yX6_commonDivisor cX6_commonDivisor 11 (some .long)])
def wsX1_tillLess_r1 : List Cond := [Cond.fieldLink RX1 32 "RopeLine$Lengths" "whole" "I", Cond.methodLink RX1 54 yX1_grows, Cond.instanceMethod yX1_grows, Cond.selects RX1 yX1_grows yX1_grows, Cond.initialized RX1, Cond.code yX1_grows cX1_grows 2 (some .long), Cond.fieldLink RX1 31 "RopeLine$Lengths" "served" "I", Cond.fieldLink RX1 9 "RopeLine$Lengths" "joining" "[I", Cond.static yX6_at, Cond.initialized RX6, Cond.code yX6_at cX6_at 2 (some .int), Cond.methodLink RX1 61 yX1_shrinks, Cond.instanceMethod yX1_shrinks, Cond.selects RX1 yX1_shrinks yX1_shrinks, Cond.code yX1_shrinks cX1_shrinks 2 (some .long), Cond.static yX6_share, Cond.code yX6_share cX6_share 7 (some .long), Cond.methodLink RX6 337 Lib.MathLoose.abs_long.x, Cond.static Lib.MathLoose.abs_long.x, Cond.initialized "java/lang/Math", Cond.code Lib.MathLoose.abs_long.x Lib.MathLoose.abs_long.code 2 (some .long), Cond.constantLong RX6 156 (-9223372036854775808), Cond.methodLink RX6 343 yX6_commonDivisor, Cond.static yX6_commonDivisor]
def wsX1_tillLess_r2 : List Cond := [Cond.code yX6_commonDivisor cX6_commonDivisor 11 (some .long)]
def wsX1_tillLess : List Cond := .code yX1_tillLess cX1_tillLess 8 (some .long) :: ((wsX1_tillLess_r1 ++ wsX1_tillLess_r2) ++ wsX10)
def wsX1_goOn : List Cond := .code yX1_goOn cX1_goOn 6 none :: ([.fieldLink RX1 32 "RopeLine$Lengths" "whole" "I", .fieldLink RX1 19 "RopeLine$Lengths" "now" "[J", .fieldLink RX1 22 "RopeLine$Lengths" "then" "[J", .methodLink RX1 54 yX1_grows, .instanceMethod yX1_grows, .selects RX1 yX1_grows yX1_grows, .initialized RX1, .code yX1_grows cX1_grows 2 (some .long), .fieldLink RX1 31 "RopeLine$Lengths" "served" "I", .fieldLink RX1 9 "RopeLine$Lengths" "joining" "[I", .static yX6_at, .initialized RX6, .code yX6_at cX6_at 2 (some .int), .methodLink RX1 61 yX1_shrinks, .instanceMethod yX1_shrinks, .selects RX1 yX1_shrinks yX1_shrinks, .code yX1_shrinks cX1_shrinks 2 (some .long), .static yX6_at_, .code yX6_at_ cX6_at_ 2 (some .long), .static yX6_set_, .code yX6_set_ cX6_set_ 4 none] ++ wsX10)
def wsX1_afterMinutes_r1 : List Cond := [Cond.fieldLink RX1 19 "RopeLine$Lengths" "now" "[J", Cond.fieldLink RX1 32 "RopeLine$Lengths" "whole" "I", Cond.static yX6_set_, Cond.initialized RX6, Cond.code yX6_set_ cX6_set_ 4 none, Cond.methodLink RX1 75 yX1_goOn, Cond.instanceMethod yX1_goOn, Cond.selects RX1 yX1_goOn yX1_goOn, Cond.initialized RX1, Cond.code yX1_goOn cX1_goOn 6 none, Cond.fieldLink RX1 22 "RopeLine$Lengths" "then" "[J", Cond.methodLink RX1 54 yX1_grows, Cond.instanceMethod yX1_grows, Cond.selects RX1 yX1_grows yX1_grows, Cond.code yX1_grows cX1_grows 2 (some .long), Cond.fieldLink RX1 31 "RopeLine$Lengths" "served" "I", Cond.fieldLink RX1 9 "RopeLine$Lengths" "joining" "[I", Cond.static yX6_at, Cond.code yX6_at cX6_at 2 (some .int), Cond.methodLink RX1 61 yX1_shrinks, Cond.instanceMethod yX1_shrinks, Cond.selects RX1 yX1_shrinks yX1_shrinks, Cond.code yX1_shrinks cX1_shrinks 2 (some .long), Cond.static yX6_at_]
def wsX1_afterMinutes_r2 : List Cond := [Cond.code yX6_at_ cX6_at_ 2 (some .long), Cond.static yX6_share, Cond.code yX6_share cX6_share 7 (some .long), Cond.methodLink RX6 337 Lib.MathLoose.abs_long.x, Cond.static Lib.MathLoose.abs_long.x, Cond.initialized "java/lang/Math", Cond.code Lib.MathLoose.abs_long.x Lib.MathLoose.abs_long.code 2 (some .long), Cond.constantLong RX6 156 (-9223372036854775808), Cond.methodLink RX6 343 yX6_commonDivisor, Cond.static yX6_commonDivisor, Cond.code yX6_commonDivisor cX6_commonDivisor 11 (some .long)]
def wsX1_afterMinutes : List Cond := .code yX1_afterMinutes cX1_afterMinutes 8 (some .long) :: ((wsX1_afterMinutes_r1 ++ wsX1_afterMinutes_r2) ++ wsX10)
def wsX2_init : List Cond := .code yX2_init cX2_init 1 none :: ([.methodLink RX2 3 objectInit, .instanceMethod objectInit, .code objectInit ⟨#[0xb1]⟩ 1 none, .arrayClass .int, .fieldLink RX2 9 "RopeLine$Place" "twelfths" "[I", .fieldLink RX2 15 "RopeLine$Place" "worths" "[I", .fieldLink RX2 18 "RopeLine$Place" "bars" "[I"] ++ wsX20)
def wsX2_becomes : List Cond := .code yX2_becomes cX2_becomes 3 none :: ([.fieldLink RX2 21 "RopeLine$Place" "isTold" "Z", .fieldLink RX2 31 "RopeLine$Place" "served" "I", .fieldLink RX2 35 "RopeLine$Place" "cost" "I", .fieldLink RX2 39 "RopeLine$Place" "sorts" "I", .fieldLink RX2 9 "RopeLine$Place" "twelfths" "[I", .fieldLink RX2 15 "RopeLine$Place" "worths" "[I", .fieldLink RX2 18 "RopeLine$Place" "bars" "[I", .fieldLink RX2 50 "RopeLine$Place" "toll" "I", .fieldLink RX2 53 "RopeLine$Place" "step" "I", .fieldLink RX2 56 "RopeLine$Place" "lie" "I", .static yX6_at, .initialized RX6, .code yX6_at cX6_at 2 (some .int), .static yX6_set, .code yX6_set cX6_set 3 none] ++ wsX20 ++ wsX50)
def wsX6_isWithin : List Cond := .code yX6_isWithin cX6_isWithin 3 (some .boolean) :: ([])
def wsX2_has : List Cond := .code yX2_has cX2_has 2 (some .boolean) :: ([.fieldLink RX2 39 "RopeLine$Place" "sorts" "I", .static yX6_isWithin, .initialized RX6, .code yX6_isWithin cX6_isWithin 3 (some .boolean)] ++ wsX20)
def wsX2_twelfthsTogether : List Cond := .code yX2_twelfthsTogether cX2_twelfthsTogether 3 (some .int) :: ([.fieldLink RX2 39 "RopeLine$Place" "sorts" "I", .fieldLink RX2 9 "RopeLine$Place" "twelfths" "[I", .static yX6_at, .initialized RX6, .code yX6_at cX6_at 2 (some .int)] ++ wsX20)
def wsX2_sortDrawn : List Cond := .code yX2_sortDrawn cX2_sortDrawn 4 (some .int) :: ([.fieldLink RX2 39 "RopeLine$Place" "sorts" "I", .fieldLink RX2 9 "RopeLine$Place" "twelfths" "[I", .static yX6_at, .initialized RX6, .code yX6_at cX6_at 2 (some .int)] ++ wsX20)
def wsX2_minutesAsTold : List Cond := .code yX2_minutesAsTold cX2_minutesAsTold 4 (some .int) :: ([.fieldLink RX2 31 "RopeLine$Place" "served" "I", .fieldLink RX2 53 "RopeLine$Place" "step" "I", .fieldLink RX2 56 "RopeLine$Place" "lie" "I", .methodLink RX2 63 Lib.Math.max.name, .static Lib.Math.max.name, .initialized "java/lang/Math", .code Lib.Math.max.name Lib.Math.max.code 2 (some .int)] ++ wsX20)
def wsX2_hisBarUnseen : List Cond := .code yX2_hisBarUnseen cX2_hisBarUnseen 4 (some .int) :: ([.fieldLink RX2 15 "RopeLine$Place" "worths" "[I", .fieldLink RX2 31 "RopeLine$Place" "served" "I", .fieldLink RX2 35 "RopeLine$Place" "cost" "I", .static yX6_at, .initialized RX6, .code yX6_at cX6_at 2 (some .int)] ++ wsX20)
def wsX2_hisBar : List Cond := .code yX2_hisBar cX2_hisBar 3 (some .int) :: ([.fieldLink RX2 53 "RopeLine$Place" "step" "I", .fieldLink RX2 50 "RopeLine$Place" "toll" "I", .fieldLink RX2 15 "RopeLine$Place" "worths" "[I", .fieldLink RX2 35 "RopeLine$Place" "cost" "I", .methodLink RX2 69 yX2_hisBarUnseen, .instanceMethod yX2_hisBarUnseen, .selects RX2 yX2_hisBarUnseen yX2_hisBarUnseen, .initialized RX2, .code yX2_hisBarUnseen cX2_hisBarUnseen 4 (some .int), .fieldLink RX2 31 "RopeLine$Place" "served" "I", .static yX6_at, .initialized RX6, .code yX6_at cX6_at 2 (some .int), .methodLink RX2 72 yX2_minutesAsTold, .instanceMethod yX2_minutesAsTold, .selects RX2 yX2_minutesAsTold yX2_minutesAsTold, .code yX2_minutesAsTold cX2_minutesAsTold 4 (some .int), .fieldLink RX2 56 "RopeLine$Place" "lie" "I", .methodLink RX2 63 Lib.Math.max.name, .static Lib.Math.max.name, .initialized "java/lang/Math", .code Lib.Math.max.name Lib.Math.max.code 2 (some .int)] ++ wsX20)
def wsX3_init : List Cond := .code yX3_init cX3_init 1 none :: ([.methodLink RX3 3 objectInit, .instanceMethod objectInit, .code objectInit ⟨#[0xb1]⟩ 1 none, .arrayClass .int, .fieldLink RX3 9 "RopeLine$Queue" "kinds" "[I", .fieldLink RX3 15 "RopeLine$Queue" "sorts" "[I", .fieldLink RX3 18 "RopeLine$Queue" "waited" "[I", .fieldLink RX3 21 "RopeLine$Queue" "cameIn" "[I", .fieldLink RX3 24 "RopeLine$Queue" "servedIn" "[I", .fieldLink RX3 27 "RopeLine$Queue" "row" "[I"] ++ wsX30)
def wsX3_empties : List Cond := .code yX3_empties cX3_empties 1 none :: ([.fieldLink RX3 30 "RopeLine$Queue" "comers" "I", .fieldLink RX3 34 "RopeLine$Queue" "standing" "I", .fieldLink RX3 37 "RopeLine$Queue" "minutes" "I"] ++ wsX30)
def wsX3_has : List Cond := .code yX3_has cX3_has 2 (some .boolean) :: ([.fieldLink RX3 30 "RopeLine$Queue" "comers" "I", .static yX6_isWithin, .initialized RX6, .code yX6_isWithin cX6_isWithin 3 (some .boolean)] ++ wsX30)
def wsX3_isFull : List Cond := .code yX3_isFull cX3_isFull 1 (some .boolean) :: ([.fieldLink RX3 30 "RopeLine$Queue" "comers" "I"] ++ wsX30)
def wsX3_allWait : List Cond := .code yX3_allWait cX3_allWait 3 none :: ([.fieldLink RX3 34 "RopeLine$Queue" "standing" "I", .fieldLink RX3 27 "RopeLine$Queue" "row" "[I", .fieldLink RX3 18 "RopeLine$Queue" "waited" "[I", .static yX6_at, .initialized RX6, .code yX6_at cX6_at 2 (some .int), .static yX6_set, .code yX6_set cX6_set 3 none] ++ wsX30)
def wsX3_worthOf : List Cond := .code yX3_worthOf cX3_worthOf 3 (some .int) :: ([.fieldLink RX3 15 "RopeLine$Queue" "sorts" "[I", .fieldLink RX3 27 "RopeLine$Queue" "row" "[I", .static yX6_at, .initialized RX6, .code yX6_at cX6_at 2 (some .int)] ++ wsX20 ++ wsX30)
def wsX3_nextBy : List Cond := .code yX3_nextBy cX3_nextBy 5 (some .int) :: ([.fieldLink RX3 34 "RopeLine$Queue" "standing" "I", .methodLink RX3 52 yX3_worthOf, .instanceMethod yX3_worthOf, .selects RX3 yX3_worthOf yX3_worthOf, .initialized RX3, .code yX3_worthOf cX3_worthOf 3 (some .int), .fieldLink RX3 15 "RopeLine$Queue" "sorts" "[I", .fieldLink RX3 27 "RopeLine$Queue" "row" "[I", .static yX6_at, .initialized RX6, .code yX6_at cX6_at 2 (some .int)] ++ wsX30 ++ wsX20)
def wsX3_takeOut : List Cond := .code yX3_takeOut cX3_takeOut 3 none :: ([.fieldLink RX3 34 "RopeLine$Queue" "standing" "I", .fieldLink RX3 27 "RopeLine$Queue" "row" "[I", .static yX6_at, .initialized RX6, .code yX6_at cX6_at 2 (some .int), .static yX6_set, .code yX6_set cX6_set 3 none] ++ wsX30)
def wsX3_serve : List Cond := .code yX3_serve cX3_serve 3 (some .int) :: ([.fieldLink RX3 27 "RopeLine$Queue" "row" "[I", .fieldLink RX3 9 "RopeLine$Queue" "kinds" "[I", .fieldLink RX3 24 "RopeLine$Queue" "servedIn" "[I", .fieldLink RX3 37 "RopeLine$Queue" "minutes" "I", .static yX6_at, .initialized RX6, .code yX6_at cX6_at 2 (some .int), .methodLink RX3 61 yX3_takeOut, .instanceMethod yX3_takeOut, .selects RX3 yX3_takeOut yX3_takeOut, .initialized RX3, .code yX3_takeOut cX3_takeOut 3 none, .fieldLink RX3 34 "RopeLine$Queue" "standing" "I", .static yX6_set, .code yX6_set cX6_set 3 none] ++ wsX30)
def wsX3_comes : List Cond := .code yX3_comes cX3_comes 4 (some .boolean) :: ([.fieldLink RX3 34 "RopeLine$Queue" "standing" "I", .fieldLink RX3 9 "RopeLine$Queue" "kinds" "[I", .fieldLink RX3 30 "RopeLine$Queue" "comers" "I", .fieldLink RX3 15 "RopeLine$Queue" "sorts" "[I", .fieldLink RX3 18 "RopeLine$Queue" "waited" "[I", .fieldLink RX3 21 "RopeLine$Queue" "cameIn" "[I", .fieldLink RX3 37 "RopeLine$Queue" "minutes" "I", .fieldLink RX3 24 "RopeLine$Queue" "servedIn" "[I", .fieldLink RX3 27 "RopeLine$Queue" "row" "[I", .static yX6_set, .initialized RX6, .code yX6_set cX6_set 3 none] ++ wsX30)
def wsX3_placeOf : List Cond := .code yX3_placeOf cX3_placeOf 3 (some .int) :: ([.fieldLink RX3 34 "RopeLine$Queue" "standing" "I", .fieldLink RX3 27 "RopeLine$Queue" "row" "[I", .static yX6_at, .initialized RX6, .code yX6_at cX6_at 2 (some .int)] ++ wsX30)
def wsX3_done : List Cond := .code yX3_done cX3_done 3 (some .int) :: ([.fieldLink RX3 30 "RopeLine$Queue" "comers" "I", .fieldLink RX3 9 "RopeLine$Queue" "kinds" "[I", .static yX6_at, .initialized RX6, .code yX6_at cX6_at 2 (some .int)] ++ wsX30)
def wsX3_envies : List Cond := .code yX3_envies cX3_envies 3 (some .boolean) :: ([.fieldLink RX3 9 "RopeLine$Queue" "kinds" "[I", .fieldLink RX3 24 "RopeLine$Queue" "servedIn" "[I", .static yX6_at, .initialized RX6, .code yX6_at cX6_at 2 (some .int)] ++ wsX30)
def wsX3_envious : List Cond := .code yX3_envious cX3_envious 4 (some .int) :: ([.fieldLink RX3 30 "RopeLine$Queue" "comers" "I", .methodLink RX3 65 yX3_envies, .instanceMethod yX3_envies, .selects RX3 yX3_envies yX3_envies, .initialized RX3, .code yX3_envies cX3_envies 3 (some .boolean), .fieldLink RX3 9 "RopeLine$Queue" "kinds" "[I", .fieldLink RX3 24 "RopeLine$Queue" "servedIn" "[I", .static yX6_at, .initialized RX6, .code yX6_at cX6_at 2 (some .int)] ++ wsX30)
def wsX4_init : List Cond := .code yX4_init cX4_init 2 none :: ([.methodLink RX4 3 objectInit, .instanceMethod objectInit, .code objectInit ⟨#[0xb1]⟩ 1 none, .arrayClass .int, .fieldLink RX4 9 "RopeLine$Sheets" "lanes" "[I", .fieldLink RX4 15 "RopeLine$Sheets" "sizes" "[I", .fieldLink RX4 18 "RopeLine$Sheets" "cells" "[I", .static yX6_set, .initialized RX6, .code yX6_set cX6_set 3 none] ++ wsX40)
def wsX4_has : List Cond := .code yX4_has cX4_has 2 (some .boolean) :: ([.static yX6_isWithin, .initialized RX6, .code yX6_isWithin cX6_isWithin 3 (some .boolean)])
def wsX4_hasNothing : List Cond := .code yX4_hasNothing cX4_hasNothing 2 (some .boolean) :: ([.fieldLink RX4 9 "RopeLine$Sheets" "lanes" "[I", .static yX6_at, .initialized RX6, .code yX6_at cX6_at 2 (some .int)] ++ wsX40)
def wsX4_isOfAnotherLane : List Cond := .code yX4_isOfAnotherLane cX4_isOfAnotherLane 3 (some .boolean) :: ([.fieldLink RX4 9 "RopeLine$Sheets" "lanes" "[I", .methodLink RX4 33 yX4_hasNothing, .instanceMethod yX4_hasNothing, .selects RX4 yX4_hasNothing yX4_hasNothing, .initialized RX4, .code yX4_hasNothing cX4_hasNothing 2 (some .boolean), .static yX6_at, .initialized RX6, .code yX6_at cX6_at 2 (some .int)] ++ wsX40)
def wsX4_sizeOf : List Cond := .code yX4_sizeOf cX4_sizeOf 2 (some .int) :: ([.fieldLink RX4 15 "RopeLine$Sheets" "sizes" "[I", .static yX6_at, .initialized RX6, .code yX6_at cX6_at 2 (some .int)] ++ wsX40)
def wsX4_indexOf : List Cond := .code yX4_indexOf cX4_indexOf 3 (some .int) :: ([])
def wsX4_renew : List Cond := .code yX4_renew cX4_renew 5 none :: ([.fieldLink RX4 9 "RopeLine$Sheets" "lanes" "[I", .fieldLink RX4 15 "RopeLine$Sheets" "sizes" "[I", .fieldLink RX4 18 "RopeLine$Sheets" "cells" "[I", .static yX6_set, .initialized RX6, .code yX6_set cX6_set 3 none, .methodLink RX4 37 yX4_indexOf, .instanceMethod yX4_indexOf, .selects RX4 yX4_indexOf yX4_indexOf, .initialized RX4, .code yX4_indexOf cX4_indexOf 3 (some .int)] ++ wsX40)
def wsX4_forget : List Cond := .code yX4_forget cX4_forget 2 none :: ([.fieldLink RX4 9 "RopeLine$Sheets" "lanes" "[I", .fieldLink RX4 15 "RopeLine$Sheets" "sizes" "[I", .static yX6_set, .initialized RX6, .code yX6_set cX6_set 3 none] ++ wsX40)
def wsX4_read : List Cond := .code yX4_read cX4_read 3 (some .int) :: ([.fieldLink RX4 18 "RopeLine$Sheets" "cells" "[I", .methodLink RX4 37 yX4_indexOf, .instanceMethod yX4_indexOf, .selects RX4 yX4_indexOf yX4_indexOf, .initialized RX4, .code yX4_indexOf cX4_indexOf 3 (some .int), .static yX6_at, .initialized RX6, .code yX6_at cX6_at 2 (some .int)] ++ wsX40)
def wsX4_write : List Cond := .code yX4_write cX4_write 5 none :: ([.fieldLink RX4 9 "RopeLine$Sheets" "lanes" "[I", .fieldLink RX4 18 "RopeLine$Sheets" "cells" "[I", .static yX6_at, .initialized RX6, .code yX6_at cX6_at 2 (some .int), .methodLink RX4 37 yX4_indexOf, .instanceMethod yX4_indexOf, .selects RX4 yX4_indexOf yX4_indexOf, .initialized RX4, .code yX4_indexOf cX4_indexOf 3 (some .int), .static yX6_set, .code yX6_set cX6_set 3 none] ++ wsX40)
def wsX5_init : List Cond := .code yX5_init cX5_init 2 none :: ([.methodLink RX5 3 objectInit, .instanceMethod objectInit, .code objectInit ⟨#[0xb1]⟩ 1 none, .arrayClass .int, .fieldLink RX5 9 "RopeLine$Text" "twelfths" "[I", .fieldLink RX5 15 "RopeLine$Text" "worths" "[I", .fieldLink RX5 18 "RopeLine$Text" "sheets" "LRopeLine$Sheets;"] ++ wsX50)
def wsX5_codeAtNext : List Cond := .code yX5_codeAtNext cX5_codeAtNext 1 (some .int) :: ([.fieldLink RX5 18 "RopeLine$Text" "sheets" "LRopeLine$Sheets;", .fieldLink RX5 28 "RopeLine$Text" "start" "I", .fieldLink RX5 35 "RopeLine$Text" "next" "I", .static yX6_at, .initialized RX6, .code yX6_at cX6_at 2 (some .int)] ++ wsX50 ++ wsX40)
def wsX5_takes : List Cond := .code yX5_takes cX5_takes 2 (some .boolean) :: ([.fieldLink RX5 35 "RopeLine$Text" "next" "I", .fieldLink RX5 32 "RopeLine$Text" "codes" "I", .methodLink RX5 68 yX5_codeAtNext, .instanceMethod yX5_codeAtNext, .selects RX5 yX5_codeAtNext yX5_codeAtNext, .initialized RX5, .code yX5_codeAtNext cX5_codeAtNext 1 (some .int), .fieldLink RX5 18 "RopeLine$Text" "sheets" "LRopeLine$Sheets;", .fieldLink RX5 28 "RopeLine$Text" "start" "I", .static yX6_at, .initialized RX6, .code yX6_at cX6_at 2 (some .int)] ++ wsX50 ++ wsX40)
def wsX5_isDigitNext : List Cond := .code yX5_isDigitNext cX5_isDigitNext 1 (some .boolean) :: ([.fieldLink RX5 35 "RopeLine$Text" "next" "I", .fieldLink RX5 32 "RopeLine$Text" "codes" "I", .methodLink RX5 68 yX5_codeAtNext, .instanceMethod yX5_codeAtNext, .selects RX5 yX5_codeAtNext yX5_codeAtNext, .initialized RX5, .code yX5_codeAtNext cX5_codeAtNext 1 (some .int), .fieldLink RX5 18 "RopeLine$Text" "sheets" "LRopeLine$Sheets;", .fieldLink RX5 28 "RopeLine$Text" "start" "I", .static yX6_at, .initialized RX6, .code yX6_at cX6_at 2 (some .int), .static yX6_isWithin, .code yX6_isWithin cX6_isWithin 3 (some .boolean)] ++ wsX50 ++ wsX40)
def wsX5_takesNumber : List Cond := .code yX5_takesNumber cX5_takesNumber 5 (some .boolean) :: ([.fieldLink RX5 35 "RopeLine$Text" "next" "I", .fieldLink RX5 52 "RopeLine$Text" "number" "I", .methodLink RX5 72 yX5_isDigitNext, .instanceMethod yX5_isDigitNext, .selects RX5 yX5_isDigitNext yX5_isDigitNext, .initialized RX5, .code yX5_isDigitNext cX5_isDigitNext 1 (some .boolean), .fieldLink RX5 32 "RopeLine$Text" "codes" "I", .methodLink RX5 68 yX5_codeAtNext, .instanceMethod yX5_codeAtNext, .selects RX5 yX5_codeAtNext yX5_codeAtNext, .code yX5_codeAtNext cX5_codeAtNext 1 (some .int), .fieldLink RX5 18 "RopeLine$Text" "sheets" "LRopeLine$Sheets;", .fieldLink RX5 28 "RopeLine$Text" "start" "I", .static yX6_at, .initialized RX6, .code yX6_at cX6_at 2 (some .int), .static yX6_isWithin, .code yX6_isWithin cX6_isWithin 3 (some .boolean)] ++ wsX50 ++ wsX40)
def wsX5_takesSort_r1 : List Cond := [Cond.fieldLink RX5 41 "RopeLine$Text" "left" "I", Cond.fieldLink RX5 52 "RopeLine$Text" "number" "I", Cond.fieldLink RX5 9 "RopeLine$Text" "twelfths" "[I", Cond.fieldLink RX5 15 "RopeLine$Text" "worths" "[I", Cond.fieldLink RX5 38 "RopeLine$Text" "sorts" "I", Cond.methodLink RX5 44 yX5_takes, Cond.instanceMethod yX5_takes, Cond.selects RX5 yX5_takes yX5_takes, Cond.initialized RX5, Cond.code yX5_takes cX5_takes 2 (some .boolean), Cond.fieldLink RX5 35 "RopeLine$Text" "next" "I", Cond.fieldLink RX5 32 "RopeLine$Text" "codes" "I", Cond.methodLink RX5 68 yX5_codeAtNext, Cond.instanceMethod yX5_codeAtNext, Cond.selects RX5 yX5_codeAtNext yX5_codeAtNext, Cond.code yX5_codeAtNext cX5_codeAtNext 1 (some .int), Cond.fieldLink RX5 18 "RopeLine$Text" "sheets" "LRopeLine$Sheets;", Cond.fieldLink RX5 28 "RopeLine$Text" "start" "I", Cond.static yX6_at, Cond.initialized RX6, Cond.code yX6_at cX6_at 2 (some .int), Cond.methodLink RX5 48 yX5_takesNumber, Cond.instanceMethod yX5_takesNumber, Cond.selects RX5 yX5_takesNumber yX5_takesNumber]
def wsX5_takesSort_r2 : List Cond := [Cond.code yX5_takesNumber cX5_takesNumber 5 (some .boolean), Cond.methodLink RX5 72 yX5_isDigitNext, Cond.instanceMethod yX5_isDigitNext, Cond.selects RX5 yX5_isDigitNext yX5_isDigitNext, Cond.code yX5_isDigitNext cX5_isDigitNext 1 (some .boolean), Cond.static yX6_isWithin, Cond.code yX6_isWithin cX6_isWithin 3 (some .boolean), Cond.static yX6_set, Cond.code yX6_set cX6_set 3 none]
def wsX5_takesSort : List Cond := .code yX5_takesSort cX5_takesSort 2 (some .boolean) :: ((wsX5_takesSort_r1 ++ wsX5_takesSort_r2) ++ wsX50 ++ wsX40)
def wsX5_isTaken_r1 : List Cond := [Cond.fieldLink RX5 18 "RopeLine$Text" "sheets" "LRopeLine$Sheets;", Cond.fieldLink RX5 28 "RopeLine$Text" "start" "I", Cond.fieldLink RX5 32 "RopeLine$Text" "codes" "I", Cond.fieldLink RX5 35 "RopeLine$Text" "next" "I", Cond.fieldLink RX5 38 "RopeLine$Text" "sorts" "I", Cond.fieldLink RX5 41 "RopeLine$Text" "left" "I", Cond.fieldLink RX5 52 "RopeLine$Text" "number" "I", Cond.fieldLink RX5 55 "RopeLine$Text" "served" "I", Cond.fieldLink RX5 58 "RopeLine$Text" "cost" "I", Cond.methodLink RX5 22 yX4_indexOf, Cond.instanceMethod yX4_indexOf, Cond.selects RX4 yX4_indexOf yX4_indexOf, Cond.initialized RX4, Cond.code yX4_indexOf cX4_indexOf 3 (some .int), Cond.methodLink RX5 44 yX5_takes, Cond.instanceMethod yX5_takes, Cond.selects RX5 yX5_takes yX5_takes, Cond.initialized RX5, Cond.code yX5_takes cX5_takes 2 (some .boolean), Cond.methodLink RX5 68 yX5_codeAtNext, Cond.instanceMethod yX5_codeAtNext, Cond.selects RX5 yX5_codeAtNext yX5_codeAtNext, Cond.code yX5_codeAtNext cX5_codeAtNext 1 (some .int), Cond.static yX6_at]
def wsX5_isTaken_r2 : List Cond := [Cond.initialized RX6, Cond.code yX6_at cX6_at 2 (some .int), Cond.methodLink RX5 48 yX5_takesNumber, Cond.instanceMethod yX5_takesNumber, Cond.selects RX5 yX5_takesNumber yX5_takesNumber, Cond.code yX5_takesNumber cX5_takesNumber 5 (some .boolean), Cond.methodLink RX5 72 yX5_isDigitNext, Cond.instanceMethod yX5_isDigitNext, Cond.selects RX5 yX5_isDigitNext yX5_isDigitNext, Cond.code yX5_isDigitNext cX5_isDigitNext 1 (some .boolean), Cond.static yX6_isWithin, Cond.code yX6_isWithin cX6_isWithin 3 (some .boolean), Cond.methodLink RX5 61 yX5_takesSort, Cond.instanceMethod yX5_takesSort, Cond.selects RX5 yX5_takesSort yX5_takesSort, Cond.code yX5_takesSort cX5_takesSort 2 (some .boolean), Cond.fieldLink RX5 9 "RopeLine$Text" "twelfths" "[I", Cond.fieldLink RX5 15 "RopeLine$Text" "worths" "[I", Cond.static yX6_set, Cond.code yX6_set cX6_set 3 none]
def wsX5_isTaken : List Cond := .code yX5_isTaken cX5_isTaken 5 (some .boolean) :: ((wsX5_isTaken_r1 ++ wsX5_isTaken_r2) ++ wsX50 ++ wsX40)
def wsX6_init_r1 : List Cond := [Cond.methodLink RX6 3 objectInit, Cond.instanceMethod objectInit, Cond.code objectInit ⟨#[0xb1]⟩ 1 none, Cond.classLink RX6 9 RX4, Cond.instantiable RX4 3, Cond.initialized RX4, Cond.fieldLink RX6 12 "RopeLine" "sheets" "LRopeLine$Sheets;", Cond.classLink RX6 18 RX5, Cond.instantiable RX5 11, Cond.initialized RX5, Cond.fieldLink RX6 23 "RopeLine" "text" "LRopeLine$Text;", Cond.classLink RX6 27 RX2, Cond.instantiable RX2 10, Cond.initialized RX2, Cond.fieldLink RX6 30 "RopeLine" "here" "LRopeLine$Place;", Cond.classLink RX6 34 RX1, Cond.instantiable RX1 7, Cond.initialized RX1, Cond.fieldLink RX6 37 "RopeLine" "lengths" "LRopeLine$Lengths;", Cond.classLink RX6 41 RX0, Cond.instantiable RX0 6, Cond.initialized RX0, Cond.fieldLink RX6 44 "RopeLine" "gains" "LRopeLine$Gains;", Cond.classLink RX6 48 RX3]
def wsX6_init_r2 : List Cond := [Cond.instantiable RX3 9, Cond.initialized RX3, Cond.fieldLink RX6 51 "RopeLine" "queue" "LRopeLine$Queue;", Cond.methodLink RX6 11 yX4_init, Cond.instanceMethod yX4_init, Cond.code yX4_init cX4_init 2 none, Cond.methodLink RX4 3 objectInit, Cond.arrayClass .int, Cond.fieldLink RX4 9 "RopeLine$Sheets" "lanes" "[I", Cond.fieldLink RX4 15 "RopeLine$Sheets" "sizes" "[I", Cond.fieldLink RX4 18 "RopeLine$Sheets" "cells" "[I", Cond.static yX6_set, Cond.initialized RX6, Cond.code yX6_set cX6_set 3 none, Cond.methodLink RX6 20 yX5_init, Cond.instanceMethod yX5_init, Cond.code yX5_init cX5_init 2 none, Cond.methodLink RX5 3 objectInit, Cond.fieldLink RX5 9 "RopeLine$Text" "twelfths" "[I", Cond.fieldLink RX5 15 "RopeLine$Text" "worths" "[I", Cond.fieldLink RX5 18 "RopeLine$Text" "sheets" "LRopeLine$Sheets;", Cond.instanceMethod yX2_init, Cond.code yX2_init cX2_init 1 none, Cond.methodLink RX2 3 objectInit]
def wsX6_init_r3 : List Cond := [Cond.fieldLink RX2 9 "RopeLine$Place" "twelfths" "[I", Cond.fieldLink RX2 15 "RopeLine$Place" "worths" "[I", Cond.fieldLink RX2 18 "RopeLine$Place" "bars" "[I", Cond.instanceMethod yX1_init, Cond.code yX1_init cX1_init 1 none, Cond.methodLink RX1 3 objectInit, Cond.fieldLink RX1 9 "RopeLine$Lengths" "joining" "[I", Cond.arrayClass .long, Cond.fieldLink RX1 15 "RopeLine$Lengths" "weights" "[J", Cond.fieldLink RX1 19 "RopeLine$Lengths" "now" "[J", Cond.fieldLink RX1 22 "RopeLine$Lengths" "then" "[J", Cond.instanceMethod yX0_init, Cond.code yX0_init cX0_init 1 none, Cond.methodLink RX0 3 objectInit, Cond.classLink RX0 9 RX1, Cond.fieldLink RX0 12 "RopeLine$Gains" "lengths" "LRopeLine$Lengths;", Cond.fieldLink RX0 18 "RopeLine$Gains" "row" "[I", Cond.fieldLink RX0 22 "RopeLine$Gains" "bestRow" "[I", Cond.instanceMethod yX3_init, Cond.code yX3_init cX3_init 1 none, Cond.methodLink RX3 3 objectInit, Cond.fieldLink RX3 9 "RopeLine$Queue" "kinds" "[I", Cond.fieldLink RX3 15 "RopeLine$Queue" "sorts" "[I", Cond.fieldLink RX3 18 "RopeLine$Queue" "waited" "[I"]
def wsX6_init_r4 : List Cond := [Cond.fieldLink RX3 21 "RopeLine$Queue" "cameIn" "[I", Cond.fieldLink RX3 24 "RopeLine$Queue" "servedIn" "[I", Cond.fieldLink RX3 27 "RopeLine$Queue" "row" "[I"]
def wsX6_init : List Cond := .code yX6_init cX6_init 1 none :: ((wsX6_init_r1 ++ (wsX6_init_r2 ++ (wsX6_init_r3 ++ wsX6_init_r4))) ++ wsX40 ++ wsX60 ++ wsX50 ++ wsX20 ++ wsX10 ++ wsX00 ++ wsX30)
def wsX6_faulted : List Cond := .code yX6_faulted cX6_faulted 2 (some .int) :: ([.fieldLink RX6 55 "RopeLine" "faultNow" "I"] ++ wsX60)
def wsX6_place_r1 : List Cond := [Cond.fieldLink RX6 55 "RopeLine" "faultNow" "I", Cond.fieldLink RX6 12 "RopeLine" "sheets" "LRopeLine$Sheets;", Cond.fieldLink RX6 23 "RopeLine" "text" "LRopeLine$Text;", Cond.fieldLink RX6 30 "RopeLine" "here" "LRopeLine$Place;", Cond.fieldLink RX6 51 "RopeLine" "queue" "LRopeLine$Queue;", Cond.fieldLink RX6 44 "RopeLine" "gains" "LRopeLine$Gains;", Cond.methodLink RX6 59 yX4_has, Cond.instanceMethod yX4_has, Cond.selects RX4 yX4_has yX4_has, Cond.initialized RX4, Cond.code yX4_has cX4_has 2 (some .boolean), Cond.static yX6_isWithin, Cond.initialized RX6, Cond.code yX6_isWithin cX6_isWithin 3 (some .boolean), Cond.methodLink RX6 63 yX6_isWithin, Cond.methodLink RX6 67 yX4_isOfAnotherLane, Cond.instanceMethod yX4_isOfAnotherLane, Cond.selects RX4 yX4_isOfAnotherLane yX4_isOfAnotherLane, Cond.code yX4_isOfAnotherLane cX4_isOfAnotherLane 3 (some .boolean), Cond.fieldLink RX4 9 "RopeLine$Sheets" "lanes" "[I", Cond.methodLink RX4 33 yX4_hasNothing, Cond.instanceMethod yX4_hasNothing, Cond.selects RX4 yX4_hasNothing yX4_hasNothing, Cond.code yX4_hasNothing cX4_hasNothing 2 (some .boolean)]
def wsX6_place_r2 : List Cond := [Cond.static yX6_at, Cond.code yX6_at cX6_at 2 (some .int), Cond.methodLink RX6 71 yX6_faulted, Cond.instanceMethod yX6_faulted, Cond.selects RX6 yX6_faulted yX6_faulted, Cond.code yX6_faulted cX6_faulted 2 (some .int), Cond.methodLink RX6 75 yX4_hasNothing, Cond.methodLink RX6 78 yX4_sizeOf, Cond.instanceMethod yX4_sizeOf, Cond.selects RX4 yX4_sizeOf yX4_sizeOf, Cond.code yX4_sizeOf cX4_sizeOf 2 (some .int), Cond.fieldLink RX4 15 "RopeLine$Sheets" "sizes" "[I", Cond.methodLink RX6 81 yX5_isTaken, Cond.instanceMethod yX5_isTaken, Cond.selects RX5 yX5_isTaken yX5_isTaken, Cond.initialized RX5, Cond.code yX5_isTaken cX5_isTaken 5 (some .boolean), Cond.fieldLink RX5 18 "RopeLine$Text" "sheets" "LRopeLine$Sheets;", Cond.fieldLink RX5 28 "RopeLine$Text" "start" "I", Cond.fieldLink RX5 32 "RopeLine$Text" "codes" "I", Cond.fieldLink RX5 35 "RopeLine$Text" "next" "I", Cond.fieldLink RX5 38 "RopeLine$Text" "sorts" "I", Cond.fieldLink RX5 41 "RopeLine$Text" "left" "I", Cond.fieldLink RX5 52 "RopeLine$Text" "number" "I"]
def wsX6_place_r3 : List Cond := [Cond.fieldLink RX5 55 "RopeLine$Text" "served" "I", Cond.fieldLink RX5 58 "RopeLine$Text" "cost" "I", Cond.methodLink RX5 22 yX4_indexOf, Cond.instanceMethod yX4_indexOf, Cond.selects RX4 yX4_indexOf yX4_indexOf, Cond.code yX4_indexOf cX4_indexOf 3 (some .int), Cond.methodLink RX5 44 yX5_takes, Cond.instanceMethod yX5_takes, Cond.selects RX5 yX5_takes yX5_takes, Cond.code yX5_takes cX5_takes 2 (some .boolean), Cond.methodLink RX5 68 yX5_codeAtNext, Cond.instanceMethod yX5_codeAtNext, Cond.selects RX5 yX5_codeAtNext yX5_codeAtNext, Cond.code yX5_codeAtNext cX5_codeAtNext 1 (some .int), Cond.methodLink RX5 48 yX5_takesNumber, Cond.instanceMethod yX5_takesNumber, Cond.selects RX5 yX5_takesNumber yX5_takesNumber, Cond.code yX5_takesNumber cX5_takesNumber 5 (some .boolean), Cond.methodLink RX5 72 yX5_isDigitNext, Cond.instanceMethod yX5_isDigitNext, Cond.selects RX5 yX5_isDigitNext yX5_isDigitNext, Cond.code yX5_isDigitNext cX5_isDigitNext 1 (some .boolean), Cond.methodLink RX5 61 yX5_takesSort, Cond.instanceMethod yX5_takesSort]
def wsX6_place_r4 : List Cond := [Cond.selects RX5 yX5_takesSort yX5_takesSort, Cond.code yX5_takesSort cX5_takesSort 2 (some .boolean), Cond.fieldLink RX5 9 "RopeLine$Text" "twelfths" "[I", Cond.fieldLink RX5 15 "RopeLine$Text" "worths" "[I", Cond.static yX6_set, Cond.code yX6_set cX6_set 3 none, Cond.methodLink RX6 87 yX2_becomes, Cond.instanceMethod yX2_becomes, Cond.selects RX2 yX2_becomes yX2_becomes, Cond.initialized RX2, Cond.code yX2_becomes cX2_becomes 3 none, Cond.fieldLink RX2 21 "RopeLine$Place" "isTold" "Z", Cond.fieldLink RX2 31 "RopeLine$Place" "served" "I", Cond.fieldLink RX2 35 "RopeLine$Place" "cost" "I", Cond.fieldLink RX2 39 "RopeLine$Place" "sorts" "I", Cond.fieldLink RX2 9 "RopeLine$Place" "twelfths" "[I", Cond.fieldLink RX2 15 "RopeLine$Place" "worths" "[I", Cond.fieldLink RX2 18 "RopeLine$Place" "bars" "[I", Cond.fieldLink RX2 50 "RopeLine$Place" "toll" "I", Cond.fieldLink RX2 53 "RopeLine$Place" "step" "I", Cond.fieldLink RX2 56 "RopeLine$Place" "lie" "I", Cond.methodLink RX6 91 yX3_empties, Cond.instanceMethod yX3_empties, Cond.selects RX3 yX3_empties yX3_empties]
def wsX6_place_r5 : List Cond := [Cond.initialized RX3, Cond.code yX3_empties cX3_empties 1 none, Cond.fieldLink RX3 30 "RopeLine$Queue" "comers" "I", Cond.fieldLink RX3 34 "RopeLine$Queue" "standing" "I", Cond.fieldLink RX3 37 "RopeLine$Queue" "minutes" "I", Cond.methodLink RX6 94 yX0_forgets, Cond.instanceMethod yX0_forgets, Cond.selects RX0 yX0_forgets yX0_forgets, Cond.initialized RX0, Cond.code yX0_forgets cX0_forgets 1 none, Cond.fieldLink RX0 25 "RopeLine$Gains" "knowsBest" "Z"]
def wsX6_place : List Cond := .code yX6_place cX6_place 6 (some .int) :: ((wsX6_place_r1 ++ (wsX6_place_r2 ++ (wsX6_place_r3 ++ (wsX6_place_r4 ++ wsX6_place_r5)))) ++ wsX60 ++ wsX50 ++ wsX20 ++ wsX40 ++ wsX30 ++ wsX00)
def wsX6_about : List Cond := .code yX6_about cX6_about 2 (some .int) :: ([.fieldLink RX6 30 "RopeLine" "here" "LRopeLine$Place;", .methodLink RX6 63 yX6_isWithin, .static yX6_isWithin, .initialized RX6, .code yX6_isWithin cX6_isWithin 3 (some .boolean), .methodLink RX6 110 yX2_twelfthsTogether, .instanceMethod yX2_twelfthsTogether, .selects RX2 yX2_twelfthsTogether yX2_twelfthsTogether, .initialized RX2, .code yX2_twelfthsTogether cX2_twelfthsTogether 3 (some .int), .fieldLink RX2 39 "RopeLine$Place" "sorts" "I", .fieldLink RX2 9 "RopeLine$Place" "twelfths" "[I", .static yX6_at, .code yX6_at cX6_at 2 (some .int)] ++ wsX60 ++ wsX20)
def wsX6_ofSort_r1 : List Cond := [Cond.fieldLink RX6 30 "RopeLine" "here" "LRopeLine$Place;", Cond.methodLink RX6 123 yX2_has, Cond.instanceMethod yX2_has, Cond.selects RX2 yX2_has yX2_has, Cond.initialized RX2, Cond.code yX2_has cX2_has 2 (some .boolean), Cond.fieldLink RX2 39 "RopeLine$Place" "sorts" "I", Cond.static yX6_isWithin, Cond.initialized RX6, Cond.code yX6_isWithin cX6_isWithin 3 (some .boolean), Cond.methodLink RX6 128 yX6_at, Cond.static yX6_at, Cond.code yX6_at cX6_at 2 (some .int), Cond.methodLink RX6 138 yX2_hisBar, Cond.instanceMethod yX2_hisBar, Cond.selects RX2 yX2_hisBar yX2_hisBar, Cond.code yX2_hisBar cX2_hisBar 3 (some .int), Cond.fieldLink RX2 53 "RopeLine$Place" "step" "I", Cond.fieldLink RX2 50 "RopeLine$Place" "toll" "I", Cond.fieldLink RX2 15 "RopeLine$Place" "worths" "[I", Cond.fieldLink RX2 35 "RopeLine$Place" "cost" "I", Cond.methodLink RX2 69 yX2_hisBarUnseen, Cond.instanceMethod yX2_hisBarUnseen, Cond.selects RX2 yX2_hisBarUnseen yX2_hisBarUnseen]
def wsX6_ofSort_r2 : List Cond := [Cond.code yX2_hisBarUnseen cX2_hisBarUnseen 4 (some .int), Cond.fieldLink RX2 31 "RopeLine$Place" "served" "I", Cond.methodLink RX2 72 yX2_minutesAsTold, Cond.instanceMethod yX2_minutesAsTold, Cond.selects RX2 yX2_minutesAsTold yX2_minutesAsTold, Cond.code yX2_minutesAsTold cX2_minutesAsTold 4 (some .int), Cond.fieldLink RX2 56 "RopeLine$Place" "lie" "I", Cond.methodLink RX2 63 Lib.Math.max.name, Cond.static Lib.Math.max.name, Cond.initialized "java/lang/Math", Cond.code Lib.Math.max.name Lib.Math.max.code 2 (some .int)]
def wsX6_ofSort : List Cond := .code yX6_ofSort cX6_ofSort 3 (some .int) :: ((wsX6_ofSort_r1 ++ wsX6_ofSort_r2) ++ wsX60 ++ wsX20)
def wsX6_bar : List Cond := .code yX6_bar cX6_bar 4 (some .int) :: ([.fieldLink RX6 30 "RopeLine" "here" "LRopeLine$Place;", .methodLink RX6 123 yX2_has, .instanceMethod yX2_has, .selects RX2 yX2_has yX2_has, .initialized RX2, .code yX2_has cX2_has 2 (some .boolean), .fieldLink RX2 39 "RopeLine$Place" "sorts" "I", .static yX6_isWithin, .initialized RX6, .code yX6_isWithin cX6_isWithin 3 (some .boolean), .methodLink RX6 63 yX6_isWithin, .methodLink RX6 128 yX6_at, .static yX6_at, .code yX6_at cX6_at 2 (some .int), .methodLink RX6 141 yX6_set, .static yX6_set, .code yX6_set cX6_set 3 none] ++ wsX60 ++ wsX20)
def wsX6_toll : List Cond := .code yX6_toll cX6_toll 3 (some .int) :: ([.fieldLink RX6 30 "RopeLine" "here" "LRopeLine$Place;", .methodLink RX6 63 yX6_isWithin, .static yX6_isWithin, .initialized RX6, .code yX6_isWithin cX6_isWithin 3 (some .boolean)] ++ wsX60 ++ wsX20)
def wsX6_board : List Cond := .code yX6_board cX6_board 4 (some .int) :: ([.fieldLink RX6 30 "RopeLine" "here" "LRopeLine$Place;", .methodLink RX6 63 yX6_isWithin, .static yX6_isWithin, .initialized RX6, .code yX6_isWithin cX6_isWithin 3 (some .boolean)] ++ wsX60 ++ wsX20)
def wsX6_barFor_r1 : List Cond := [Cond.fieldLink RX6 30 "RopeLine" "here" "LRopeLine$Place;", Cond.fieldLink RX6 44 "RopeLine" "gains" "LRopeLine$Gains;", Cond.methodLink RX6 138 yX2_hisBar, Cond.instanceMethod yX2_hisBar, Cond.selects RX2 yX2_hisBar yX2_hisBar, Cond.initialized RX2, Cond.code yX2_hisBar cX2_hisBar 3 (some .int), Cond.fieldLink RX2 53 "RopeLine$Place" "step" "I", Cond.fieldLink RX2 50 "RopeLine$Place" "toll" "I", Cond.fieldLink RX2 15 "RopeLine$Place" "worths" "[I", Cond.fieldLink RX2 35 "RopeLine$Place" "cost" "I", Cond.methodLink RX2 69 yX2_hisBarUnseen, Cond.instanceMethod yX2_hisBarUnseen, Cond.selects RX2 yX2_hisBarUnseen yX2_hisBarUnseen, Cond.code yX2_hisBarUnseen cX2_hisBarUnseen 4 (some .int), Cond.fieldLink RX2 31 "RopeLine$Place" "served" "I", Cond.static yX6_at, Cond.initialized RX6, Cond.code yX6_at cX6_at 2 (some .int), Cond.methodLink RX2 72 yX2_minutesAsTold, Cond.instanceMethod yX2_minutesAsTold, Cond.selects RX2 yX2_minutesAsTold yX2_minutesAsTold, Cond.code yX2_minutesAsTold cX2_minutesAsTold 4 (some .int), Cond.fieldLink RX2 56 "RopeLine$Place" "lie" "I"]
def wsX6_barFor_r2 : List Cond := [Cond.methodLink RX2 63 Lib.Math.max.name, Cond.static Lib.Math.max.name, Cond.initialized "java/lang/Math", Cond.code Lib.Math.max.name Lib.Math.max.code 2 (some .int), Cond.methodLink RX6 128 yX6_at]
def wsX6_barFor : List Cond := .code yX6_barFor cX6_barFor 3 (some .int) :: ((wsX6_barFor_r1 ++ wsX6_barFor_r2) ++ wsX60 ++ wsX00 ++ wsX20)
def wsX6_bars_r1 : List Cond := [Cond.fieldLink RX6 30 "RopeLine" "here" "LRopeLine$Place;", Cond.fieldLink RX6 44 "RopeLine" "gains" "LRopeLine$Gains;", Cond.methodLink RX6 63 yX6_isWithin, Cond.static yX6_isWithin, Cond.initialized RX6, Cond.code yX6_isWithin cX6_isWithin 3 (some .boolean), Cond.methodLink RX6 145 yX0_knowBest, Cond.instanceMethod yX0_knowBest, Cond.selects RX0 yX0_knowBest yX0_knowBest, Cond.initialized RX0, Cond.code yX0_knowBest cX0_knowBest 9 none, Cond.fieldLink RX0 25 "RopeLine$Gains" "knowsBest" "Z", Cond.fieldLink RX0 18 "RopeLine$Gains" "row" "[I", Cond.fieldLink RX0 60 "RopeLine$Gains" "upper" "J", Cond.fieldLink RX0 69 "RopeLine$Gains" "lower" "J", Cond.fieldLink RX0 22 "RopeLine$Gains" "bestRow" "[I", Cond.static yX6_rowsOf, Cond.code yX6_rowsOf cX6_rowsOf 3 (some .int), Cond.methodLink RX0 80 yX0_rowBecomes, Cond.instanceMethod yX0_rowBecomes, Cond.selects RX0 yX0_rowBecomes yX0_rowBecomes, Cond.code yX0_rowBecomes cX0_rowBecomes 5 none, Cond.static yX6_set, Cond.code yX6_set cX6_set 3 none]
def wsX6_bars_r2 : List Cond := [Cond.methodLink RX0 84 yX0_reckon, Cond.instanceMethod yX0_reckon, Cond.selects RX0 yX0_reckon yX0_reckon, Cond.code yX0_reckon cX0_reckon 6 none, Cond.fieldLink RX0 12 "RopeLine$Gains" "lengths" "LRopeLine$Lengths;", Cond.constantLong RX0 64 (144), Cond.methodLink RX0 29 yX1_comeByBars, Cond.instanceMethod yX1_comeByBars, Cond.selects RX1 yX1_comeByBars yX1_comeByBars, Cond.initialized RX1, Cond.code yX1_comeByBars cX1_comeByBars 4 none, Cond.fieldLink RX1 31 "RopeLine$Lengths" "served" "I", Cond.fieldLink RX1 32 "RopeLine$Lengths" "whole" "I", Cond.fieldLink RX1 9 "RopeLine$Lengths" "joining" "[I", Cond.methodLink RX1 35 yX2_joining, Cond.instanceMethod yX2_joining, Cond.selects RX2 yX2_joining yX2_joining, Cond.initialized RX2, Cond.code yX2_joining cX2_joining 5 (some .int), Cond.fieldLink RX2 39 "RopeLine$Place" "sorts" "I", Cond.fieldLink RX2 9 "RopeLine$Place" "twelfths" "[I", Cond.static yX6_at, Cond.code yX6_at cX6_at 2 (some .int), Cond.methodLink RX1 42 yX1_weigh]
def wsX6_bars_r3 : List Cond := [Cond.instanceMethod yX1_weigh, Cond.selects RX1 yX1_weigh yX1_weigh, Cond.code yX1_weigh cX1_weigh 3 none, Cond.fieldLink RX1 15 "RopeLine$Lengths" "weights" "[J", Cond.fieldLink RX1 64 "RopeLine$Lengths" "total" "J", Cond.static yX6_set_, Cond.code yX6_set_ cX6_set_ 4 none, Cond.methodLink RX1 54 yX1_grows, Cond.instanceMethod yX1_grows, Cond.selects RX1 yX1_grows yX1_grows, Cond.code yX1_grows cX1_grows 2 (some .long), Cond.static yX6_at_, Cond.code yX6_at_ cX6_at_ 2 (some .long), Cond.methodLink RX1 61 yX1_shrinks, Cond.instanceMethod yX1_shrinks, Cond.selects RX1 yX1_shrinks yX1_shrinks, Cond.code yX1_shrinks cX1_shrinks 2 (some .long), Cond.methodLink RX0 49 yX1_foundBelow, Cond.instanceMethod yX1_foundBelow, Cond.selects RX1 yX1_foundBelow yX1_foundBelow, Cond.code yX1_foundBelow cX1_foundBelow 5 (some .long), Cond.methodLink RX1 68 yX1_found, Cond.instanceMethod yX1_found, Cond.selects RX1 yX1_found yX1_found]
def wsX6_bars_r4 : List Cond := [Cond.code yX1_found cX1_found 2 (some .long), Cond.methodLink RX0 56 yX1_lengthsByWeight, Cond.instanceMethod yX1_lengthsByWeight, Cond.selects RX1 yX1_lengthsByWeight yX1_lengthsByWeight, Cond.code yX1_lengthsByWeight cX1_lengthsByWeight 4 (some .long), Cond.static yX6_compareShares, Cond.code yX6_compareShares cX6_compareShares 25 (some .int), Cond.methodLink RX6 347 yJ9_floorDiv_f86c9, Cond.static yJ9_floorDiv_f86c9, Cond.initialized RJ9, Cond.code yJ9_floorDiv_f86c9 cJ9_floorDiv_f86c9 6 (some .long), Cond.methodLink RX6 149 yX6_barFor, Cond.instanceMethod yX6_barFor, Cond.selects RX6 yX6_barFor yX6_barFor, Cond.code yX6_barFor cX6_barFor 3 (some .int), Cond.methodLink RX6 138 yX2_hisBar, Cond.instanceMethod yX2_hisBar, Cond.selects RX2 yX2_hisBar yX2_hisBar, Cond.code yX2_hisBar cX2_hisBar 3 (some .int), Cond.fieldLink RX2 53 "RopeLine$Place" "step" "I", Cond.fieldLink RX2 50 "RopeLine$Place" "toll" "I", Cond.fieldLink RX2 15 "RopeLine$Place" "worths" "[I", Cond.fieldLink RX2 35 "RopeLine$Place" "cost" "I", Cond.methodLink RX2 69 yX2_hisBarUnseen]
def wsX6_bars_r5 : List Cond := [Cond.instanceMethod yX2_hisBarUnseen, Cond.selects RX2 yX2_hisBarUnseen yX2_hisBarUnseen, Cond.code yX2_hisBarUnseen cX2_hisBarUnseen 4 (some .int), Cond.fieldLink RX2 31 "RopeLine$Place" "served" "I", Cond.methodLink RX2 72 yX2_minutesAsTold, Cond.instanceMethod yX2_minutesAsTold, Cond.selects RX2 yX2_minutesAsTold yX2_minutesAsTold, Cond.code yX2_minutesAsTold cX2_minutesAsTold 4 (some .int), Cond.fieldLink RX2 56 "RopeLine$Place" "lie" "I", Cond.methodLink RX2 63 Lib.Math.max.name, Cond.static Lib.Math.max.name, Cond.initialized "java/lang/Math", Cond.code Lib.Math.max.name Lib.Math.max.code 2 (some .int), Cond.methodLink RX6 128 yX6_at, Cond.methodLink RX6 141 yX6_set]
def wsX6_bars : List Cond := .code yX6_bars cX6_bars 5 (some .int) :: ((wsX6_bars_r1 ++ (wsX6_bars_r2 ++ (wsX6_bars_r3 ++ (wsX6_bars_r4 ++ wsX6_bars_r5)))) ++ wsX60 ++ wsX20 ++ wsX00 ++ wsX10)
def wsX6_often_r1 : List Cond := [Cond.fieldLink RX6 30 "RopeLine" "here" "LRopeLine$Place;", Cond.constantLong RX6 156 (-9223372036854775808), Cond.fieldLink RX6 37 "RopeLine" "lengths" "LRopeLine$Lengths;", Cond.methodLink RX6 63 yX6_isWithin, Cond.static yX6_isWithin, Cond.initialized RX6, Cond.code yX6_isWithin cX6_isWithin 3 (some .boolean), Cond.methodLink RX6 158 yX1_comeByBars, Cond.instanceMethod yX1_comeByBars, Cond.selects RX1 yX1_comeByBars yX1_comeByBars, Cond.initialized RX1, Cond.code yX1_comeByBars cX1_comeByBars 4 none, Cond.fieldLink RX1 31 "RopeLine$Lengths" "served" "I", Cond.fieldLink RX1 32 "RopeLine$Lengths" "whole" "I", Cond.fieldLink RX1 9 "RopeLine$Lengths" "joining" "[I", Cond.methodLink RX1 35 yX2_joining, Cond.instanceMethod yX2_joining, Cond.selects RX2 yX2_joining yX2_joining, Cond.initialized RX2, Cond.code yX2_joining cX2_joining 5 (some .int), Cond.fieldLink RX2 39 "RopeLine$Place" "sorts" "I", Cond.fieldLink RX2 9 "RopeLine$Place" "twelfths" "[I", Cond.static yX6_at, Cond.code yX6_at cX6_at 2 (some .int)]
def wsX6_often_r2 : List Cond := [Cond.static yX6_set, Cond.code yX6_set cX6_set 3 none, Cond.methodLink RX1 42 yX1_weigh, Cond.instanceMethod yX1_weigh, Cond.selects RX1 yX1_weigh yX1_weigh, Cond.code yX1_weigh cX1_weigh 3 none, Cond.fieldLink RX1 15 "RopeLine$Lengths" "weights" "[J", Cond.fieldLink RX1 64 "RopeLine$Lengths" "total" "J", Cond.static yX6_set_, Cond.code yX6_set_ cX6_set_ 4 none, Cond.methodLink RX1 54 yX1_grows, Cond.instanceMethod yX1_grows, Cond.selects RX1 yX1_grows yX1_grows, Cond.code yX1_grows cX1_grows 2 (some .long), Cond.static yX6_at_, Cond.code yX6_at_ cX6_at_ 2 (some .long), Cond.methodLink RX1 61 yX1_shrinks, Cond.instanceMethod yX1_shrinks, Cond.selects RX1 yX1_shrinks yX1_shrinks, Cond.code yX1_shrinks cX1_shrinks 2 (some .long), Cond.methodLink RX6 166 yX6_at_, Cond.methodLink RX6 173 yX6_share, Cond.static yX6_share, Cond.code yX6_share cX6_share 7 (some .long)]
def wsX6_often_r3 : List Cond := [Cond.methodLink RX6 337 Lib.MathLoose.abs_long.x, Cond.static Lib.MathLoose.abs_long.x, Cond.initialized "java/lang/Math", Cond.code Lib.MathLoose.abs_long.x Lib.MathLoose.abs_long.code 2 (some .long), Cond.methodLink RX6 343 yX6_commonDivisor, Cond.static yX6_commonDivisor, Cond.code yX6_commonDivisor cX6_commonDivisor 11 (some .long)]
def wsX6_often : List Cond := .code yX6_often cX6_often 3 (some .long) :: ((wsX6_often_r1 ++ (wsX6_often_r2 ++ wsX6_often_r3)) ++ wsX60 ++ wsX20 ++ wsX10)
def wsX6_mean_r1 : List Cond := [Cond.fieldLink RX6 30 "RopeLine" "here" "LRopeLine$Place;", Cond.constantLong RX6 156 (-9223372036854775808), Cond.fieldLink RX6 37 "RopeLine" "lengths" "LRopeLine$Lengths;", Cond.methodLink RX6 63 yX6_isWithin, Cond.static yX6_isWithin, Cond.initialized RX6, Cond.code yX6_isWithin cX6_isWithin 3 (some .boolean), Cond.methodLink RX6 158 yX1_comeByBars, Cond.instanceMethod yX1_comeByBars, Cond.selects RX1 yX1_comeByBars yX1_comeByBars, Cond.initialized RX1, Cond.code yX1_comeByBars cX1_comeByBars 4 none, Cond.fieldLink RX1 31 "RopeLine$Lengths" "served" "I", Cond.fieldLink RX1 32 "RopeLine$Lengths" "whole" "I", Cond.fieldLink RX1 9 "RopeLine$Lengths" "joining" "[I", Cond.methodLink RX1 35 yX2_joining, Cond.instanceMethod yX2_joining, Cond.selects RX2 yX2_joining yX2_joining, Cond.initialized RX2, Cond.code yX2_joining cX2_joining 5 (some .int), Cond.fieldLink RX2 39 "RopeLine$Place" "sorts" "I", Cond.fieldLink RX2 9 "RopeLine$Place" "twelfths" "[I", Cond.static yX6_at, Cond.code yX6_at cX6_at 2 (some .int)]
def wsX6_mean_r2 : List Cond := [Cond.static yX6_set, Cond.code yX6_set cX6_set 3 none, Cond.methodLink RX1 42 yX1_weigh, Cond.instanceMethod yX1_weigh, Cond.selects RX1 yX1_weigh yX1_weigh, Cond.code yX1_weigh cX1_weigh 3 none, Cond.fieldLink RX1 15 "RopeLine$Lengths" "weights" "[J", Cond.fieldLink RX1 64 "RopeLine$Lengths" "total" "J", Cond.static yX6_set_, Cond.code yX6_set_ cX6_set_ 4 none, Cond.methodLink RX1 54 yX1_grows, Cond.instanceMethod yX1_grows, Cond.selects RX1 yX1_grows yX1_grows, Cond.code yX1_grows cX1_grows 2 (some .long), Cond.static yX6_at_, Cond.code yX6_at_ cX6_at_ 2 (some .long), Cond.methodLink RX1 61 yX1_shrinks, Cond.instanceMethod yX1_shrinks, Cond.selects RX1 yX1_shrinks yX1_shrinks, Cond.code yX1_shrinks cX1_shrinks 2 (some .long), Cond.methodLink RX6 177 yX1_lengthsByWeight, Cond.instanceMethod yX1_lengthsByWeight, Cond.selects RX1 yX1_lengthsByWeight yX1_lengthsByWeight, Cond.code yX1_lengthsByWeight cX1_lengthsByWeight 4 (some .long)]
def wsX6_mean_r3 : List Cond := [Cond.methodLink RX6 173 yX6_share, Cond.static yX6_share, Cond.code yX6_share cX6_share 7 (some .long), Cond.methodLink RX6 337 Lib.MathLoose.abs_long.x, Cond.static Lib.MathLoose.abs_long.x, Cond.initialized "java/lang/Math", Cond.code Lib.MathLoose.abs_long.x Lib.MathLoose.abs_long.code 2 (some .long), Cond.methodLink RX6 343 yX6_commonDivisor, Cond.static yX6_commonDivisor, Cond.code yX6_commonDivisor cX6_commonDivisor 11 (some .long)]
def wsX6_mean : List Cond := .code yX6_mean cX6_mean 2 (some .long) :: ((wsX6_mean_r1 ++ (wsX6_mean_r2 ++ wsX6_mean_r3)) ++ wsX60 ++ wsX20 ++ wsX10)
def wsX6_on_r1 : List Cond := [Cond.fieldLink RX6 30 "RopeLine" "here" "LRopeLine$Place;", Cond.constantLong RX6 156 (-9223372036854775808), Cond.fieldLink RX6 37 "RopeLine" "lengths" "LRopeLine$Lengths;", Cond.constantLong RX6 181 (12), Cond.methodLink RX6 123 yX2_has, Cond.instanceMethod yX2_has, Cond.selects RX2 yX2_has yX2_has, Cond.initialized RX2, Cond.code yX2_has cX2_has 2 (some .boolean), Cond.fieldLink RX2 39 "RopeLine$Place" "sorts" "I", Cond.static yX6_isWithin, Cond.initialized RX6, Cond.code yX6_isWithin cX6_isWithin 3 (some .boolean), Cond.methodLink RX6 63 yX6_isWithin, Cond.methodLink RX6 158 yX1_comeByBars, Cond.instanceMethod yX1_comeByBars, Cond.selects RX1 yX1_comeByBars yX1_comeByBars, Cond.initialized RX1, Cond.code yX1_comeByBars cX1_comeByBars 4 none, Cond.fieldLink RX1 31 "RopeLine$Lengths" "served" "I", Cond.fieldLink RX1 32 "RopeLine$Lengths" "whole" "I", Cond.fieldLink RX1 9 "RopeLine$Lengths" "joining" "[I", Cond.methodLink RX1 35 yX2_joining, Cond.instanceMethod yX2_joining]
def wsX6_on_r2 : List Cond := [Cond.selects RX2 yX2_joining yX2_joining, Cond.code yX2_joining cX2_joining 5 (some .int), Cond.fieldLink RX2 9 "RopeLine$Place" "twelfths" "[I", Cond.static yX6_at, Cond.code yX6_at cX6_at 2 (some .int), Cond.static yX6_set, Cond.code yX6_set cX6_set 3 none, Cond.methodLink RX1 42 yX1_weigh, Cond.instanceMethod yX1_weigh, Cond.selects RX1 yX1_weigh yX1_weigh, Cond.code yX1_weigh cX1_weigh 3 none, Cond.fieldLink RX1 15 "RopeLine$Lengths" "weights" "[J", Cond.fieldLink RX1 64 "RopeLine$Lengths" "total" "J", Cond.static yX6_set_, Cond.code yX6_set_ cX6_set_ 4 none, Cond.methodLink RX1 54 yX1_grows, Cond.instanceMethod yX1_grows, Cond.selects RX1 yX1_grows yX1_grows, Cond.code yX1_grows cX1_grows 2 (some .long), Cond.static yX6_at_, Cond.code yX6_at_ cX6_at_ 2 (some .long), Cond.methodLink RX1 61 yX1_shrinks, Cond.instanceMethod yX1_shrinks, Cond.selects RX1 yX1_shrinks yX1_shrinks]
def wsX6_on_r3 : List Cond := [Cond.code yX1_shrinks cX1_shrinks 2 (some .long), Cond.methodLink RX6 128 yX6_at, Cond.methodLink RX6 183 yX1_foundBelow, Cond.instanceMethod yX1_foundBelow, Cond.selects RX1 yX1_foundBelow yX1_foundBelow, Cond.code yX1_foundBelow cX1_foundBelow 5 (some .long), Cond.methodLink RX1 68 yX1_found, Cond.instanceMethod yX1_found, Cond.selects RX1 yX1_found yX1_found, Cond.code yX1_found cX1_found 2 (some .long), Cond.methodLink RX6 173 yX6_share, Cond.static yX6_share, Cond.code yX6_share cX6_share 7 (some .long), Cond.methodLink RX6 337 Lib.MathLoose.abs_long.x, Cond.static Lib.MathLoose.abs_long.x, Cond.initialized "java/lang/Math", Cond.code Lib.MathLoose.abs_long.x Lib.MathLoose.abs_long.code 2 (some .long), Cond.methodLink RX6 343 yX6_commonDivisor, Cond.static yX6_commonDivisor, Cond.code yX6_commonDivisor cX6_commonDivisor 11 (some .long)]
def wsX6_on : List Cond := .code yX6_on cX6_on 5 (some .long) :: ((wsX6_on_r1 ++ (wsX6_on_r2 ++ wsX6_on_r3)) ++ wsX60 ++ wsX20 ++ wsX10)
def wsX6_less_r1 : List Cond := [Cond.fieldLink RX6 30 "RopeLine" "here" "LRopeLine$Place;", Cond.constantLong RX6 156 (-9223372036854775808), Cond.fieldLink RX6 37 "RopeLine" "lengths" "LRopeLine$Lengths;", Cond.methodLink RX6 63 yX6_isWithin, Cond.static yX6_isWithin, Cond.initialized RX6, Cond.code yX6_isWithin cX6_isWithin 3 (some .boolean), Cond.methodLink RX6 158 yX1_comeByBars, Cond.instanceMethod yX1_comeByBars, Cond.selects RX1 yX1_comeByBars yX1_comeByBars, Cond.initialized RX1, Cond.code yX1_comeByBars cX1_comeByBars 4 none, Cond.fieldLink RX1 31 "RopeLine$Lengths" "served" "I", Cond.fieldLink RX1 32 "RopeLine$Lengths" "whole" "I", Cond.fieldLink RX1 9 "RopeLine$Lengths" "joining" "[I", Cond.methodLink RX1 35 yX2_joining, Cond.instanceMethod yX2_joining, Cond.selects RX2 yX2_joining yX2_joining, Cond.initialized RX2, Cond.code yX2_joining cX2_joining 5 (some .int), Cond.fieldLink RX2 39 "RopeLine$Place" "sorts" "I", Cond.fieldLink RX2 9 "RopeLine$Place" "twelfths" "[I", Cond.static yX6_at, Cond.code yX6_at cX6_at 2 (some .int)]
def wsX6_less_r2 : List Cond := [Cond.static yX6_set, Cond.code yX6_set cX6_set 3 none, Cond.methodLink RX1 42 yX1_weigh, Cond.instanceMethod yX1_weigh, Cond.selects RX1 yX1_weigh yX1_weigh, Cond.code yX1_weigh cX1_weigh 3 none, Cond.fieldLink RX1 15 "RopeLine$Lengths" "weights" "[J", Cond.fieldLink RX1 64 "RopeLine$Lengths" "total" "J", Cond.static yX6_set_, Cond.code yX6_set_ cX6_set_ 4 none, Cond.methodLink RX1 54 yX1_grows, Cond.instanceMethod yX1_grows, Cond.selects RX1 yX1_grows yX1_grows, Cond.code yX1_grows cX1_grows 2 (some .long), Cond.static yX6_at_, Cond.code yX6_at_ cX6_at_ 2 (some .long), Cond.methodLink RX1 61 yX1_shrinks, Cond.instanceMethod yX1_shrinks, Cond.selects RX1 yX1_shrinks yX1_shrinks, Cond.code yX1_shrinks cX1_shrinks 2 (some .long), Cond.methodLink RX6 166 yX6_at_, Cond.methodLink RX6 187 yX1_tillLess, Cond.instanceMethod yX1_tillLess, Cond.selects RX1 yX1_tillLess yX1_tillLess]
def wsX6_less_r3 : List Cond := [Cond.code yX1_tillLess cX1_tillLess 8 (some .long), Cond.static yX6_share, Cond.code yX6_share cX6_share 7 (some .long), Cond.methodLink RX6 337 Lib.MathLoose.abs_long.x, Cond.static Lib.MathLoose.abs_long.x, Cond.initialized "java/lang/Math", Cond.code Lib.MathLoose.abs_long.x Lib.MathLoose.abs_long.code 2 (some .long), Cond.methodLink RX6 343 yX6_commonDivisor, Cond.static yX6_commonDivisor, Cond.code yX6_commonDivisor cX6_commonDivisor 11 (some .long)]
def wsX6_less : List Cond := .code yX6_less cX6_less 3 (some .long) :: ((wsX6_less_r1 ++ (wsX6_less_r2 ++ wsX6_less_r3)) ++ wsX60 ++ wsX20 ++ wsX10)
def wsX6_after_r1 : List Cond := [Cond.constantLong RX6 156 (-9223372036854775808), Cond.fieldLink RX6 30 "RopeLine" "here" "LRopeLine$Place;", Cond.fieldLink RX6 37 "RopeLine" "lengths" "LRopeLine$Lengths;", Cond.methodLink RX6 63 yX6_isWithin, Cond.static yX6_isWithin, Cond.initialized RX6, Cond.code yX6_isWithin cX6_isWithin 3 (some .boolean), Cond.methodLink RX6 158 yX1_comeByBars, Cond.instanceMethod yX1_comeByBars, Cond.selects RX1 yX1_comeByBars yX1_comeByBars, Cond.initialized RX1, Cond.code yX1_comeByBars cX1_comeByBars 4 none, Cond.fieldLink RX1 31 "RopeLine$Lengths" "served" "I", Cond.fieldLink RX1 32 "RopeLine$Lengths" "whole" "I", Cond.fieldLink RX1 9 "RopeLine$Lengths" "joining" "[I", Cond.methodLink RX1 35 yX2_joining, Cond.instanceMethod yX2_joining, Cond.selects RX2 yX2_joining yX2_joining, Cond.initialized RX2, Cond.code yX2_joining cX2_joining 5 (some .int), Cond.fieldLink RX2 39 "RopeLine$Place" "sorts" "I", Cond.fieldLink RX2 9 "RopeLine$Place" "twelfths" "[I", Cond.static yX6_at, Cond.code yX6_at cX6_at 2 (some .int)]
def wsX6_after_r2 : List Cond := [Cond.static yX6_set, Cond.code yX6_set cX6_set 3 none, Cond.methodLink RX1 42 yX1_weigh, Cond.instanceMethod yX1_weigh, Cond.selects RX1 yX1_weigh yX1_weigh, Cond.code yX1_weigh cX1_weigh 3 none, Cond.fieldLink RX1 15 "RopeLine$Lengths" "weights" "[J", Cond.fieldLink RX1 64 "RopeLine$Lengths" "total" "J", Cond.static yX6_set_, Cond.code yX6_set_ cX6_set_ 4 none, Cond.methodLink RX1 54 yX1_grows, Cond.instanceMethod yX1_grows, Cond.selects RX1 yX1_grows yX1_grows, Cond.code yX1_grows cX1_grows 2 (some .long), Cond.static yX6_at_, Cond.code yX6_at_ cX6_at_ 2 (some .long), Cond.methodLink RX1 61 yX1_shrinks, Cond.instanceMethod yX1_shrinks, Cond.selects RX1 yX1_shrinks yX1_shrinks, Cond.code yX1_shrinks cX1_shrinks 2 (some .long), Cond.methodLink RX6 191 yX1_afterMinutes, Cond.instanceMethod yX1_afterMinutes, Cond.selects RX1 yX1_afterMinutes yX1_afterMinutes, Cond.code yX1_afterMinutes cX1_afterMinutes 8 (some .long)]
def wsX6_after_r3 : List Cond := [Cond.fieldLink RX1 19 "RopeLine$Lengths" "now" "[J", Cond.methodLink RX1 75 yX1_goOn, Cond.instanceMethod yX1_goOn, Cond.selects RX1 yX1_goOn yX1_goOn, Cond.code yX1_goOn cX1_goOn 6 none, Cond.fieldLink RX1 22 "RopeLine$Lengths" "then" "[J", Cond.static yX6_share, Cond.code yX6_share cX6_share 7 (some .long), Cond.methodLink RX6 337 Lib.MathLoose.abs_long.x, Cond.static Lib.MathLoose.abs_long.x, Cond.initialized "java/lang/Math", Cond.code Lib.MathLoose.abs_long.x Lib.MathLoose.abs_long.code 2 (some .long), Cond.methodLink RX6 343 yX6_commonDivisor, Cond.static yX6_commonDivisor, Cond.code yX6_commonDivisor cX6_commonDivisor 11 (some .long)]
def wsX6_after : List Cond := .code yX6_after cX6_after 5 (some .long) :: ((wsX6_after_r1 ++ (wsX6_after_r2 ++ wsX6_after_r3)) ++ wsX60 ++ wsX20 ++ wsX10)
def wsX6_minutes_r1 : List Cond := [Cond.fieldLink RX6 30 "RopeLine" "here" "LRopeLine$Place;", Cond.constantLong RX6 156 (-9223372036854775808), Cond.methodLink RX6 63 yX6_isWithin, Cond.static yX6_isWithin, Cond.initialized RX6, Cond.code yX6_isWithin cX6_isWithin 3 (some .boolean), Cond.methodLink RX6 195 yX2_minutesAsTold, Cond.instanceMethod yX2_minutesAsTold, Cond.selects RX2 yX2_minutesAsTold yX2_minutesAsTold, Cond.initialized RX2, Cond.code yX2_minutesAsTold cX2_minutesAsTold 4 (some .int), Cond.fieldLink RX2 31 "RopeLine$Place" "served" "I", Cond.fieldLink RX2 53 "RopeLine$Place" "step" "I", Cond.fieldLink RX2 56 "RopeLine$Place" "lie" "I", Cond.methodLink RX2 63 Lib.Math.max.name, Cond.static Lib.Math.max.name, Cond.initialized "java/lang/Math", Cond.code Lib.Math.max.name Lib.Math.max.code 2 (some .int), Cond.methodLink RX6 173 yX6_share, Cond.static yX6_share, Cond.code yX6_share cX6_share 7 (some .long), Cond.methodLink RX6 337 Lib.MathLoose.abs_long.x, Cond.static Lib.MathLoose.abs_long.x, Cond.code Lib.MathLoose.abs_long.x Lib.MathLoose.abs_long.code 2 (some .long)]
def wsX6_minutes_r2 : List Cond := [Cond.methodLink RX6 343 yX6_commonDivisor, Cond.static yX6_commonDivisor, Cond.code yX6_commonDivisor cX6_commonDivisor 11 (some .long)]
def wsX6_minutes : List Cond := .code yX6_minutes cX6_minutes 3 (some .long) :: ((wsX6_minutes_r1 ++ wsX6_minutes_r2) ++ wsX60 ++ wsX20)
def wsX6_gain_r1 : List Cond := [Cond.fieldLink RX6 30 "RopeLine" "here" "LRopeLine$Place;", Cond.constantLong RX6 156 (-9223372036854775808), Cond.fieldLink RX6 44 "RopeLine" "gains" "LRopeLine$Gains;", Cond.methodLink RX6 63 yX6_isWithin, Cond.static yX6_isWithin, Cond.initialized RX6, Cond.code yX6_isWithin cX6_isWithin 3 (some .boolean), Cond.methodLink RX6 198 yX0_reckon, Cond.instanceMethod yX0_reckon, Cond.selects RX0 yX0_reckon yX0_reckon, Cond.initialized RX0, Cond.code yX0_reckon cX0_reckon 6 none, Cond.fieldLink RX0 12 "RopeLine$Gains" "lengths" "LRopeLine$Lengths;", Cond.fieldLink RX0 60 "RopeLine$Gains" "upper" "J", Cond.constantLong RX0 64 (144), Cond.fieldLink RX0 69 "RopeLine$Gains" "lower" "J", Cond.methodLink RX0 29 yX1_comeByBars, Cond.instanceMethod yX1_comeByBars, Cond.selects RX1 yX1_comeByBars yX1_comeByBars, Cond.initialized RX1, Cond.code yX1_comeByBars cX1_comeByBars 4 none, Cond.fieldLink RX1 31 "RopeLine$Lengths" "served" "I", Cond.fieldLink RX1 32 "RopeLine$Lengths" "whole" "I", Cond.fieldLink RX1 9 "RopeLine$Lengths" "joining" "[I"]
def wsX6_gain_r2 : List Cond := [Cond.methodLink RX1 35 yX2_joining, Cond.instanceMethod yX2_joining, Cond.selects RX2 yX2_joining yX2_joining, Cond.initialized RX2, Cond.code yX2_joining cX2_joining 5 (some .int), Cond.fieldLink RX2 39 "RopeLine$Place" "sorts" "I", Cond.fieldLink RX2 9 "RopeLine$Place" "twelfths" "[I", Cond.static yX6_at, Cond.code yX6_at cX6_at 2 (some .int), Cond.static yX6_set, Cond.code yX6_set cX6_set 3 none, Cond.methodLink RX1 42 yX1_weigh, Cond.instanceMethod yX1_weigh, Cond.selects RX1 yX1_weigh yX1_weigh, Cond.code yX1_weigh cX1_weigh 3 none, Cond.fieldLink RX1 15 "RopeLine$Lengths" "weights" "[J", Cond.fieldLink RX1 64 "RopeLine$Lengths" "total" "J", Cond.static yX6_set_, Cond.code yX6_set_ cX6_set_ 4 none, Cond.methodLink RX1 54 yX1_grows, Cond.instanceMethod yX1_grows, Cond.selects RX1 yX1_grows yX1_grows, Cond.code yX1_grows cX1_grows 2 (some .long), Cond.static yX6_at_]
def wsX6_gain_r3 : List Cond := [Cond.code yX6_at_ cX6_at_ 2 (some .long), Cond.methodLink RX1 61 yX1_shrinks, Cond.instanceMethod yX1_shrinks, Cond.selects RX1 yX1_shrinks yX1_shrinks, Cond.code yX1_shrinks cX1_shrinks 2 (some .long), Cond.methodLink RX0 49 yX1_foundBelow, Cond.instanceMethod yX1_foundBelow, Cond.selects RX1 yX1_foundBelow yX1_foundBelow, Cond.code yX1_foundBelow cX1_foundBelow 5 (some .long), Cond.methodLink RX1 68 yX1_found, Cond.instanceMethod yX1_found, Cond.selects RX1 yX1_found yX1_found, Cond.code yX1_found cX1_found 2 (some .long), Cond.methodLink RX0 56 yX1_lengthsByWeight, Cond.instanceMethod yX1_lengthsByWeight, Cond.selects RX1 yX1_lengthsByWeight yX1_lengthsByWeight, Cond.code yX1_lengthsByWeight cX1_lengthsByWeight 4 (some .long), Cond.methodLink RX6 173 yX6_share, Cond.static yX6_share, Cond.code yX6_share cX6_share 7 (some .long), Cond.methodLink RX6 337 Lib.MathLoose.abs_long.x, Cond.static Lib.MathLoose.abs_long.x, Cond.initialized "java/lang/Math", Cond.code Lib.MathLoose.abs_long.x Lib.MathLoose.abs_long.code 2 (some .long)]
def wsX6_gain_r4 : List Cond := [Cond.methodLink RX6 343 yX6_commonDivisor, Cond.static yX6_commonDivisor, Cond.code yX6_commonDivisor cX6_commonDivisor 11 (some .long)]
def wsX6_gain : List Cond := .code yX6_gain cX6_gain 2 (some .long) :: ((wsX6_gain_r1 ++ (wsX6_gain_r2 ++ (wsX6_gain_r3 ++ wsX6_gain_r4))) ++ wsX60 ++ wsX20 ++ wsX00 ++ wsX10)
def wsX6_best_r1 : List Cond := [Cond.fieldLink RX6 30 "RopeLine" "here" "LRopeLine$Place;", Cond.fieldLink RX6 44 "RopeLine" "gains" "LRopeLine$Gains;", Cond.methodLink RX6 123 yX2_has, Cond.instanceMethod yX2_has, Cond.selects RX2 yX2_has yX2_has, Cond.initialized RX2, Cond.code yX2_has cX2_has 2 (some .boolean), Cond.fieldLink RX2 39 "RopeLine$Place" "sorts" "I", Cond.static yX6_isWithin, Cond.initialized RX6, Cond.code yX6_isWithin cX6_isWithin 3 (some .boolean), Cond.methodLink RX6 145 yX0_knowBest, Cond.instanceMethod yX0_knowBest, Cond.selects RX0 yX0_knowBest yX0_knowBest, Cond.initialized RX0, Cond.code yX0_knowBest cX0_knowBest 9 none, Cond.fieldLink RX0 25 "RopeLine$Gains" "knowsBest" "Z", Cond.fieldLink RX0 18 "RopeLine$Gains" "row" "[I", Cond.fieldLink RX0 60 "RopeLine$Gains" "upper" "J", Cond.fieldLink RX0 69 "RopeLine$Gains" "lower" "J", Cond.fieldLink RX0 22 "RopeLine$Gains" "bestRow" "[I", Cond.static yX6_rowsOf, Cond.code yX6_rowsOf cX6_rowsOf 3 (some .int), Cond.methodLink RX0 80 yX0_rowBecomes]
def wsX6_best_r2 : List Cond := [Cond.instanceMethod yX0_rowBecomes, Cond.selects RX0 yX0_rowBecomes yX0_rowBecomes, Cond.code yX0_rowBecomes cX0_rowBecomes 5 none, Cond.static yX6_set, Cond.code yX6_set cX6_set 3 none, Cond.methodLink RX0 84 yX0_reckon, Cond.instanceMethod yX0_reckon, Cond.selects RX0 yX0_reckon yX0_reckon, Cond.code yX0_reckon cX0_reckon 6 none, Cond.fieldLink RX0 12 "RopeLine$Gains" "lengths" "LRopeLine$Lengths;", Cond.constantLong RX0 64 (144), Cond.methodLink RX0 29 yX1_comeByBars, Cond.instanceMethod yX1_comeByBars, Cond.selects RX1 yX1_comeByBars yX1_comeByBars, Cond.initialized RX1, Cond.code yX1_comeByBars cX1_comeByBars 4 none, Cond.fieldLink RX1 31 "RopeLine$Lengths" "served" "I", Cond.fieldLink RX1 32 "RopeLine$Lengths" "whole" "I", Cond.fieldLink RX1 9 "RopeLine$Lengths" "joining" "[I", Cond.methodLink RX1 35 yX2_joining, Cond.instanceMethod yX2_joining, Cond.selects RX2 yX2_joining yX2_joining, Cond.code yX2_joining cX2_joining 5 (some .int), Cond.fieldLink RX2 9 "RopeLine$Place" "twelfths" "[I"]
def wsX6_best_r3 : List Cond := [Cond.static yX6_at, Cond.code yX6_at cX6_at 2 (some .int), Cond.methodLink RX1 42 yX1_weigh, Cond.instanceMethod yX1_weigh, Cond.selects RX1 yX1_weigh yX1_weigh, Cond.code yX1_weigh cX1_weigh 3 none, Cond.fieldLink RX1 15 "RopeLine$Lengths" "weights" "[J", Cond.fieldLink RX1 64 "RopeLine$Lengths" "total" "J", Cond.static yX6_set_, Cond.code yX6_set_ cX6_set_ 4 none, Cond.methodLink RX1 54 yX1_grows, Cond.instanceMethod yX1_grows, Cond.selects RX1 yX1_grows yX1_grows, Cond.code yX1_grows cX1_grows 2 (some .long), Cond.static yX6_at_, Cond.code yX6_at_ cX6_at_ 2 (some .long), Cond.methodLink RX1 61 yX1_shrinks, Cond.instanceMethod yX1_shrinks, Cond.selects RX1 yX1_shrinks yX1_shrinks, Cond.code yX1_shrinks cX1_shrinks 2 (some .long), Cond.methodLink RX0 49 yX1_foundBelow, Cond.instanceMethod yX1_foundBelow, Cond.selects RX1 yX1_foundBelow yX1_foundBelow, Cond.code yX1_foundBelow cX1_foundBelow 5 (some .long)]
def wsX6_best_r4 : List Cond := [Cond.methodLink RX1 68 yX1_found, Cond.instanceMethod yX1_found, Cond.selects RX1 yX1_found yX1_found, Cond.code yX1_found cX1_found 2 (some .long), Cond.methodLink RX0 56 yX1_lengthsByWeight, Cond.instanceMethod yX1_lengthsByWeight, Cond.selects RX1 yX1_lengthsByWeight yX1_lengthsByWeight, Cond.code yX1_lengthsByWeight cX1_lengthsByWeight 4 (some .long), Cond.static yX6_compareShares, Cond.code yX6_compareShares cX6_compareShares 25 (some .int), Cond.methodLink RX6 347 yJ9_floorDiv_f86c9, Cond.static yJ9_floorDiv_f86c9, Cond.initialized RJ9, Cond.code yJ9_floorDiv_f86c9 cJ9_floorDiv_f86c9 6 (some .long), Cond.methodLink RX6 128 yX6_at]
def wsX6_best : List Cond := .code yX6_best cX6_best 2 (some .int) :: ((wsX6_best_r1 ++ (wsX6_best_r2 ++ (wsX6_best_r3 ++ wsX6_best_r4))) ++ wsX60 ++ wsX00 ++ wsX20 ++ wsX10)
def wsX6_against_r1 : List Cond := [Cond.fieldLink RX6 30 "RopeLine" "here" "LRopeLine$Place;", Cond.fieldLink RX6 44 "RopeLine" "gains" "LRopeLine$Gains;", Cond.methodLink RX6 207 yX6_rowsOf, Cond.static yX6_rowsOf, Cond.initialized RX6, Cond.code yX6_rowsOf cX6_rowsOf 3 (some .int), Cond.methodLink RX6 63 yX6_isWithin, Cond.static yX6_isWithin, Cond.code yX6_isWithin cX6_isWithin 3 (some .boolean), Cond.methodLink RX6 210 yX0_rowBecomes, Cond.instanceMethod yX0_rowBecomes, Cond.selects RX0 yX0_rowBecomes yX0_rowBecomes, Cond.initialized RX0, Cond.code yX0_rowBecomes cX0_rowBecomes 5 none, Cond.fieldLink RX0 18 "RopeLine$Gains" "row" "[I", Cond.static yX6_set, Cond.code yX6_set cX6_set 3 none, Cond.methodLink RX6 198 yX0_reckon, Cond.instanceMethod yX0_reckon, Cond.selects RX0 yX0_reckon yX0_reckon, Cond.code yX0_reckon cX0_reckon 6 none, Cond.fieldLink RX0 12 "RopeLine$Gains" "lengths" "LRopeLine$Lengths;", Cond.fieldLink RX0 60 "RopeLine$Gains" "upper" "J", Cond.constantLong RX0 64 (144)]
def wsX6_against_r2 : List Cond := [Cond.fieldLink RX0 69 "RopeLine$Gains" "lower" "J", Cond.methodLink RX0 29 yX1_comeByBars, Cond.instanceMethod yX1_comeByBars, Cond.selects RX1 yX1_comeByBars yX1_comeByBars, Cond.initialized RX1, Cond.code yX1_comeByBars cX1_comeByBars 4 none, Cond.fieldLink RX1 31 "RopeLine$Lengths" "served" "I", Cond.fieldLink RX1 32 "RopeLine$Lengths" "whole" "I", Cond.fieldLink RX1 9 "RopeLine$Lengths" "joining" "[I", Cond.methodLink RX1 35 yX2_joining, Cond.instanceMethod yX2_joining, Cond.selects RX2 yX2_joining yX2_joining, Cond.initialized RX2, Cond.code yX2_joining cX2_joining 5 (some .int), Cond.fieldLink RX2 39 "RopeLine$Place" "sorts" "I", Cond.fieldLink RX2 9 "RopeLine$Place" "twelfths" "[I", Cond.static yX6_at, Cond.code yX6_at cX6_at 2 (some .int), Cond.methodLink RX1 42 yX1_weigh, Cond.instanceMethod yX1_weigh, Cond.selects RX1 yX1_weigh yX1_weigh, Cond.code yX1_weigh cX1_weigh 3 none, Cond.fieldLink RX1 15 "RopeLine$Lengths" "weights" "[J", Cond.fieldLink RX1 64 "RopeLine$Lengths" "total" "J"]
def wsX6_against_r3 : List Cond := [Cond.static yX6_set_, Cond.code yX6_set_ cX6_set_ 4 none, Cond.methodLink RX1 54 yX1_grows, Cond.instanceMethod yX1_grows, Cond.selects RX1 yX1_grows yX1_grows, Cond.code yX1_grows cX1_grows 2 (some .long), Cond.static yX6_at_, Cond.code yX6_at_ cX6_at_ 2 (some .long), Cond.methodLink RX1 61 yX1_shrinks, Cond.instanceMethod yX1_shrinks, Cond.selects RX1 yX1_shrinks yX1_shrinks, Cond.code yX1_shrinks cX1_shrinks 2 (some .long), Cond.methodLink RX0 49 yX1_foundBelow, Cond.instanceMethod yX1_foundBelow, Cond.selects RX1 yX1_foundBelow yX1_foundBelow, Cond.code yX1_foundBelow cX1_foundBelow 5 (some .long), Cond.methodLink RX1 68 yX1_found, Cond.instanceMethod yX1_found, Cond.selects RX1 yX1_found yX1_found, Cond.code yX1_found cX1_found 2 (some .long), Cond.methodLink RX0 56 yX1_lengthsByWeight, Cond.instanceMethod yX1_lengthsByWeight, Cond.selects RX1 yX1_lengthsByWeight yX1_lengthsByWeight, Cond.code yX1_lengthsByWeight cX1_lengthsByWeight 4 (some .long)]
def wsX6_against_r4 : List Cond := [Cond.methodLink RX6 217 yX6_compareShares, Cond.static yX6_compareShares, Cond.code yX6_compareShares cX6_compareShares 25 (some .int), Cond.methodLink RX6 347 yJ9_floorDiv_f86c9, Cond.static yJ9_floorDiv_f86c9, Cond.initialized RJ9, Cond.code yJ9_floorDiv_f86c9 cJ9_floorDiv_f86c9 6 (some .long)]
def wsX6_against : List Cond := .code yX6_against cX6_against 8 (some .int) :: ((wsX6_against_r1 ++ (wsX6_against_r2 ++ (wsX6_against_r3 ++ wsX6_against_r4))) ++ wsX60 ++ wsX20 ++ wsX00 ++ wsX10)
def wsX6_mendsAll : List Cond := .code yX6_mendsAll cX6_mendsAll 3 (some .boolean) :: ([.fieldLink RX6 30 "RopeLine" "here" "LRopeLine$Place;", .fieldLink RX6 44 "RopeLine" "gains" "LRopeLine$Gains;", .methodLink RX6 224 yX2_hisBarUnseen, .instanceMethod yX2_hisBarUnseen, .selects RX2 yX2_hisBarUnseen yX2_hisBarUnseen, .initialized RX2, .code yX2_hisBarUnseen cX2_hisBarUnseen 4 (some .int), .fieldLink RX2 15 "RopeLine$Place" "worths" "[I", .fieldLink RX2 31 "RopeLine$Place" "served" "I", .fieldLink RX2 35 "RopeLine$Place" "cost" "I", .static yX6_at, .initialized RX6, .code yX6_at cX6_at 2 (some .int), .methodLink RX6 128 yX6_at] ++ wsX60 ++ wsX20 ++ wsX00)
def wsX6_mends_r1 : List Cond := [Cond.fieldLink RX6 30 "RopeLine" "here" "LRopeLine$Place;", Cond.fieldLink RX6 44 "RopeLine" "gains" "LRopeLine$Gains;", Cond.methodLink RX6 63 yX6_isWithin, Cond.static yX6_isWithin, Cond.initialized RX6, Cond.code yX6_isWithin cX6_isWithin 3 (some .boolean), Cond.methodLink RX6 145 yX0_knowBest, Cond.instanceMethod yX0_knowBest, Cond.selects RX0 yX0_knowBest yX0_knowBest, Cond.initialized RX0, Cond.code yX0_knowBest cX0_knowBest 9 none, Cond.fieldLink RX0 25 "RopeLine$Gains" "knowsBest" "Z", Cond.fieldLink RX0 18 "RopeLine$Gains" "row" "[I", Cond.fieldLink RX0 60 "RopeLine$Gains" "upper" "J", Cond.fieldLink RX0 69 "RopeLine$Gains" "lower" "J", Cond.fieldLink RX0 22 "RopeLine$Gains" "bestRow" "[I", Cond.static yX6_rowsOf, Cond.code yX6_rowsOf cX6_rowsOf 3 (some .int), Cond.methodLink RX0 80 yX0_rowBecomes, Cond.instanceMethod yX0_rowBecomes, Cond.selects RX0 yX0_rowBecomes yX0_rowBecomes, Cond.code yX0_rowBecomes cX0_rowBecomes 5 none, Cond.static yX6_set, Cond.code yX6_set cX6_set 3 none]
def wsX6_mends_r2 : List Cond := [Cond.methodLink RX0 84 yX0_reckon, Cond.instanceMethod yX0_reckon, Cond.selects RX0 yX0_reckon yX0_reckon, Cond.code yX0_reckon cX0_reckon 6 none, Cond.fieldLink RX0 12 "RopeLine$Gains" "lengths" "LRopeLine$Lengths;", Cond.constantLong RX0 64 (144), Cond.methodLink RX0 29 yX1_comeByBars, Cond.instanceMethod yX1_comeByBars, Cond.selects RX1 yX1_comeByBars yX1_comeByBars, Cond.initialized RX1, Cond.code yX1_comeByBars cX1_comeByBars 4 none, Cond.fieldLink RX1 31 "RopeLine$Lengths" "served" "I", Cond.fieldLink RX1 32 "RopeLine$Lengths" "whole" "I", Cond.fieldLink RX1 9 "RopeLine$Lengths" "joining" "[I", Cond.methodLink RX1 35 yX2_joining, Cond.instanceMethod yX2_joining, Cond.selects RX2 yX2_joining yX2_joining, Cond.initialized RX2, Cond.code yX2_joining cX2_joining 5 (some .int), Cond.fieldLink RX2 39 "RopeLine$Place" "sorts" "I", Cond.fieldLink RX2 9 "RopeLine$Place" "twelfths" "[I", Cond.static yX6_at, Cond.code yX6_at cX6_at 2 (some .int), Cond.methodLink RX1 42 yX1_weigh]
def wsX6_mends_r3 : List Cond := [Cond.instanceMethod yX1_weigh, Cond.selects RX1 yX1_weigh yX1_weigh, Cond.code yX1_weigh cX1_weigh 3 none, Cond.fieldLink RX1 15 "RopeLine$Lengths" "weights" "[J", Cond.fieldLink RX1 64 "RopeLine$Lengths" "total" "J", Cond.static yX6_set_, Cond.code yX6_set_ cX6_set_ 4 none, Cond.methodLink RX1 54 yX1_grows, Cond.instanceMethod yX1_grows, Cond.selects RX1 yX1_grows yX1_grows, Cond.code yX1_grows cX1_grows 2 (some .long), Cond.static yX6_at_, Cond.code yX6_at_ cX6_at_ 2 (some .long), Cond.methodLink RX1 61 yX1_shrinks, Cond.instanceMethod yX1_shrinks, Cond.selects RX1 yX1_shrinks yX1_shrinks, Cond.code yX1_shrinks cX1_shrinks 2 (some .long), Cond.methodLink RX0 49 yX1_foundBelow, Cond.instanceMethod yX1_foundBelow, Cond.selects RX1 yX1_foundBelow yX1_foundBelow, Cond.code yX1_foundBelow cX1_foundBelow 5 (some .long), Cond.methodLink RX1 68 yX1_found, Cond.instanceMethod yX1_found, Cond.selects RX1 yX1_found yX1_found]
def wsX6_mends_r4 : List Cond := [Cond.code yX1_found cX1_found 2 (some .long), Cond.methodLink RX0 56 yX1_lengthsByWeight, Cond.instanceMethod yX1_lengthsByWeight, Cond.selects RX1 yX1_lengthsByWeight yX1_lengthsByWeight, Cond.code yX1_lengthsByWeight cX1_lengthsByWeight 4 (some .long), Cond.static yX6_compareShares, Cond.code yX6_compareShares cX6_compareShares 25 (some .int), Cond.methodLink RX6 347 yJ9_floorDiv_f86c9, Cond.static yJ9_floorDiv_f86c9, Cond.initialized RJ9, Cond.code yJ9_floorDiv_f86c9 cJ9_floorDiv_f86c9 6 (some .long), Cond.methodLink RX6 221 yX6_mendsAll, Cond.instanceMethod yX6_mendsAll, Cond.selects RX6 yX6_mendsAll yX6_mendsAll, Cond.code yX6_mendsAll cX6_mendsAll 3 (some .boolean), Cond.methodLink RX6 224 yX2_hisBarUnseen, Cond.instanceMethod yX2_hisBarUnseen, Cond.selects RX2 yX2_hisBarUnseen yX2_hisBarUnseen, Cond.code yX2_hisBarUnseen cX2_hisBarUnseen 4 (some .int), Cond.fieldLink RX2 15 "RopeLine$Place" "worths" "[I", Cond.fieldLink RX2 31 "RopeLine$Place" "served" "I", Cond.fieldLink RX2 35 "RopeLine$Place" "cost" "I", Cond.methodLink RX6 128 yX6_at]
def wsX6_mends : List Cond := .code yX6_mends cX6_mends 6 (some .int) :: ((wsX6_mends_r1 ++ (wsX6_mends_r2 ++ (wsX6_mends_r3 ++ wsX6_mends_r4))) ++ wsX60 ++ wsX20 ++ wsX00 ++ wsX10)
def wsX6_blind_r1 : List Cond := [Cond.constantLong RX6 156 (-9223372036854775808), Cond.fieldLink RX6 30 "RopeLine" "here" "LRopeLine$Place;", Cond.fieldLink RX6 37 "RopeLine" "lengths" "LRopeLine$Lengths;", Cond.methodLink RX6 63 yX6_isWithin, Cond.static yX6_isWithin, Cond.initialized RX6, Cond.code yX6_isWithin cX6_isWithin 3 (some .boolean), Cond.methodLink RX6 227 yX1_comeBlind, Cond.instanceMethod yX1_comeBlind, Cond.selects RX1 yX1_comeBlind yX1_comeBlind, Cond.initialized RX1, Cond.code yX1_comeBlind cX1_comeBlind 4 none, Cond.fieldLink RX1 31 "RopeLine$Lengths" "served" "I", Cond.fieldLink RX1 32 "RopeLine$Lengths" "whole" "I", Cond.fieldLink RX1 9 "RopeLine$Lengths" "joining" "[I", Cond.static yX6_at, Cond.code yX6_at cX6_at 2 (some .int), Cond.static yX6_set, Cond.code yX6_set cX6_set 3 none, Cond.methodLink RX1 42 yX1_weigh, Cond.instanceMethod yX1_weigh, Cond.selects RX1 yX1_weigh yX1_weigh, Cond.code yX1_weigh cX1_weigh 3 none, Cond.fieldLink RX1 15 "RopeLine$Lengths" "weights" "[J"]
def wsX6_blind_r2 : List Cond := [Cond.fieldLink RX1 64 "RopeLine$Lengths" "total" "J", Cond.static yX6_set_, Cond.code yX6_set_ cX6_set_ 4 none, Cond.methodLink RX1 54 yX1_grows, Cond.instanceMethod yX1_grows, Cond.selects RX1 yX1_grows yX1_grows, Cond.code yX1_grows cX1_grows 2 (some .long), Cond.static yX6_at_, Cond.code yX6_at_ cX6_at_ 2 (some .long), Cond.methodLink RX1 61 yX1_shrinks, Cond.instanceMethod yX1_shrinks, Cond.selects RX1 yX1_shrinks yX1_shrinks, Cond.code yX1_shrinks cX1_shrinks 2 (some .long), Cond.methodLink RX6 166 yX6_at_, Cond.methodLink RX6 173 yX6_share, Cond.static yX6_share, Cond.code yX6_share cX6_share 7 (some .long), Cond.methodLink RX6 337 Lib.MathLoose.abs_long.x, Cond.static Lib.MathLoose.abs_long.x, Cond.initialized "java/lang/Math", Cond.code Lib.MathLoose.abs_long.x Lib.MathLoose.abs_long.code 2 (some .long), Cond.methodLink RX6 343 yX6_commonDivisor, Cond.static yX6_commonDivisor, Cond.code yX6_commonDivisor cX6_commonDivisor 11 (some .long)]
def wsX6_blind : List Cond := .code yX6_blind cX6_blind 4 (some .long) :: ((wsX6_blind_r1 ++ wsX6_blind_r2) ++ wsX60 ++ wsX20 ++ wsX10)
def wsX6_paysBlind_r1 : List Cond := [Cond.fieldLink RX6 37 "RopeLine" "lengths" "LRopeLine$Lengths;", Cond.fieldLink RX6 30 "RopeLine" "here" "LRopeLine$Place;", Cond.methodLink RX6 227 yX1_comeBlind, Cond.instanceMethod yX1_comeBlind, Cond.selects RX1 yX1_comeBlind yX1_comeBlind, Cond.initialized RX1, Cond.code yX1_comeBlind cX1_comeBlind 4 none, Cond.fieldLink RX1 31 "RopeLine$Lengths" "served" "I", Cond.fieldLink RX1 32 "RopeLine$Lengths" "whole" "I", Cond.fieldLink RX1 9 "RopeLine$Lengths" "joining" "[I", Cond.static yX6_at, Cond.initialized RX6, Cond.code yX6_at cX6_at 2 (some .int), Cond.static yX6_set, Cond.code yX6_set cX6_set 3 none, Cond.methodLink RX1 42 yX1_weigh, Cond.instanceMethod yX1_weigh, Cond.selects RX1 yX1_weigh yX1_weigh, Cond.code yX1_weigh cX1_weigh 3 none, Cond.fieldLink RX1 15 "RopeLine$Lengths" "weights" "[J", Cond.fieldLink RX1 64 "RopeLine$Lengths" "total" "J", Cond.static yX6_set_, Cond.code yX6_set_ cX6_set_ 4 none, Cond.methodLink RX1 54 yX1_grows]
def wsX6_paysBlind_r2 : List Cond := [Cond.instanceMethod yX1_grows, Cond.selects RX1 yX1_grows yX1_grows, Cond.code yX1_grows cX1_grows 2 (some .long), Cond.static yX6_at_, Cond.code yX6_at_ cX6_at_ 2 (some .long), Cond.methodLink RX1 61 yX1_shrinks, Cond.instanceMethod yX1_shrinks, Cond.selects RX1 yX1_shrinks yX1_shrinks, Cond.code yX1_shrinks cX1_shrinks 2 (some .long), Cond.methodLink RX6 233 yX1_found, Cond.instanceMethod yX1_found, Cond.selects RX1 yX1_found yX1_found, Cond.code yX1_found cX1_found 2 (some .long), Cond.methodLink RX6 128 yX6_at]
def wsX6_paysBlind : List Cond := .code yX6_paysBlind cX6_paysBlind 7 (some .boolean) :: ((wsX6_paysBlind_r1 ++ wsX6_paysBlind_r2) ++ wsX60 ++ wsX20 ++ wsX10)
def wsX6_rest_r1 : List Cond := [Cond.fieldLink RX6 30 "RopeLine" "here" "LRopeLine$Place;", Cond.methodLink RX6 230 yX6_paysBlind, Cond.instanceMethod yX6_paysBlind, Cond.selects RX6 yX6_paysBlind yX6_paysBlind, Cond.initialized RX6, Cond.code yX6_paysBlind cX6_paysBlind 7 (some .boolean), Cond.fieldLink RX6 37 "RopeLine" "lengths" "LRopeLine$Lengths;", Cond.methodLink RX6 227 yX1_comeBlind, Cond.instanceMethod yX1_comeBlind, Cond.selects RX1 yX1_comeBlind yX1_comeBlind, Cond.initialized RX1, Cond.code yX1_comeBlind cX1_comeBlind 4 none, Cond.fieldLink RX1 31 "RopeLine$Lengths" "served" "I", Cond.fieldLink RX1 32 "RopeLine$Lengths" "whole" "I", Cond.fieldLink RX1 9 "RopeLine$Lengths" "joining" "[I", Cond.static yX6_at, Cond.code yX6_at cX6_at 2 (some .int), Cond.static yX6_set, Cond.code yX6_set cX6_set 3 none, Cond.methodLink RX1 42 yX1_weigh, Cond.instanceMethod yX1_weigh, Cond.selects RX1 yX1_weigh yX1_weigh, Cond.code yX1_weigh cX1_weigh 3 none, Cond.fieldLink RX1 15 "RopeLine$Lengths" "weights" "[J"]
def wsX6_rest_r2 : List Cond := [Cond.fieldLink RX1 64 "RopeLine$Lengths" "total" "J", Cond.static yX6_set_, Cond.code yX6_set_ cX6_set_ 4 none, Cond.methodLink RX1 54 yX1_grows, Cond.instanceMethod yX1_grows, Cond.selects RX1 yX1_grows yX1_grows, Cond.code yX1_grows cX1_grows 2 (some .long), Cond.static yX6_at_, Cond.code yX6_at_ cX6_at_ 2 (some .long), Cond.methodLink RX1 61 yX1_shrinks, Cond.instanceMethod yX1_shrinks, Cond.selects RX1 yX1_shrinks yX1_shrinks, Cond.code yX1_shrinks cX1_shrinks 2 (some .long), Cond.methodLink RX6 233 yX1_found, Cond.instanceMethod yX1_found, Cond.selects RX1 yX1_found yX1_found, Cond.code yX1_found cX1_found 2 (some .long), Cond.methodLink RX6 128 yX6_at]
def wsX6_rest : List Cond := .code yX6_rest cX6_rest 2 (some .int) :: ((wsX6_rest_r1 ++ wsX6_rest_r2) ++ wsX60 ++ wsX20 ++ wsX10)
def wsX6_order : List Cond := .code yX6_order cX6_order 3 (some .int) :: ([.fieldLink RX6 236 "RopeLine" "orderNow" "I", .methodLink RX6 63 yX6_isWithin, .static yX6_isWithin, .initialized RX6, .code yX6_isWithin cX6_isWithin 3 (some .boolean)] ++ wsX60)
def wsX6_minute_r1 : List Cond := [Cond.fieldLink RX6 30 "RopeLine" "here" "LRopeLine$Place;", Cond.fieldLink RX6 51 "RopeLine" "queue" "LRopeLine$Queue;", Cond.fieldLink RX6 236 "RopeLine" "orderNow" "I", Cond.methodLink RX6 63 yX6_isWithin, Cond.static yX6_isWithin, Cond.initialized RX6, Cond.code yX6_isWithin cX6_isWithin 3 (some .boolean), Cond.methodLink RX6 239 yX2_sortDrawn, Cond.instanceMethod yX2_sortDrawn, Cond.selects RX2 yX2_sortDrawn yX2_sortDrawn, Cond.initialized RX2, Cond.code yX2_sortDrawn cX2_sortDrawn 4 (some .int), Cond.fieldLink RX2 39 "RopeLine$Place" "sorts" "I", Cond.fieldLink RX2 9 "RopeLine$Place" "twelfths" "[I", Cond.static yX6_at, Cond.code yX6_at cX6_at 2 (some .int), Cond.methodLink RX6 242 yX3_isFull, Cond.instanceMethod yX3_isFull, Cond.selects RX3 yX3_isFull yX3_isFull, Cond.initialized RX3, Cond.code yX3_isFull cX3_isFull 1 (some .boolean), Cond.fieldLink RX3 30 "RopeLine$Queue" "comers" "I", Cond.methodLink RX6 246 yX3_allWait, Cond.instanceMethod yX3_allWait]
def wsX6_minute_r2 : List Cond := [Cond.selects RX3 yX3_allWait yX3_allWait, Cond.code yX3_allWait cX3_allWait 3 none, Cond.fieldLink RX3 34 "RopeLine$Queue" "standing" "I", Cond.fieldLink RX3 27 "RopeLine$Queue" "row" "[I", Cond.fieldLink RX3 18 "RopeLine$Queue" "waited" "[I", Cond.static yX6_set, Cond.code yX6_set cX6_set 3 none, Cond.methodLink RX6 252 yX3_nextBy, Cond.instanceMethod yX3_nextBy, Cond.selects RX3 yX3_nextBy yX3_nextBy, Cond.code yX3_nextBy cX3_nextBy 5 (some .int), Cond.methodLink RX3 52 yX3_worthOf, Cond.instanceMethod yX3_worthOf, Cond.selects RX3 yX3_worthOf yX3_worthOf, Cond.code yX3_worthOf cX3_worthOf 3 (some .int), Cond.fieldLink RX3 15 "RopeLine$Queue" "sorts" "[I", Cond.methodLink RX6 256 yX3_serve, Cond.instanceMethod yX3_serve, Cond.selects RX3 yX3_serve yX3_serve, Cond.code yX3_serve cX3_serve 3 (some .int), Cond.fieldLink RX3 9 "RopeLine$Queue" "kinds" "[I", Cond.fieldLink RX3 24 "RopeLine$Queue" "servedIn" "[I", Cond.fieldLink RX3 37 "RopeLine$Queue" "minutes" "I", Cond.methodLink RX3 61 yX3_takeOut]
def wsX6_minute_r3 : List Cond := [Cond.instanceMethod yX3_takeOut, Cond.selects RX3 yX3_takeOut yX3_takeOut, Cond.code yX3_takeOut cX3_takeOut 3 none, Cond.methodLink RX6 128 yX6_at, Cond.methodLink RX6 259 yX3_comes, Cond.instanceMethod yX3_comes, Cond.selects RX3 yX3_comes yX3_comes, Cond.code yX3_comes cX3_comes 4 (some .boolean), Cond.fieldLink RX3 21 "RopeLine$Queue" "cameIn" "[I"]
def wsX6_minute : List Cond := .code yX6_minute cX6_minute 5 (some .int) :: ((wsX6_minute_r1 ++ (wsX6_minute_r2 ++ wsX6_minute_r3)) ++ wsX60 ++ wsX20 ++ wsX30)
def wsX6_isKind : List Cond := .code yX6_isKind cX6_isKind 3 (some .boolean) :: ([.fieldLink RX6 51 "RopeLine" "queue" "LRopeLine$Queue;", .methodLink RX6 128 yX6_at, .static yX6_at, .initialized RX6, .code yX6_at cX6_at 2 (some .int)] ++ wsX60 ++ wsX30)
def wsX6_ofComer : List Cond := .code yX6_ofComer cX6_ofComer 3 (some .int) :: ([.fieldLink RX6 51 "RopeLine" "queue" "LRopeLine$Queue;", .fieldLink RX6 30 "RopeLine" "here" "LRopeLine$Place;", .methodLink RX6 265 yX3_has, .instanceMethod yX3_has, .selects RX3 yX3_has yX3_has, .initialized RX3, .code yX3_has cX3_has 2 (some .boolean), .fieldLink RX3 30 "RopeLine$Queue" "comers" "I", .static yX6_isWithin, .initialized RX6, .code yX6_isWithin cX6_isWithin 3 (some .boolean), .methodLink RX6 128 yX6_at, .static yX6_at, .code yX6_at cX6_at 2 (some .int), .methodLink RX6 280 yX6_isKind, .instanceMethod yX6_isKind, .selects RX6 yX6_isKind yX6_isKind, .code yX6_isKind cX6_isKind 3 (some .boolean)] ++ wsX60 ++ wsX30 ++ wsX20)
def wsX6_leave_r1 : List Cond := [Cond.fieldLink RX6 51 "RopeLine" "queue" "LRopeLine$Queue;", Cond.methodLink RX6 265 yX3_has, Cond.instanceMethod yX3_has, Cond.selects RX3 yX3_has yX3_has, Cond.initialized RX3, Cond.code yX3_has cX3_has 2 (some .boolean), Cond.fieldLink RX3 30 "RopeLine$Queue" "comers" "I", Cond.static yX6_isWithin, Cond.initialized RX6, Cond.code yX6_isWithin cX6_isWithin 3 (some .boolean), Cond.methodLink RX6 283 yX3_placeOf, Cond.instanceMethod yX3_placeOf, Cond.selects RX3 yX3_placeOf yX3_placeOf, Cond.code yX3_placeOf cX3_placeOf 3 (some .int), Cond.fieldLink RX3 34 "RopeLine$Queue" "standing" "I", Cond.fieldLink RX3 27 "RopeLine$Queue" "row" "[I", Cond.static yX6_at, Cond.code yX6_at cX6_at 2 (some .int), Cond.methodLink RX6 286 yX3_takeOut, Cond.instanceMethod yX3_takeOut, Cond.selects RX3 yX3_takeOut yX3_takeOut, Cond.code yX3_takeOut cX3_takeOut 3 none, Cond.static yX6_set, Cond.code yX6_set cX6_set 3 none]
def wsX6_leave_r2 : List Cond := [Cond.methodLink RX6 141 yX6_set]
def wsX6_leave : List Cond := .code yX6_leave cX6_leave 3 (some .int) :: ((wsX6_leave_r1 ++ wsX6_leave_r2) ++ wsX60 ++ wsX30)
def wsX6_line : List Cond := .code yX6_line cX6_line 2 (some .int) :: ([.fieldLink RX6 51 "RopeLine" "queue" "LRopeLine$Queue;", .methodLink RX6 63 yX6_isWithin, .static yX6_isWithin, .initialized RX6, .code yX6_isWithin cX6_isWithin 3 (some .boolean), .methodLink RX6 128 yX6_at, .static yX6_at, .code yX6_at cX6_at 2 (some .int)] ++ wsX60 ++ wsX30)
def wsX6_envy : List Cond := .code yX6_envy cX6_envy 1 (some .int) :: ([.fieldLink RX6 51 "RopeLine" "queue" "LRopeLine$Queue;", .methodLink RX6 291 yX3_envious, .instanceMethod yX3_envious, .selects RX3 yX3_envious yX3_envious, .initialized RX3, .code yX3_envious cX3_envious 4 (some .int), .fieldLink RX3 30 "RopeLine$Queue" "comers" "I", .methodLink RX3 65 yX3_envies, .instanceMethod yX3_envies, .selects RX3 yX3_envies yX3_envies, .code yX3_envies cX3_envies 3 (some .boolean), .fieldLink RX3 9 "RopeLine$Queue" "kinds" "[I", .fieldLink RX3 24 "RopeLine$Queue" "servedIn" "[I", .static yX6_at, .initialized RX6, .code yX6_at cX6_at 2 (some .int)] ++ wsX60 ++ wsX30)
def wsX6_sheet_r1 : List Cond := [Cond.fieldLink RX6 55 "RopeLine" "faultNow" "I", Cond.fieldLink RX6 12 "RopeLine" "sheets" "LRopeLine$Sheets;", Cond.methodLink RX6 59 yX4_has, Cond.instanceMethod yX4_has, Cond.selects RX4 yX4_has yX4_has, Cond.initialized RX4, Cond.code yX4_has cX4_has 2 (some .boolean), Cond.static yX6_isWithin, Cond.initialized RX6, Cond.code yX6_isWithin cX6_isWithin 3 (some .boolean), Cond.methodLink RX6 63 yX6_isWithin, Cond.methodLink RX6 71 yX6_faulted, Cond.instanceMethod yX6_faulted, Cond.selects RX6 yX6_faulted yX6_faulted, Cond.code yX6_faulted cX6_faulted 2 (some .int), Cond.methodLink RX6 294 yX4_renew, Cond.instanceMethod yX4_renew, Cond.selects RX4 yX4_renew yX4_renew, Cond.code yX4_renew cX4_renew 5 none, Cond.fieldLink RX4 9 "RopeLine$Sheets" "lanes" "[I", Cond.fieldLink RX4 15 "RopeLine$Sheets" "sizes" "[I", Cond.fieldLink RX4 18 "RopeLine$Sheets" "cells" "[I", Cond.static yX6_set, Cond.code yX6_set cX6_set 3 none]
def wsX6_sheet_r2 : List Cond := [Cond.methodLink RX4 37 yX4_indexOf, Cond.instanceMethod yX4_indexOf, Cond.selects RX4 yX4_indexOf yX4_indexOf, Cond.code yX4_indexOf cX4_indexOf 3 (some .int)]
def wsX6_sheet : List Cond := .code yX6_sheet cX6_sheet 4 (some .int) :: ((wsX6_sheet_r1 ++ wsX6_sheet_r2) ++ wsX60 ++ wsX40)
def wsX6_lose : List Cond := .code yX6_lose cX6_lose 2 (some .int) :: ([.fieldLink RX6 12 "RopeLine" "sheets" "LRopeLine$Sheets;", .methodLink RX6 59 yX4_has, .instanceMethod yX4_has, .selects RX4 yX4_has yX4_has, .initialized RX4, .code yX4_has cX4_has 2 (some .boolean), .static yX6_isWithin, .initialized RX6, .code yX6_isWithin cX6_isWithin 3 (some .boolean), .methodLink RX6 75 yX4_hasNothing, .instanceMethod yX4_hasNothing, .selects RX4 yX4_hasNothing yX4_hasNothing, .code yX4_hasNothing cX4_hasNothing 2 (some .boolean), .fieldLink RX4 9 "RopeLine$Sheets" "lanes" "[I", .static yX6_at, .code yX6_at cX6_at 2 (some .int), .methodLink RX6 298 yX4_forget, .instanceMethod yX4_forget, .selects RX4 yX4_forget yX4_forget, .code yX4_forget cX4_forget 2 none, .fieldLink RX4 15 "RopeLine$Sheets" "sizes" "[I", .static yX6_set, .code yX6_set cX6_set 3 none] ++ wsX60 ++ wsX40)
def wsX6_put_r1 : List Cond := [Cond.fieldLink RX6 55 "RopeLine" "faultNow" "I", Cond.fieldLink RX6 12 "RopeLine" "sheets" "LRopeLine$Sheets;", Cond.methodLink RX6 59 yX4_has, Cond.instanceMethod yX4_has, Cond.selects RX4 yX4_has yX4_has, Cond.initialized RX4, Cond.code yX4_has cX4_has 2 (some .boolean), Cond.static yX6_isWithin, Cond.initialized RX6, Cond.code yX6_isWithin cX6_isWithin 3 (some .boolean), Cond.methodLink RX6 75 yX4_hasNothing, Cond.instanceMethod yX4_hasNothing, Cond.selects RX4 yX4_hasNothing yX4_hasNothing, Cond.code yX4_hasNothing cX4_hasNothing 2 (some .boolean), Cond.fieldLink RX4 9 "RopeLine$Sheets" "lanes" "[I", Cond.static yX6_at, Cond.code yX6_at cX6_at 2 (some .int), Cond.methodLink RX6 71 yX6_faulted, Cond.instanceMethod yX6_faulted, Cond.selects RX6 yX6_faulted yX6_faulted, Cond.code yX6_faulted cX6_faulted 2 (some .int), Cond.methodLink RX6 78 yX4_sizeOf, Cond.instanceMethod yX4_sizeOf, Cond.selects RX4 yX4_sizeOf yX4_sizeOf]
def wsX6_put_r2 : List Cond := [Cond.code yX4_sizeOf cX4_sizeOf 2 (some .int), Cond.fieldLink RX4 15 "RopeLine$Sheets" "sizes" "[I", Cond.methodLink RX6 63 yX6_isWithin, Cond.methodLink RX6 301 yX4_write, Cond.instanceMethod yX4_write, Cond.selects RX4 yX4_write yX4_write, Cond.code yX4_write cX4_write 5 none, Cond.fieldLink RX4 18 "RopeLine$Sheets" "cells" "[I", Cond.methodLink RX4 37 yX4_indexOf, Cond.instanceMethod yX4_indexOf, Cond.selects RX4 yX4_indexOf yX4_indexOf, Cond.code yX4_indexOf cX4_indexOf 3 (some .int), Cond.static yX6_set, Cond.code yX6_set cX6_set 3 none]
def wsX6_put : List Cond := .code yX6_put cX6_put 4 (some .int) :: ((wsX6_put_r1 ++ wsX6_put_r2) ++ wsX60 ++ wsX40)
def wsX6_lost : List Cond := .code yX6_lost cX6_lost 2 (some .long) :: ([.fieldLink RX6 55 "RopeLine" "faultNow" "I", .constantLong RX6 156 (-9223372036854775808)] ++ wsX60)
def wsX6_cell_r1 : List Cond := [Cond.fieldLink RX6 55 "RopeLine" "faultNow" "I", Cond.fieldLink RX6 12 "RopeLine" "sheets" "LRopeLine$Sheets;", Cond.constantLong RX6 156 (-9223372036854775808), Cond.methodLink RX6 59 yX4_has, Cond.instanceMethod yX4_has, Cond.selects RX4 yX4_has yX4_has, Cond.initialized RX4, Cond.code yX4_has cX4_has 2 (some .boolean), Cond.static yX6_isWithin, Cond.initialized RX6, Cond.code yX6_isWithin cX6_isWithin 3 (some .boolean), Cond.methodLink RX6 63 yX6_isWithin, Cond.methodLink RX6 67 yX4_isOfAnotherLane, Cond.instanceMethod yX4_isOfAnotherLane, Cond.selects RX4 yX4_isOfAnotherLane yX4_isOfAnotherLane, Cond.code yX4_isOfAnotherLane cX4_isOfAnotherLane 3 (some .boolean), Cond.fieldLink RX4 9 "RopeLine$Sheets" "lanes" "[I", Cond.methodLink RX4 33 yX4_hasNothing, Cond.instanceMethod yX4_hasNothing, Cond.selects RX4 yX4_hasNothing yX4_hasNothing, Cond.code yX4_hasNothing cX4_hasNothing 2 (some .boolean), Cond.static yX6_at, Cond.code yX6_at cX6_at 2 (some .int), Cond.methodLink RX6 304 yX6_lost]
def wsX6_cell_r2 : List Cond := [Cond.instanceMethod yX6_lost, Cond.selects RX6 yX6_lost yX6_lost, Cond.code yX6_lost cX6_lost 2 (some .long), Cond.methodLink RX6 75 yX4_hasNothing, Cond.methodLink RX6 78 yX4_sizeOf, Cond.instanceMethod yX4_sizeOf, Cond.selects RX4 yX4_sizeOf yX4_sizeOf, Cond.code yX4_sizeOf cX4_sizeOf 2 (some .int), Cond.fieldLink RX4 15 "RopeLine$Sheets" "sizes" "[I", Cond.methodLink RX6 307 yX4_read, Cond.instanceMethod yX4_read, Cond.selects RX4 yX4_read yX4_read, Cond.code yX4_read cX4_read 3 (some .int), Cond.fieldLink RX4 18 "RopeLine$Sheets" "cells" "[I", Cond.methodLink RX4 37 yX4_indexOf, Cond.instanceMethod yX4_indexOf, Cond.selects RX4 yX4_indexOf yX4_indexOf, Cond.code yX4_indexOf cX4_indexOf 3 (some .int)]
def wsX6_cell : List Cond := .code yX6_cell cX6_cell 4 (some .long) :: ((wsX6_cell_r1 ++ wsX6_cell_r2) ++ wsX60 ++ wsX40)
def wsX6_leaveNumber : List Cond := .code yX6_leaveNumber cX6_leaveNumber 2 none :: ([.fieldLink RX6 325 "RopeLine" "traceNow" "I"] ++ wsX60)
def wsX6_toldByComer : List Cond := .code yX6_toldByComer cX6_toldByComer 2 (some .int) :: ([.fieldLink RX6 51 "RopeLine" "queue" "LRopeLine$Queue;", .methodLink RX6 334 yX6_leaveNumber, .instanceMethod yX6_leaveNumber, .selects RX6 yX6_leaveNumber yX6_leaveNumber, .initialized RX6, .code yX6_leaveNumber cX6_leaveNumber 2 none, .fieldLink RX6 325 "RopeLine" "traceNow" "I", .methodLink RX6 128 yX6_at, .static yX6_at, .code yX6_at cX6_at 2 (some .int)] ++ wsX60 ++ wsX30)
def wsX6_toldByStands : List Cond := .code yX6_toldByStands cX6_toldByStands 2 (some .int) :: ([.fieldLink RX6 51 "RopeLine" "queue" "LRopeLine$Queue;", .methodLink RX6 334 yX6_leaveNumber, .instanceMethod yX6_leaveNumber, .selects RX6 yX6_leaveNumber yX6_leaveNumber, .initialized RX6, .code yX6_leaveNumber cX6_leaveNumber 2 none, .fieldLink RX6 325 "RopeLine" "traceNow" "I", .methodLink RX6 316 yX6_toldByComer, .instanceMethod yX6_toldByComer, .selects RX6 yX6_toldByComer yX6_toldByComer, .code yX6_toldByComer cX6_toldByComer 2 (some .int), .methodLink RX6 128 yX6_at, .static yX6_at, .code yX6_at cX6_at 2 (some .int)] ++ wsX60 ++ wsX30)
def wsX6_toldByDone : List Cond := .code yX6_toldByDone cX6_toldByDone 3 (some .int) :: ([.methodLink RX6 334 yX6_leaveNumber, .instanceMethod yX6_leaveNumber, .selects RX6 yX6_leaveNumber yX6_leaveNumber, .initialized RX6, .code yX6_leaveNumber cX6_leaveNumber 2 none, .fieldLink RX6 325 "RopeLine" "traceNow" "I", .methodLink RX6 313 yX6_toldByStands, .instanceMethod yX6_toldByStands, .selects RX6 yX6_toldByStands yX6_toldByStands, .code yX6_toldByStands cX6_toldByStands 2 (some .int), .fieldLink RX6 51 "RopeLine" "queue" "LRopeLine$Queue;", .methodLink RX6 316 yX6_toldByComer, .instanceMethod yX6_toldByComer, .selects RX6 yX6_toldByComer yX6_toldByComer, .code yX6_toldByComer cX6_toldByComer 2 (some .int), .methodLink RX6 128 yX6_at, .static yX6_at, .code yX6_at cX6_at 2 (some .int)] ++ wsX60 ++ wsX30)
def wsX6_tell_r1 : List Cond := [Cond.fieldLink RX6 51 "RopeLine" "queue" "LRopeLine$Queue;", Cond.methodLink RX6 265 yX3_has, Cond.instanceMethod yX3_has, Cond.selects RX3 yX3_has yX3_has, Cond.initialized RX3, Cond.code yX3_has cX3_has 2 (some .boolean), Cond.fieldLink RX3 30 "RopeLine$Queue" "comers" "I", Cond.static yX6_isWithin, Cond.initialized RX6, Cond.code yX6_isWithin cX6_isWithin 3 (some .boolean), Cond.methodLink RX6 128 yX6_at, Cond.static yX6_at, Cond.code yX6_at cX6_at 2 (some .int), Cond.methodLink RX6 310 yX6_toldByDone, Cond.instanceMethod yX6_toldByDone, Cond.selects RX6 yX6_toldByDone yX6_toldByDone, Cond.code yX6_toldByDone cX6_toldByDone 3 (some .int), Cond.methodLink RX6 334 yX6_leaveNumber, Cond.instanceMethod yX6_leaveNumber, Cond.selects RX6 yX6_leaveNumber yX6_leaveNumber, Cond.code yX6_leaveNumber cX6_leaveNumber 2 none, Cond.fieldLink RX6 325 "RopeLine" "traceNow" "I", Cond.methodLink RX6 313 yX6_toldByStands, Cond.instanceMethod yX6_toldByStands]
def wsX6_tell_r2 : List Cond := [Cond.selects RX6 yX6_toldByStands yX6_toldByStands, Cond.code yX6_toldByStands cX6_toldByStands 2 (some .int), Cond.methodLink RX6 316 yX6_toldByComer, Cond.instanceMethod yX6_toldByComer, Cond.selects RX6 yX6_toldByComer yX6_toldByComer, Cond.code yX6_toldByComer cX6_toldByComer 2 (some .int)]
def wsX6_tell : List Cond := .code yX6_tell cX6_tell 2 (some .int) :: ((wsX6_tell_r1 ++ wsX6_tell_r2) ++ wsX60 ++ wsX30)
def wsX6_calledByDone : List Cond := .code yX6_calledByDone cX6_calledByDone 1 (some .int) :: ([.methodLink RX6 334 yX6_leaveNumber, .instanceMethod yX6_leaveNumber, .selects RX6 yX6_leaveNumber yX6_leaveNumber, .initialized RX6, .code yX6_leaveNumber cX6_leaveNumber 2 none, .fieldLink RX6 325 "RopeLine" "traceNow" "I"] ++ wsX60)
def wsX6_calledByLent : List Cond := .code yX6_calledByLent cX6_calledByLent 2 (some .int) :: ([.methodLink RX6 334 yX6_leaveNumber, .instanceMethod yX6_leaveNumber, .selects RX6 yX6_leaveNumber yX6_leaveNumber, .initialized RX6, .code yX6_leaveNumber cX6_leaveNumber 2 none, .fieldLink RX6 325 "RopeLine" "traceNow" "I"] ++ wsX60)
def wsX6_call_r1 : List Cond := [Cond.fieldLink RX6 51 "RopeLine" "queue" "LRopeLine$Queue;", Cond.methodLink RX6 265 yX3_has, Cond.instanceMethod yX3_has, Cond.selects RX3 yX3_has yX3_has, Cond.initialized RX3, Cond.code yX3_has cX3_has 2 (some .boolean), Cond.fieldLink RX3 30 "RopeLine$Queue" "comers" "I", Cond.static yX6_isWithin, Cond.initialized RX6, Cond.code yX6_isWithin cX6_isWithin 3 (some .boolean), Cond.methodLink RX6 280 yX6_isKind, Cond.instanceMethod yX6_isKind, Cond.selects RX6 yX6_isKind yX6_isKind, Cond.code yX6_isKind cX6_isKind 3 (some .boolean), Cond.methodLink RX6 128 yX6_at, Cond.static yX6_at, Cond.code yX6_at cX6_at 2 (some .int), Cond.methodLink RX6 319 yX6_calledByDone, Cond.instanceMethod yX6_calledByDone, Cond.selects RX6 yX6_calledByDone yX6_calledByDone, Cond.code yX6_calledByDone cX6_calledByDone 1 (some .int), Cond.methodLink RX6 334 yX6_leaveNumber, Cond.instanceMethod yX6_leaveNumber, Cond.selects RX6 yX6_leaveNumber yX6_leaveNumber]
def wsX6_call_r2 : List Cond := [Cond.code yX6_leaveNumber cX6_leaveNumber 2 none, Cond.fieldLink RX6 325 "RopeLine" "traceNow" "I", Cond.methodLink RX6 322 yX6_calledByLent, Cond.instanceMethod yX6_calledByLent, Cond.selects RX6 yX6_calledByLent yX6_calledByLent, Cond.code yX6_calledByLent cX6_calledByLent 2 (some .int)]
def wsX6_call : List Cond := .code yX6_call cX6_call 2 (some .int) :: ((wsX6_call_r1 ++ wsX6_call_r2) ++ wsX60 ++ wsX30)
def wsX6_as : List Cond := .code yX6_as cX6_as 3 (some .int) :: ([.fieldLink RX6 55 "RopeLine" "faultNow" "I", .fieldLink RX6 51 "RopeLine" "queue" "LRopeLine$Queue;", .methodLink RX6 265 yX3_has, .instanceMethod yX3_has, .selects RX3 yX3_has yX3_has, .initialized RX3, .code yX3_has cX3_has 2 (some .boolean), .fieldLink RX3 30 "RopeLine$Queue" "comers" "I", .static yX6_isWithin, .initialized RX6, .code yX6_isWithin cX6_isWithin 3 (some .boolean), .methodLink RX6 63 yX6_isWithin, .methodLink RX6 280 yX6_isKind, .instanceMethod yX6_isKind, .selects RX6 yX6_isKind yX6_isKind, .code yX6_isKind cX6_isKind 3 (some .boolean), .methodLink RX6 128 yX6_at, .static yX6_at, .code yX6_at cX6_at 2 (some .int), .methodLink RX6 71 yX6_faulted, .instanceMethod yX6_faulted, .selects RX6 yX6_faulted yX6_faulted, .code yX6_faulted cX6_faulted 2 (some .int)] ++ wsX60 ++ wsX30)
def wsX6_trace : List Cond := .code yX6_trace cX6_trace 1 (some .int) :: ([.fieldLink RX6 325 "RopeLine" "traceNow" "I"] ++ wsX60)
def wsX6_fault : List Cond := .code yX6_fault cX6_fault 1 (some .int) :: ([.fieldLink RX6 55 "RopeLine" "faultNow" "I"] ++ wsX60)
def wsX6_many : List Cond := .code yX6_many cX6_many 2 (some .int) :: ([.fieldLink RX6 30 "RopeLine" "here" "LRopeLine$Place;", .fieldLink RX6 51 "RopeLine" "queue" "LRopeLine$Queue;", .methodLink RX6 331 yX3_done, .instanceMethod yX3_done, .selects RX3 yX3_done yX3_done, .initialized RX3, .code yX3_done cX3_done 3 (some .int), .fieldLink RX3 30 "RopeLine$Queue" "comers" "I", .fieldLink RX3 9 "RopeLine$Queue" "kinds" "[I", .static yX6_at, .initialized RX6, .code yX6_at cX6_at 2 (some .int)] ++ wsX60 ++ wsX20 ++ wsX30)
def wsX7_init_r1 : List Cond := [Cond.methodLink RX7 1 objectInit, Cond.instanceMethod objectInit, Cond.code objectInit ⟨#[0xb1]⟩ 1 none, Cond.arrayClass .int, Cond.fieldLink RX7 9 "RopeLineModel" "lanes" "[I", Cond.fieldLink RX7 13 "RopeLineModel" "sheetLong" "[I", Cond.fieldLink RX7 16 "RopeLineModel" "cells" "[I", Cond.fieldLink RX7 19 "RopeLineModel" "twelfths" "[I", Cond.fieldLink RX7 22 "RopeLineModel" "worths" "[I", Cond.fieldLink RX7 25 "RopeLineModel" "bars" "[I", Cond.fieldLink RX7 28 "RopeLineModel" "readTwelfths" "[I", Cond.fieldLink RX7 31 "RopeLineModel" "readWorths" "[I", Cond.fieldLink RX7 34 "RopeLineModel" "joins" "[I", Cond.arrayClass .long, Cond.fieldLink RX7 37 "RopeLineModel" "ups" "[J", Cond.fieldLink RX7 41 "RopeLineModel" "downs" "[J", Cond.fieldLink RX7 44 "RopeLineModel" "weights" "[J", Cond.fieldLink RX7 47 "RopeLineModel" "now" "[J", Cond.fieldLink RX7 50 "RopeLineModel" "next" "[J", Cond.fieldLink RX7 53 "RopeLineModel" "row" "[I", Cond.fieldLink RX7 56 "RopeLineModel" "bestRow" "[I", Cond.fieldLink RX7 59 "RopeLineModel" "comerSort" "[I", Cond.fieldLink RX7 62 "RopeLineModel" "comerKind" "[I", Cond.fieldLink RX7 65 "RopeLineModel" "waited" "[I"]
def wsX7_init_r2 : List Cond := [Cond.fieldLink RX7 68 "RopeLineModel" "came" "[I", Cond.fieldLink RX7 71 "RopeLineModel" "gone" "[I"]
def wsX7_init : List Cond := .code yX7_init cX7_init 1 none :: ((wsX7_init_r1 ++ wsX7_init_r2) ++ wsX70)
def wsX7_fails : List Cond := .code yX7_fails cX7_fails 2 (some .int) :: ([.fieldLink RX7 74 "RopeLineModel" "fault" "I"] ++ wsX70)
def wsX7_lost : List Cond := .code yX7_lost cX7_lost 2 (some .long) :: ([.fieldLink RX7 74 "RopeLineModel" "fault" "I", .constantLong RX7 78 (-9223372036854775808)] ++ wsX70)
def wsX7_within : List Cond := .code yX7_within cX7_within 3 (some .boolean) :: ([])
def wsX7_common : List Cond := .code yX7_common cX7_common 10 (some .long) :: ([])
def wsX7_share : List Cond := .code yX7_share cX7_share 7 none :: ([.fieldLink RX7 84 "RopeLineModel" "up" "J", .fieldLink RX7 88 "RopeLineModel" "down" "J", .methodLink RX7 80 yX7_common, .static yX7_common, .initialized RX7, .code yX7_common cX7_common 10 (some .long)] ++ wsX70)
def wsX7_told : List Cond := .code yX7_told cX7_told 2 (some .long) :: ([.fieldLink RX7 84 "RopeLineModel" "up" "J", .fieldLink RX7 88 "RopeLineModel" "down" "J"] ++ wsX70)
def wsX7_isWhich : List Cond := .code yX7_isWhich cX7_isWhich 1 (some .boolean) :: ([])
def wsX7_whole : List Cond := .code yX7_whole cX7_whole 6 (some .long) :: ([])
def wsX7_compare : List Cond := .code yX7_compare cX7_compare 23 (some .int) :: ([.methodLink RX7 91 yX7_whole, .static yX7_whole, .initialized RX7, .code yX7_whole cX7_whole 6 (some .long)])
def wsX7_isSheet : List Cond := .code yX7_isSheet cX7_isSheet 1 (some .boolean) :: ([.methodLink RX7 94 yX7_within, .static yX7_within, .initialized RX7, .code yX7_within cX7_within 3 (some .boolean)])
def wsX7_isLane : List Cond := .code yX7_isLane cX7_isLane 1 (some .boolean) :: ([.methodLink RX7 94 yX7_within, .static yX7_within, .initialized RX7, .code yX7_within cX7_within 3 (some .boolean)])
def wsX7_codeAt : List Cond := .code yX7_codeAt cX7_codeAt 1 (some .int) :: ([.fieldLink RX7 98 "RopeLineModel" "at" "I", .fieldLink RX7 101 "RopeLineModel" "end" "I", .fieldLink RX7 16 "RopeLineModel" "cells" "[I"] ++ wsX70)
def wsX7_readsLetter : List Cond := .code yX7_readsLetter cX7_readsLetter 2 (some .boolean) :: ([.fieldLink RX7 98 "RopeLineModel" "at" "I", .methodLink RX7 104 yX7_codeAt, .instanceMethod yX7_codeAt, .selects RX7 yX7_codeAt yX7_codeAt, .initialized RX7, .code yX7_codeAt cX7_codeAt 1 (some .int), .fieldLink RX7 101 "RopeLineModel" "end" "I", .fieldLink RX7 16 "RopeLineModel" "cells" "[I"] ++ wsX70)
def wsX7_readsNumber : List Cond := .code yX7_readsNumber cX7_readsNumber 5 (some .int) :: ([.fieldLink RX7 98 "RopeLineModel" "at" "I", .methodLink RX7 104 yX7_codeAt, .instanceMethod yX7_codeAt, .selects RX7 yX7_codeAt yX7_codeAt, .initialized RX7, .code yX7_codeAt cX7_codeAt 1 (some .int), .fieldLink RX7 101 "RopeLineModel" "end" "I", .fieldLink RX7 16 "RopeLineModel" "cells" "[I", .methodLink RX7 94 yX7_within, .static yX7_within, .code yX7_within cX7_within 3 (some .boolean)] ++ wsX70)
def wsX7_readsSort : List Cond := .code yX7_readsSort cX7_readsSort 4 (some .boolean) :: ([.fieldLink RX7 112 "RopeLineModel" "readSorts" "I", .fieldLink RX7 28 "RopeLineModel" "readTwelfths" "[I", .fieldLink RX7 31 "RopeLineModel" "readWorths" "[I", .methodLink RX7 108 yX7_readsLetter, .instanceMethod yX7_readsLetter, .selects RX7 yX7_readsLetter yX7_readsLetter, .initialized RX7, .code yX7_readsLetter cX7_readsLetter 2 (some .boolean), .fieldLink RX7 98 "RopeLineModel" "at" "I", .methodLink RX7 104 yX7_codeAt, .instanceMethod yX7_codeAt, .selects RX7 yX7_codeAt yX7_codeAt, .code yX7_codeAt cX7_codeAt 1 (some .int), .fieldLink RX7 101 "RopeLineModel" "end" "I", .fieldLink RX7 16 "RopeLineModel" "cells" "[I", .methodLink RX7 115 yX7_readsNumber, .instanceMethod yX7_readsNumber, .selects RX7 yX7_readsNumber yX7_readsNumber, .code yX7_readsNumber cX7_readsNumber 5 (some .int), .methodLink RX7 94 yX7_within, .static yX7_within, .code yX7_within cX7_within 3 (some .boolean)] ++ wsX70)
def wsX7_readsAll_r1 : List Cond := [Cond.fieldLink RX7 112 "RopeLineModel" "readSorts" "I", Cond.fieldLink RX7 119 "RopeLineModel" "readServed" "I", Cond.fieldLink RX7 122 "RopeLineModel" "readCost" "I", Cond.fieldLink RX7 98 "RopeLineModel" "at" "I", Cond.fieldLink RX7 101 "RopeLineModel" "end" "I", Cond.methodLink RX7 108 yX7_readsLetter, Cond.instanceMethod yX7_readsLetter, Cond.selects RX7 yX7_readsLetter yX7_readsLetter, Cond.initialized RX7, Cond.code yX7_readsLetter cX7_readsLetter 2 (some .boolean), Cond.methodLink RX7 104 yX7_codeAt, Cond.instanceMethod yX7_codeAt, Cond.selects RX7 yX7_codeAt yX7_codeAt, Cond.code yX7_codeAt cX7_codeAt 1 (some .int), Cond.fieldLink RX7 16 "RopeLineModel" "cells" "[I", Cond.methodLink RX7 115 yX7_readsNumber, Cond.instanceMethod yX7_readsNumber, Cond.selects RX7 yX7_readsNumber yX7_readsNumber, Cond.code yX7_readsNumber cX7_readsNumber 5 (some .int), Cond.methodLink RX7 94 yX7_within, Cond.static yX7_within, Cond.code yX7_within cX7_within 3 (some .boolean), Cond.methodLink RX7 125 yX7_readsSort, Cond.instanceMethod yX7_readsSort]
def wsX7_readsAll_r2 : List Cond := [Cond.selects RX7 yX7_readsSort yX7_readsSort, Cond.code yX7_readsSort cX7_readsSort 4 (some .boolean), Cond.fieldLink RX7 28 "RopeLineModel" "readTwelfths" "[I", Cond.fieldLink RX7 31 "RopeLineModel" "readWorths" "[I"]
def wsX7_readsAll : List Cond := .code yX7_readsAll cX7_readsAll 1 (some .boolean) :: ((wsX7_readsAll_r1 ++ wsX7_readsAll_r2) ++ wsX70)
def wsX7_place_r1 : List Cond := [Cond.fieldLink RX7 74 "RopeLineModel" "fault" "I", Cond.fieldLink RX7 9 "RopeLineModel" "lanes" "[I", Cond.fieldLink RX7 13 "RopeLineModel" "sheetLong" "[I", Cond.fieldLink RX7 98 "RopeLineModel" "at" "I", Cond.fieldLink RX7 101 "RopeLineModel" "end" "I", Cond.fieldLink RX7 142 "RopeLineModel" "isPlace" "Z", Cond.fieldLink RX7 119 "RopeLineModel" "readServed" "I", Cond.fieldLink RX7 146 "RopeLineModel" "served" "I", Cond.fieldLink RX7 122 "RopeLineModel" "readCost" "I", Cond.fieldLink RX7 149 "RopeLineModel" "cost" "I", Cond.fieldLink RX7 112 "RopeLineModel" "readSorts" "I", Cond.fieldLink RX7 152 "RopeLineModel" "sorts" "I", Cond.fieldLink RX7 19 "RopeLineModel" "twelfths" "[I", Cond.fieldLink RX7 28 "RopeLineModel" "readTwelfths" "[I", Cond.fieldLink RX7 22 "RopeLineModel" "worths" "[I", Cond.fieldLink RX7 31 "RopeLineModel" "readWorths" "[I", Cond.fieldLink RX7 25 "RopeLineModel" "bars" "[I", Cond.fieldLink RX7 155 "RopeLineModel" "toll" "I", Cond.fieldLink RX7 158 "RopeLineModel" "step" "I", Cond.fieldLink RX7 161 "RopeLineModel" "lie" "I", Cond.fieldLink RX7 164 "RopeLineModel" "comers" "I", Cond.fieldLink RX7 167 "RopeLineModel" "minutes" "I", Cond.methodLink RX7 129 yX7_isSheet, Cond.static yX7_isSheet]
def wsX7_place_r2 : List Cond := [Cond.initialized RX7, Cond.code yX7_isSheet cX7_isSheet 1 (some .boolean), Cond.methodLink RX7 94 yX7_within, Cond.static yX7_within, Cond.code yX7_within cX7_within 3 (some .boolean), Cond.methodLink RX7 132 yX7_isLane, Cond.static yX7_isLane, Cond.code yX7_isLane cX7_isLane 1 (some .boolean), Cond.methodLink RX7 135 yX7_fails, Cond.instanceMethod yX7_fails, Cond.selects RX7 yX7_fails yX7_fails, Cond.code yX7_fails cX7_fails 2 (some .int), Cond.methodLink RX7 139 yX7_readsAll, Cond.instanceMethod yX7_readsAll, Cond.selects RX7 yX7_readsAll yX7_readsAll, Cond.code yX7_readsAll cX7_readsAll 1 (some .boolean), Cond.methodLink RX7 108 yX7_readsLetter, Cond.instanceMethod yX7_readsLetter, Cond.selects RX7 yX7_readsLetter yX7_readsLetter, Cond.code yX7_readsLetter cX7_readsLetter 2 (some .boolean), Cond.methodLink RX7 104 yX7_codeAt, Cond.instanceMethod yX7_codeAt, Cond.selects RX7 yX7_codeAt yX7_codeAt, Cond.code yX7_codeAt cX7_codeAt 1 (some .int)]
def wsX7_place_r3 : List Cond := [Cond.fieldLink RX7 16 "RopeLineModel" "cells" "[I", Cond.methodLink RX7 115 yX7_readsNumber, Cond.instanceMethod yX7_readsNumber, Cond.selects RX7 yX7_readsNumber yX7_readsNumber, Cond.code yX7_readsNumber cX7_readsNumber 5 (some .int), Cond.methodLink RX7 125 yX7_readsSort, Cond.instanceMethod yX7_readsSort, Cond.selects RX7 yX7_readsSort yX7_readsSort, Cond.code yX7_readsSort cX7_readsSort 4 (some .boolean)]
def wsX7_place : List Cond := .code yX7_place cX7_place 7 (some .int) :: ((wsX7_place_r1 ++ (wsX7_place_r2 ++ wsX7_place_r3)) ++ wsX70)
def wsX7_allTwelfths : List Cond := .code yX7_allTwelfths cX7_allTwelfths 3 (some .int) :: ([.fieldLink RX7 152 "RopeLineModel" "sorts" "I", .fieldLink RX7 19 "RopeLineModel" "twelfths" "[I"] ++ wsX70)
def wsX7_about : List Cond := .code yX7_about cX7_about 2 (some .int) :: ([.fieldLink RX7 142 "RopeLineModel" "isPlace" "Z", .fieldLink RX7 146 "RopeLineModel" "served" "I", .fieldLink RX7 149 "RopeLineModel" "cost" "I", .fieldLink RX7 155 "RopeLineModel" "toll" "I", .fieldLink RX7 158 "RopeLineModel" "step" "I", .fieldLink RX7 161 "RopeLineModel" "lie" "I", .methodLink RX7 94 yX7_within, .static yX7_within, .initialized RX7, .code yX7_within cX7_within 3 (some .boolean), .methodLink RX7 170 yX7_allTwelfths, .instanceMethod yX7_allTwelfths, .selects RX7 yX7_allTwelfths yX7_allTwelfths, .code yX7_allTwelfths cX7_allTwelfths 3 (some .int), .fieldLink RX7 152 "RopeLineModel" "sorts" "I", .fieldLink RX7 19 "RopeLineModel" "twelfths" "[I"] ++ wsX70)
def wsX7_isSort : List Cond := .code yX7_isSort cX7_isSort 2 (some .boolean) :: ([.fieldLink RX7 152 "RopeLineModel" "sorts" "I"] ++ wsX70)
def wsX7_toldMinutes : List Cond := .code yX7_toldMinutes cX7_toldMinutes 6 (some .int) :: ([.fieldLink RX7 146 "RopeLineModel" "served" "I"] ++ wsX70)
def wsX7_hisBar : List Cond := .code yX7_hisBar cX7_hisBar 9 (some .int) :: ([.fieldLink RX7 22 "RopeLineModel" "worths" "[I", .fieldLink RX7 149 "RopeLineModel" "cost" "I", .fieldLink RX7 146 "RopeLineModel" "served" "I", .methodLink RX7 173 yX7_toldMinutes, .instanceMethod yX7_toldMinutes, .selects RX7 yX7_toldMinutes yX7_toldMinutes, .initialized RX7, .code yX7_toldMinutes cX7_toldMinutes 6 (some .int)] ++ wsX70)
def wsX7_ofSort : List Cond := .code yX7_ofSort cX7_ofSort 3 (some .int) :: ([.fieldLink RX7 19 "RopeLineModel" "twelfths" "[I", .fieldLink RX7 22 "RopeLineModel" "worths" "[I", .fieldLink RX7 25 "RopeLineModel" "bars" "[I", .fieldLink RX7 155 "RopeLineModel" "toll" "I", .fieldLink RX7 158 "RopeLineModel" "step" "I", .fieldLink RX7 161 "RopeLineModel" "lie" "I", .methodLink RX7 177 yX7_isSort, .instanceMethod yX7_isSort, .selects RX7 yX7_isSort yX7_isSort, .initialized RX7, .code yX7_isSort cX7_isSort 2 (some .boolean), .fieldLink RX7 152 "RopeLineModel" "sorts" "I", .methodLink RX7 180 yX7_hisBar, .instanceMethod yX7_hisBar, .selects RX7 yX7_hisBar yX7_hisBar, .code yX7_hisBar cX7_hisBar 9 (some .int), .fieldLink RX7 149 "RopeLineModel" "cost" "I", .fieldLink RX7 146 "RopeLineModel" "served" "I", .methodLink RX7 173 yX7_toldMinutes, .instanceMethod yX7_toldMinutes, .selects RX7 yX7_toldMinutes yX7_toldMinutes, .code yX7_toldMinutes cX7_toldMinutes 6 (some .int)] ++ wsX70)
def wsX7_bar : List Cond := .code yX7_bar cX7_bar 4 (some .int) :: ([.fieldLink RX7 25 "RopeLineModel" "bars" "[I", .methodLink RX7 177 yX7_isSort, .instanceMethod yX7_isSort, .selects RX7 yX7_isSort yX7_isSort, .initialized RX7, .code yX7_isSort cX7_isSort 2 (some .boolean), .fieldLink RX7 152 "RopeLineModel" "sorts" "I", .methodLink RX7 94 yX7_within, .static yX7_within, .code yX7_within cX7_within 3 (some .boolean)] ++ wsX70)
def wsX7_toll : List Cond := .code yX7_toll cX7_toll 3 (some .int) :: ([.fieldLink RX7 142 "RopeLineModel" "isPlace" "Z", .fieldLink RX7 155 "RopeLineModel" "toll" "I", .methodLink RX7 94 yX7_within, .static yX7_within, .initialized RX7, .code yX7_within cX7_within 3 (some .boolean)] ++ wsX70)
def wsX7_board : List Cond := .code yX7_board cX7_board 5 (some .int) :: ([.fieldLink RX7 142 "RopeLineModel" "isPlace" "Z", .fieldLink RX7 158 "RopeLineModel" "step" "I", .fieldLink RX7 161 "RopeLineModel" "lie" "I", .methodLink RX7 94 yX7_within, .static yX7_within, .initialized RX7, .code yX7_within cX7_within 3 (some .boolean)] ++ wsX70)
def wsX7_layJoins : List Cond := .code yX7_layJoins cX7_layJoins 4 none :: ([.fieldLink RX7 34 "RopeLineModel" "joins" "[I", .fieldLink RX7 152 "RopeLineModel" "sorts" "I", .fieldLink RX7 19 "RopeLineModel" "twelfths" "[I"] ++ wsX70)
def wsX7_layWeights : List Cond := .code yX7_layWeights cX7_layWeights 4 none :: ([.fieldLink RX7 44 "RopeLineModel" "weights" "[J", .fieldLink RX7 37 "RopeLineModel" "ups" "[J", .fieldLink RX7 41 "RopeLineModel" "downs" "[J"] ++ wsX70)
def wsX7_layRun : List Cond := .code yX7_layRun cX7_layRun 3 none :: ([.fieldLink RX7 37 "RopeLineModel" "ups" "[J", .constantLong RX7 188 (12), .fieldLink RX7 146 "RopeLineModel" "served" "I", .fieldLink RX7 34 "RopeLineModel" "joins" "[I", .fieldLink RX7 41 "RopeLineModel" "downs" "[J", .methodLink RX7 184 yX7_layJoins, .instanceMethod yX7_layJoins, .selects RX7 yX7_layJoins yX7_layJoins, .initialized RX7, .code yX7_layJoins cX7_layJoins 4 none, .fieldLink RX7 152 "RopeLineModel" "sorts" "I", .fieldLink RX7 19 "RopeLineModel" "twelfths" "[I", .methodLink RX7 190 yX7_layWeights, .instanceMethod yX7_layWeights, .selects RX7 yX7_layWeights yX7_layWeights, .code yX7_layWeights cX7_layWeights 4 none, .fieldLink RX7 44 "RopeLineModel" "weights" "[J"] ++ wsX70)
def wsX7_allWeights : List Cond := .code yX7_allWeights cX7_allWeights 4 (some .long) :: ([.fieldLink RX7 44 "RopeLineModel" "weights" "[J"] ++ wsX70)
def wsX7_meanWeights : List Cond := .code yX7_meanWeights cX7_meanWeights 4 (some .long) :: ([.fieldLink RX7 44 "RopeLineModel" "weights" "[J"] ++ wsX70)
def wsX7_metAt : List Cond := .code yX7_metAt cX7_metAt 2 (some .long) :: ([.fieldLink RX7 44 "RopeLineModel" "weights" "[J", .fieldLink RX7 146 "RopeLineModel" "served" "I"] ++ wsX70)
def wsX7_often_r1 : List Cond := [Cond.fieldLink RX7 142 "RopeLineModel" "isPlace" "Z", Cond.constantLong RX7 78 (-9223372036854775808), Cond.fieldLink RX7 25 "RopeLineModel" "bars" "[I", Cond.fieldLink RX7 44 "RopeLineModel" "weights" "[J", Cond.methodLink RX7 94 yX7_within, Cond.static yX7_within, Cond.initialized RX7, Cond.code yX7_within cX7_within 3 (some .boolean), Cond.methodLink RX7 194 yX7_isWhich, Cond.static yX7_isWhich, Cond.code yX7_isWhich cX7_isWhich 1 (some .boolean), Cond.methodLink RX7 197 yX7_layRun, Cond.instanceMethod yX7_layRun, Cond.selects RX7 yX7_layRun yX7_layRun, Cond.code yX7_layRun cX7_layRun 3 none, Cond.fieldLink RX7 37 "RopeLineModel" "ups" "[J", Cond.constantLong RX7 188 (12), Cond.fieldLink RX7 146 "RopeLineModel" "served" "I", Cond.fieldLink RX7 34 "RopeLineModel" "joins" "[I", Cond.fieldLink RX7 41 "RopeLineModel" "downs" "[J", Cond.methodLink RX7 184 yX7_layJoins, Cond.instanceMethod yX7_layJoins, Cond.selects RX7 yX7_layJoins yX7_layJoins, Cond.code yX7_layJoins cX7_layJoins 4 none]
def wsX7_often_r2 : List Cond := [Cond.fieldLink RX7 152 "RopeLineModel" "sorts" "I", Cond.fieldLink RX7 19 "RopeLineModel" "twelfths" "[I", Cond.methodLink RX7 190 yX7_layWeights, Cond.instanceMethod yX7_layWeights, Cond.selects RX7 yX7_layWeights yX7_layWeights, Cond.code yX7_layWeights cX7_layWeights 4 none, Cond.methodLink RX7 200 yX7_allWeights, Cond.instanceMethod yX7_allWeights, Cond.selects RX7 yX7_allWeights yX7_allWeights, Cond.code yX7_allWeights cX7_allWeights 4 (some .long), Cond.methodLink RX7 204 yX7_share, Cond.instanceMethod yX7_share, Cond.selects RX7 yX7_share yX7_share, Cond.code yX7_share cX7_share 7 none, Cond.fieldLink RX7 84 "RopeLineModel" "up" "J", Cond.fieldLink RX7 88 "RopeLineModel" "down" "J", Cond.methodLink RX7 80 yX7_common, Cond.static yX7_common, Cond.code yX7_common cX7_common 10 (some .long), Cond.methodLink RX7 208 yX7_told, Cond.instanceMethod yX7_told, Cond.selects RX7 yX7_told yX7_told, Cond.code yX7_told cX7_told 2 (some .long)]
def wsX7_often : List Cond := .code yX7_often cX7_often 3 (some .long) :: ((wsX7_often_r1 ++ wsX7_often_r2) ++ wsX70)
def wsX7_mean_r1 : List Cond := [Cond.fieldLink RX7 142 "RopeLineModel" "isPlace" "Z", Cond.constantLong RX7 78 (-9223372036854775808), Cond.fieldLink RX7 25 "RopeLineModel" "bars" "[I", Cond.methodLink RX7 194 yX7_isWhich, Cond.static yX7_isWhich, Cond.initialized RX7, Cond.code yX7_isWhich cX7_isWhich 1 (some .boolean), Cond.methodLink RX7 197 yX7_layRun, Cond.instanceMethod yX7_layRun, Cond.selects RX7 yX7_layRun yX7_layRun, Cond.code yX7_layRun cX7_layRun 3 none, Cond.fieldLink RX7 37 "RopeLineModel" "ups" "[J", Cond.constantLong RX7 188 (12), Cond.fieldLink RX7 146 "RopeLineModel" "served" "I", Cond.fieldLink RX7 34 "RopeLineModel" "joins" "[I", Cond.fieldLink RX7 41 "RopeLineModel" "downs" "[J", Cond.methodLink RX7 184 yX7_layJoins, Cond.instanceMethod yX7_layJoins, Cond.selects RX7 yX7_layJoins yX7_layJoins, Cond.code yX7_layJoins cX7_layJoins 4 none, Cond.fieldLink RX7 152 "RopeLineModel" "sorts" "I", Cond.fieldLink RX7 19 "RopeLineModel" "twelfths" "[I", Cond.methodLink RX7 190 yX7_layWeights, Cond.instanceMethod yX7_layWeights]
def wsX7_mean_r2 : List Cond := [Cond.selects RX7 yX7_layWeights yX7_layWeights, Cond.code yX7_layWeights cX7_layWeights 4 none, Cond.fieldLink RX7 44 "RopeLineModel" "weights" "[J", Cond.methodLink RX7 212 yX7_meanWeights, Cond.instanceMethod yX7_meanWeights, Cond.selects RX7 yX7_meanWeights yX7_meanWeights, Cond.code yX7_meanWeights cX7_meanWeights 4 (some .long), Cond.methodLink RX7 200 yX7_allWeights, Cond.instanceMethod yX7_allWeights, Cond.selects RX7 yX7_allWeights yX7_allWeights, Cond.code yX7_allWeights cX7_allWeights 4 (some .long), Cond.methodLink RX7 204 yX7_share, Cond.instanceMethod yX7_share, Cond.selects RX7 yX7_share yX7_share, Cond.code yX7_share cX7_share 7 none, Cond.fieldLink RX7 84 "RopeLineModel" "up" "J", Cond.fieldLink RX7 88 "RopeLineModel" "down" "J", Cond.methodLink RX7 80 yX7_common, Cond.static yX7_common, Cond.code yX7_common cX7_common 10 (some .long), Cond.methodLink RX7 208 yX7_told, Cond.instanceMethod yX7_told, Cond.selects RX7 yX7_told yX7_told, Cond.code yX7_told cX7_told 2 (some .long)]
def wsX7_mean : List Cond := .code yX7_mean cX7_mean 2 (some .long) :: ((wsX7_mean_r1 ++ wsX7_mean_r2) ++ wsX70)
def wsX7_on_r1 : List Cond := [Cond.constantLong RX7 78 (-9223372036854775808), Cond.fieldLink RX7 25 "RopeLineModel" "bars" "[I", Cond.constantLong RX7 188 (12), Cond.methodLink RX7 177 yX7_isSort, Cond.instanceMethod yX7_isSort, Cond.selects RX7 yX7_isSort yX7_isSort, Cond.initialized RX7, Cond.code yX7_isSort cX7_isSort 2 (some .boolean), Cond.fieldLink RX7 152 "RopeLineModel" "sorts" "I", Cond.methodLink RX7 194 yX7_isWhich, Cond.static yX7_isWhich, Cond.code yX7_isWhich cX7_isWhich 1 (some .boolean), Cond.methodLink RX7 197 yX7_layRun, Cond.instanceMethod yX7_layRun, Cond.selects RX7 yX7_layRun yX7_layRun, Cond.code yX7_layRun cX7_layRun 3 none, Cond.fieldLink RX7 37 "RopeLineModel" "ups" "[J", Cond.fieldLink RX7 146 "RopeLineModel" "served" "I", Cond.fieldLink RX7 34 "RopeLineModel" "joins" "[I", Cond.fieldLink RX7 41 "RopeLineModel" "downs" "[J", Cond.methodLink RX7 184 yX7_layJoins, Cond.instanceMethod yX7_layJoins, Cond.selects RX7 yX7_layJoins yX7_layJoins, Cond.code yX7_layJoins cX7_layJoins 4 none]
def wsX7_on_r2 : List Cond := [Cond.fieldLink RX7 19 "RopeLineModel" "twelfths" "[I", Cond.methodLink RX7 190 yX7_layWeights, Cond.instanceMethod yX7_layWeights, Cond.selects RX7 yX7_layWeights yX7_layWeights, Cond.code yX7_layWeights cX7_layWeights 4 none, Cond.fieldLink RX7 44 "RopeLineModel" "weights" "[J", Cond.methodLink RX7 215 yX7_metAt, Cond.instanceMethod yX7_metAt, Cond.selects RX7 yX7_metAt yX7_metAt, Cond.code yX7_metAt cX7_metAt 2 (some .long), Cond.methodLink RX7 200 yX7_allWeights, Cond.instanceMethod yX7_allWeights, Cond.selects RX7 yX7_allWeights yX7_allWeights, Cond.code yX7_allWeights cX7_allWeights 4 (some .long), Cond.methodLink RX7 204 yX7_share, Cond.instanceMethod yX7_share, Cond.selects RX7 yX7_share yX7_share, Cond.code yX7_share cX7_share 7 none, Cond.fieldLink RX7 84 "RopeLineModel" "up" "J", Cond.fieldLink RX7 88 "RopeLineModel" "down" "J", Cond.methodLink RX7 80 yX7_common, Cond.static yX7_common, Cond.code yX7_common cX7_common 10 (some .long), Cond.methodLink RX7 208 yX7_told]
def wsX7_on_r3 : List Cond := [Cond.instanceMethod yX7_told, Cond.selects RX7 yX7_told yX7_told, Cond.code yX7_told cX7_told 2 (some .long)]
def wsX7_on : List Cond := .code yX7_on cX7_on 6 (some .long) :: ((wsX7_on_r1 ++ (wsX7_on_r2 ++ wsX7_on_r3)) ++ wsX70)
def wsX7_less_r1 : List Cond := [Cond.fieldLink RX7 142 "RopeLineModel" "isPlace" "Z", Cond.constantLong RX7 78 (-9223372036854775808), Cond.fieldLink RX7 25 "RopeLineModel" "bars" "[I", Cond.fieldLink RX7 44 "RopeLineModel" "weights" "[J", Cond.constantLong RX7 218 (144), Cond.fieldLink RX7 88 "RopeLineModel" "down" "J", Cond.fieldLink RX7 37 "RopeLineModel" "ups" "[J", Cond.fieldLink RX7 84 "RopeLineModel" "up" "J", Cond.fieldLink RX7 41 "RopeLineModel" "downs" "[J", Cond.methodLink RX7 94 yX7_within, Cond.static yX7_within, Cond.initialized RX7, Cond.code yX7_within cX7_within 3 (some .boolean), Cond.methodLink RX7 194 yX7_isWhich, Cond.static yX7_isWhich, Cond.code yX7_isWhich cX7_isWhich 1 (some .boolean), Cond.methodLink RX7 197 yX7_layRun, Cond.instanceMethod yX7_layRun, Cond.selects RX7 yX7_layRun yX7_layRun, Cond.code yX7_layRun cX7_layRun 3 none, Cond.constantLong RX7 188 (12), Cond.fieldLink RX7 146 "RopeLineModel" "served" "I", Cond.fieldLink RX7 34 "RopeLineModel" "joins" "[I", Cond.methodLink RX7 184 yX7_layJoins]
def wsX7_less_r2 : List Cond := [Cond.instanceMethod yX7_layJoins, Cond.selects RX7 yX7_layJoins yX7_layJoins, Cond.code yX7_layJoins cX7_layJoins 4 none, Cond.fieldLink RX7 152 "RopeLineModel" "sorts" "I", Cond.fieldLink RX7 19 "RopeLineModel" "twelfths" "[I", Cond.methodLink RX7 190 yX7_layWeights, Cond.instanceMethod yX7_layWeights, Cond.selects RX7 yX7_layWeights yX7_layWeights, Cond.code yX7_layWeights cX7_layWeights 4 none, Cond.methodLink RX7 204 yX7_share, Cond.instanceMethod yX7_share, Cond.selects RX7 yX7_share yX7_share, Cond.code yX7_share cX7_share 7 none, Cond.methodLink RX7 80 yX7_common, Cond.static yX7_common, Cond.code yX7_common cX7_common 10 (some .long), Cond.methodLink RX7 208 yX7_told, Cond.instanceMethod yX7_told, Cond.selects RX7 yX7_told yX7_told, Cond.code yX7_told cX7_told 2 (some .long)]
def wsX7_less : List Cond := .code yX7_less cX7_less 4 (some .long) :: ((wsX7_less_r1 ++ wsX7_less_r2) ++ wsX70)
def wsX7_after_r1 : List Cond := [Cond.fieldLink RX7 142 "RopeLineModel" "isPlace" "Z", Cond.constantLong RX7 78 (-9223372036854775808), Cond.fieldLink RX7 25 "RopeLineModel" "bars" "[I", Cond.fieldLink RX7 47 "RopeLineModel" "now" "[J", Cond.fieldLink RX7 50 "RopeLineModel" "next" "[J", Cond.constantLong RX7 218 (144), Cond.fieldLink RX7 37 "RopeLineModel" "ups" "[J", Cond.fieldLink RX7 41 "RopeLineModel" "downs" "[J", Cond.methodLink RX7 94 yX7_within, Cond.static yX7_within, Cond.initialized RX7, Cond.code yX7_within cX7_within 3 (some .boolean), Cond.methodLink RX7 194 yX7_isWhich, Cond.static yX7_isWhich, Cond.code yX7_isWhich cX7_isWhich 1 (some .boolean), Cond.methodLink RX7 197 yX7_layRun, Cond.instanceMethod yX7_layRun, Cond.selects RX7 yX7_layRun yX7_layRun, Cond.code yX7_layRun cX7_layRun 3 none, Cond.constantLong RX7 188 (12), Cond.fieldLink RX7 146 "RopeLineModel" "served" "I", Cond.fieldLink RX7 34 "RopeLineModel" "joins" "[I", Cond.methodLink RX7 184 yX7_layJoins, Cond.instanceMethod yX7_layJoins]
def wsX7_after_r2 : List Cond := [Cond.selects RX7 yX7_layJoins yX7_layJoins, Cond.code yX7_layJoins cX7_layJoins 4 none, Cond.fieldLink RX7 152 "RopeLineModel" "sorts" "I", Cond.fieldLink RX7 19 "RopeLineModel" "twelfths" "[I", Cond.methodLink RX7 190 yX7_layWeights, Cond.instanceMethod yX7_layWeights, Cond.selects RX7 yX7_layWeights yX7_layWeights, Cond.code yX7_layWeights cX7_layWeights 4 none, Cond.fieldLink RX7 44 "RopeLineModel" "weights" "[J", Cond.methodLink RX7 204 yX7_share, Cond.instanceMethod yX7_share, Cond.selects RX7 yX7_share yX7_share, Cond.code yX7_share cX7_share 7 none, Cond.fieldLink RX7 84 "RopeLineModel" "up" "J", Cond.fieldLink RX7 88 "RopeLineModel" "down" "J", Cond.methodLink RX7 80 yX7_common, Cond.static yX7_common, Cond.code yX7_common cX7_common 10 (some .long), Cond.methodLink RX7 208 yX7_told, Cond.instanceMethod yX7_told, Cond.selects RX7 yX7_told yX7_told, Cond.code yX7_told cX7_told 2 (some .long)]
def wsX7_after : List Cond := .code yX7_after cX7_after 9 (some .long) :: ((wsX7_after_r1 ++ wsX7_after_r2) ++ wsX70)
def wsX7_minutes_r1 : List Cond := [Cond.fieldLink RX7 142 "RopeLineModel" "isPlace" "Z", Cond.constantLong RX7 78 (-9223372036854775808), Cond.fieldLink RX7 158 "RopeLineModel" "step" "I", Cond.fieldLink RX7 161 "RopeLineModel" "lie" "I", Cond.fieldLink RX7 146 "RopeLineModel" "served" "I", Cond.constantLong RX7 188 (12), Cond.methodLink RX7 94 yX7_within, Cond.static yX7_within, Cond.initialized RX7, Cond.code yX7_within cX7_within 3 (some .boolean), Cond.methodLink RX7 173 yX7_toldMinutes, Cond.instanceMethod yX7_toldMinutes, Cond.selects RX7 yX7_toldMinutes yX7_toldMinutes, Cond.code yX7_toldMinutes cX7_toldMinutes 6 (some .int), Cond.methodLink RX7 204 yX7_share, Cond.instanceMethod yX7_share, Cond.selects RX7 yX7_share yX7_share, Cond.code yX7_share cX7_share 7 none, Cond.fieldLink RX7 84 "RopeLineModel" "up" "J", Cond.fieldLink RX7 88 "RopeLineModel" "down" "J", Cond.methodLink RX7 80 yX7_common, Cond.static yX7_common, Cond.code yX7_common cX7_common 10 (some .long), Cond.methodLink RX7 208 yX7_told]
def wsX7_minutes_r2 : List Cond := [Cond.instanceMethod yX7_told, Cond.selects RX7 yX7_told yX7_told, Cond.code yX7_told cX7_told 2 (some .long)]
def wsX7_minutes : List Cond := .code yX7_minutes cX7_minutes 3 (some .long) :: ((wsX7_minutes_r1 ++ wsX7_minutes_r2) ++ wsX70)
def wsX7_layGain_r1 : List Cond := [Cond.fieldLink RX7 152 "RopeLineModel" "sorts" "I", Cond.fieldLink RX7 19 "RopeLineModel" "twelfths" "[I", Cond.fieldLink RX7 22 "RopeLineModel" "worths" "[I", Cond.constantLong RX7 218 (144), Cond.fieldLink RX7 149 "RopeLineModel" "cost" "I", Cond.methodLink RX7 197 yX7_layRun, Cond.instanceMethod yX7_layRun, Cond.selects RX7 yX7_layRun yX7_layRun, Cond.initialized RX7, Cond.code yX7_layRun cX7_layRun 3 none, Cond.fieldLink RX7 37 "RopeLineModel" "ups" "[J", Cond.constantLong RX7 188 (12), Cond.fieldLink RX7 146 "RopeLineModel" "served" "I", Cond.fieldLink RX7 34 "RopeLineModel" "joins" "[I", Cond.fieldLink RX7 41 "RopeLineModel" "downs" "[J", Cond.methodLink RX7 184 yX7_layJoins, Cond.instanceMethod yX7_layJoins, Cond.selects RX7 yX7_layJoins yX7_layJoins, Cond.code yX7_layJoins cX7_layJoins 4 none, Cond.methodLink RX7 190 yX7_layWeights, Cond.instanceMethod yX7_layWeights, Cond.selects RX7 yX7_layWeights yX7_layWeights, Cond.code yX7_layWeights cX7_layWeights 4 none, Cond.fieldLink RX7 44 "RopeLineModel" "weights" "[J"]
def wsX7_layGain_r2 : List Cond := [Cond.methodLink RX7 215 yX7_metAt, Cond.instanceMethod yX7_metAt, Cond.selects RX7 yX7_metAt yX7_metAt, Cond.code yX7_metAt cX7_metAt 2 (some .long), Cond.methodLink RX7 212 yX7_meanWeights, Cond.instanceMethod yX7_meanWeights, Cond.selects RX7 yX7_meanWeights yX7_meanWeights, Cond.code yX7_meanWeights cX7_meanWeights 4 (some .long), Cond.methodLink RX7 200 yX7_allWeights, Cond.instanceMethod yX7_allWeights, Cond.selects RX7 yX7_allWeights yX7_allWeights, Cond.code yX7_allWeights cX7_allWeights 4 (some .long), Cond.methodLink RX7 204 yX7_share, Cond.instanceMethod yX7_share, Cond.selects RX7 yX7_share yX7_share, Cond.code yX7_share cX7_share 7 none, Cond.fieldLink RX7 84 "RopeLineModel" "up" "J", Cond.fieldLink RX7 88 "RopeLineModel" "down" "J", Cond.methodLink RX7 80 yX7_common, Cond.static yX7_common, Cond.code yX7_common cX7_common 10 (some .long)]
def wsX7_layGain : List Cond := .code yX7_layGain cX7_layGain 8 none :: ((wsX7_layGain_r1 ++ wsX7_layGain_r2) ++ wsX70)
def wsX7_gain_r1 : List Cond := [Cond.fieldLink RX7 142 "RopeLineModel" "isPlace" "Z", Cond.constantLong RX7 78 (-9223372036854775808), Cond.fieldLink RX7 25 "RopeLineModel" "bars" "[I", Cond.methodLink RX7 194 yX7_isWhich, Cond.static yX7_isWhich, Cond.initialized RX7, Cond.code yX7_isWhich cX7_isWhich 1 (some .boolean), Cond.methodLink RX7 220 yX7_layGain, Cond.instanceMethod yX7_layGain, Cond.selects RX7 yX7_layGain yX7_layGain, Cond.code yX7_layGain cX7_layGain 8 none, Cond.fieldLink RX7 152 "RopeLineModel" "sorts" "I", Cond.fieldLink RX7 19 "RopeLineModel" "twelfths" "[I", Cond.fieldLink RX7 22 "RopeLineModel" "worths" "[I", Cond.constantLong RX7 218 (144), Cond.fieldLink RX7 149 "RopeLineModel" "cost" "I", Cond.methodLink RX7 197 yX7_layRun, Cond.instanceMethod yX7_layRun, Cond.selects RX7 yX7_layRun yX7_layRun, Cond.code yX7_layRun cX7_layRun 3 none, Cond.fieldLink RX7 37 "RopeLineModel" "ups" "[J", Cond.constantLong RX7 188 (12), Cond.fieldLink RX7 146 "RopeLineModel" "served" "I", Cond.fieldLink RX7 34 "RopeLineModel" "joins" "[I"]
def wsX7_gain_r2 : List Cond := [Cond.fieldLink RX7 41 "RopeLineModel" "downs" "[J", Cond.methodLink RX7 184 yX7_layJoins, Cond.instanceMethod yX7_layJoins, Cond.selects RX7 yX7_layJoins yX7_layJoins, Cond.code yX7_layJoins cX7_layJoins 4 none, Cond.methodLink RX7 190 yX7_layWeights, Cond.instanceMethod yX7_layWeights, Cond.selects RX7 yX7_layWeights yX7_layWeights, Cond.code yX7_layWeights cX7_layWeights 4 none, Cond.fieldLink RX7 44 "RopeLineModel" "weights" "[J", Cond.methodLink RX7 215 yX7_metAt, Cond.instanceMethod yX7_metAt, Cond.selects RX7 yX7_metAt yX7_metAt, Cond.code yX7_metAt cX7_metAt 2 (some .long), Cond.methodLink RX7 212 yX7_meanWeights, Cond.instanceMethod yX7_meanWeights, Cond.selects RX7 yX7_meanWeights yX7_meanWeights, Cond.code yX7_meanWeights cX7_meanWeights 4 (some .long), Cond.methodLink RX7 200 yX7_allWeights, Cond.instanceMethod yX7_allWeights, Cond.selects RX7 yX7_allWeights yX7_allWeights, Cond.code yX7_allWeights cX7_allWeights 4 (some .long), Cond.methodLink RX7 204 yX7_share, Cond.instanceMethod yX7_share]
def wsX7_gain_r3 : List Cond := [Cond.selects RX7 yX7_share yX7_share, Cond.code yX7_share cX7_share 7 none, Cond.fieldLink RX7 84 "RopeLineModel" "up" "J", Cond.fieldLink RX7 88 "RopeLineModel" "down" "J", Cond.methodLink RX7 80 yX7_common, Cond.static yX7_common, Cond.code yX7_common cX7_common 10 (some .long), Cond.methodLink RX7 208 yX7_told, Cond.instanceMethod yX7_told, Cond.selects RX7 yX7_told yX7_told, Cond.code yX7_told cX7_told 2 (some .long)]
def wsX7_gain : List Cond := .code yX7_gain cX7_gain 2 (some .long) :: ((wsX7_gain_r1 ++ (wsX7_gain_r2 ++ wsX7_gain_r3)) ++ wsX70)
def wsX7_allRows : List Cond := .code yX7_allRows cX7_allRows 1 (some .int) :: ([.fieldLink RX7 152 "RopeLineModel" "sorts" "I"] ++ wsX70)
def wsX7_layRow : List Cond := .code yX7_layRow cX7_layRow 4 none :: ([.fieldLink RX7 152 "RopeLineModel" "sorts" "I", .fieldLink RX7 53 "RopeLineModel" "row" "[I"] ++ wsX70)
def wsX7_findBest_r1 : List Cond := [Cond.fieldLink RX7 53 "RopeLineModel" "row" "[I", Cond.fieldLink RX7 84 "RopeLineModel" "up" "J", Cond.fieldLink RX7 88 "RopeLineModel" "down" "J", Cond.fieldLink RX7 152 "RopeLineModel" "sorts" "I", Cond.fieldLink RX7 56 "RopeLineModel" "bestRow" "[I", Cond.methodLink RX7 223 yX7_allRows, Cond.instanceMethod yX7_allRows, Cond.selects RX7 yX7_allRows yX7_allRows, Cond.initialized RX7, Cond.code yX7_allRows cX7_allRows 1 (some .int), Cond.methodLink RX7 226 yX7_layRow, Cond.instanceMethod yX7_layRow, Cond.selects RX7 yX7_layRow yX7_layRow, Cond.code yX7_layRow cX7_layRow 4 none, Cond.methodLink RX7 220 yX7_layGain, Cond.instanceMethod yX7_layGain, Cond.selects RX7 yX7_layGain yX7_layGain, Cond.code yX7_layGain cX7_layGain 8 none, Cond.fieldLink RX7 19 "RopeLineModel" "twelfths" "[I", Cond.fieldLink RX7 22 "RopeLineModel" "worths" "[I", Cond.constantLong RX7 218 (144), Cond.fieldLink RX7 149 "RopeLineModel" "cost" "I", Cond.methodLink RX7 197 yX7_layRun, Cond.instanceMethod yX7_layRun]
def wsX7_findBest_r2 : List Cond := [Cond.selects RX7 yX7_layRun yX7_layRun, Cond.code yX7_layRun cX7_layRun 3 none, Cond.fieldLink RX7 37 "RopeLineModel" "ups" "[J", Cond.constantLong RX7 188 (12), Cond.fieldLink RX7 146 "RopeLineModel" "served" "I", Cond.fieldLink RX7 34 "RopeLineModel" "joins" "[I", Cond.fieldLink RX7 41 "RopeLineModel" "downs" "[J", Cond.methodLink RX7 184 yX7_layJoins, Cond.instanceMethod yX7_layJoins, Cond.selects RX7 yX7_layJoins yX7_layJoins, Cond.code yX7_layJoins cX7_layJoins 4 none, Cond.methodLink RX7 190 yX7_layWeights, Cond.instanceMethod yX7_layWeights, Cond.selects RX7 yX7_layWeights yX7_layWeights, Cond.code yX7_layWeights cX7_layWeights 4 none, Cond.fieldLink RX7 44 "RopeLineModel" "weights" "[J", Cond.methodLink RX7 215 yX7_metAt, Cond.instanceMethod yX7_metAt, Cond.selects RX7 yX7_metAt yX7_metAt, Cond.code yX7_metAt cX7_metAt 2 (some .long), Cond.methodLink RX7 212 yX7_meanWeights, Cond.instanceMethod yX7_meanWeights, Cond.selects RX7 yX7_meanWeights yX7_meanWeights, Cond.code yX7_meanWeights cX7_meanWeights 4 (some .long)]
def wsX7_findBest_r3 : List Cond := [Cond.methodLink RX7 200 yX7_allWeights, Cond.instanceMethod yX7_allWeights, Cond.selects RX7 yX7_allWeights yX7_allWeights, Cond.code yX7_allWeights cX7_allWeights 4 (some .long), Cond.methodLink RX7 204 yX7_share, Cond.instanceMethod yX7_share, Cond.selects RX7 yX7_share yX7_share, Cond.code yX7_share cX7_share 7 none, Cond.methodLink RX7 80 yX7_common, Cond.static yX7_common, Cond.code yX7_common cX7_common 10 (some .long), Cond.methodLink RX7 229 yX7_compare, Cond.static yX7_compare, Cond.code yX7_compare cX7_compare 23 (some .int), Cond.methodLink RX7 91 yX7_whole, Cond.static yX7_whole, Cond.code yX7_whole cX7_whole 6 (some .long)]
def wsX7_findBest : List Cond := .code yX7_findBest cX7_findBest 7 none :: ((wsX7_findBest_r1 ++ (wsX7_findBest_r2 ++ wsX7_findBest_r3)) ++ wsX70)
def wsX7_best_r1 : List Cond := [Cond.fieldLink RX7 56 "RopeLineModel" "bestRow" "[I", Cond.methodLink RX7 177 yX7_isSort, Cond.instanceMethod yX7_isSort, Cond.selects RX7 yX7_isSort yX7_isSort, Cond.initialized RX7, Cond.code yX7_isSort cX7_isSort 2 (some .boolean), Cond.fieldLink RX7 152 "RopeLineModel" "sorts" "I", Cond.methodLink RX7 233 yX7_findBest, Cond.instanceMethod yX7_findBest, Cond.selects RX7 yX7_findBest yX7_findBest, Cond.code yX7_findBest cX7_findBest 7 none, Cond.fieldLink RX7 53 "RopeLineModel" "row" "[I", Cond.fieldLink RX7 84 "RopeLineModel" "up" "J", Cond.fieldLink RX7 88 "RopeLineModel" "down" "J", Cond.methodLink RX7 223 yX7_allRows, Cond.instanceMethod yX7_allRows, Cond.selects RX7 yX7_allRows yX7_allRows, Cond.code yX7_allRows cX7_allRows 1 (some .int), Cond.methodLink RX7 226 yX7_layRow, Cond.instanceMethod yX7_layRow, Cond.selects RX7 yX7_layRow yX7_layRow, Cond.code yX7_layRow cX7_layRow 4 none, Cond.methodLink RX7 220 yX7_layGain, Cond.instanceMethod yX7_layGain]
def wsX7_best_r2 : List Cond := [Cond.selects RX7 yX7_layGain yX7_layGain, Cond.code yX7_layGain cX7_layGain 8 none, Cond.fieldLink RX7 19 "RopeLineModel" "twelfths" "[I", Cond.fieldLink RX7 22 "RopeLineModel" "worths" "[I", Cond.constantLong RX7 218 (144), Cond.fieldLink RX7 149 "RopeLineModel" "cost" "I", Cond.methodLink RX7 197 yX7_layRun, Cond.instanceMethod yX7_layRun, Cond.selects RX7 yX7_layRun yX7_layRun, Cond.code yX7_layRun cX7_layRun 3 none, Cond.fieldLink RX7 37 "RopeLineModel" "ups" "[J", Cond.constantLong RX7 188 (12), Cond.fieldLink RX7 146 "RopeLineModel" "served" "I", Cond.fieldLink RX7 34 "RopeLineModel" "joins" "[I", Cond.fieldLink RX7 41 "RopeLineModel" "downs" "[J", Cond.methodLink RX7 184 yX7_layJoins, Cond.instanceMethod yX7_layJoins, Cond.selects RX7 yX7_layJoins yX7_layJoins, Cond.code yX7_layJoins cX7_layJoins 4 none, Cond.methodLink RX7 190 yX7_layWeights, Cond.instanceMethod yX7_layWeights, Cond.selects RX7 yX7_layWeights yX7_layWeights, Cond.code yX7_layWeights cX7_layWeights 4 none, Cond.fieldLink RX7 44 "RopeLineModel" "weights" "[J"]
def wsX7_best_r3 : List Cond := [Cond.methodLink RX7 215 yX7_metAt, Cond.instanceMethod yX7_metAt, Cond.selects RX7 yX7_metAt yX7_metAt, Cond.code yX7_metAt cX7_metAt 2 (some .long), Cond.methodLink RX7 212 yX7_meanWeights, Cond.instanceMethod yX7_meanWeights, Cond.selects RX7 yX7_meanWeights yX7_meanWeights, Cond.code yX7_meanWeights cX7_meanWeights 4 (some .long), Cond.methodLink RX7 200 yX7_allWeights, Cond.instanceMethod yX7_allWeights, Cond.selects RX7 yX7_allWeights yX7_allWeights, Cond.code yX7_allWeights cX7_allWeights 4 (some .long), Cond.methodLink RX7 204 yX7_share, Cond.instanceMethod yX7_share, Cond.selects RX7 yX7_share yX7_share, Cond.code yX7_share cX7_share 7 none, Cond.methodLink RX7 80 yX7_common, Cond.static yX7_common, Cond.code yX7_common cX7_common 10 (some .long), Cond.methodLink RX7 229 yX7_compare, Cond.static yX7_compare, Cond.code yX7_compare cX7_compare 23 (some .int), Cond.methodLink RX7 91 yX7_whole, Cond.static yX7_whole]
def wsX7_best_r4 : List Cond := [Cond.code yX7_whole cX7_whole 6 (some .long)]
def wsX7_best : List Cond := .code yX7_best cX7_best 2 (some .int) :: ((wsX7_best_r1 ++ (wsX7_best_r2 ++ (wsX7_best_r3 ++ wsX7_best_r4))) ++ wsX70)
def wsX7_bars_r1 : List Cond := [Cond.fieldLink RX7 142 "RopeLineModel" "isPlace" "Z", Cond.fieldLink RX7 152 "RopeLineModel" "sorts" "I", Cond.fieldLink RX7 155 "RopeLineModel" "toll" "I", Cond.fieldLink RX7 158 "RopeLineModel" "step" "I", Cond.fieldLink RX7 161 "RopeLineModel" "lie" "I", Cond.fieldLink RX7 56 "RopeLineModel" "bestRow" "[I", Cond.fieldLink RX7 25 "RopeLineModel" "bars" "[I", Cond.methodLink RX7 94 yX7_within, Cond.static yX7_within, Cond.initialized RX7, Cond.code yX7_within cX7_within 3 (some .boolean), Cond.methodLink RX7 233 yX7_findBest, Cond.instanceMethod yX7_findBest, Cond.selects RX7 yX7_findBest yX7_findBest, Cond.code yX7_findBest cX7_findBest 7 none, Cond.fieldLink RX7 53 "RopeLineModel" "row" "[I", Cond.fieldLink RX7 84 "RopeLineModel" "up" "J", Cond.fieldLink RX7 88 "RopeLineModel" "down" "J", Cond.methodLink RX7 223 yX7_allRows, Cond.instanceMethod yX7_allRows, Cond.selects RX7 yX7_allRows yX7_allRows, Cond.code yX7_allRows cX7_allRows 1 (some .int), Cond.methodLink RX7 226 yX7_layRow, Cond.instanceMethod yX7_layRow]
def wsX7_bars_r2 : List Cond := [Cond.selects RX7 yX7_layRow yX7_layRow, Cond.code yX7_layRow cX7_layRow 4 none, Cond.methodLink RX7 220 yX7_layGain, Cond.instanceMethod yX7_layGain, Cond.selects RX7 yX7_layGain yX7_layGain, Cond.code yX7_layGain cX7_layGain 8 none, Cond.fieldLink RX7 19 "RopeLineModel" "twelfths" "[I", Cond.fieldLink RX7 22 "RopeLineModel" "worths" "[I", Cond.constantLong RX7 218 (144), Cond.fieldLink RX7 149 "RopeLineModel" "cost" "I", Cond.methodLink RX7 197 yX7_layRun, Cond.instanceMethod yX7_layRun, Cond.selects RX7 yX7_layRun yX7_layRun, Cond.code yX7_layRun cX7_layRun 3 none, Cond.fieldLink RX7 37 "RopeLineModel" "ups" "[J", Cond.constantLong RX7 188 (12), Cond.fieldLink RX7 146 "RopeLineModel" "served" "I", Cond.fieldLink RX7 34 "RopeLineModel" "joins" "[I", Cond.fieldLink RX7 41 "RopeLineModel" "downs" "[J", Cond.methodLink RX7 184 yX7_layJoins, Cond.instanceMethod yX7_layJoins, Cond.selects RX7 yX7_layJoins yX7_layJoins, Cond.code yX7_layJoins cX7_layJoins 4 none, Cond.methodLink RX7 190 yX7_layWeights]
def wsX7_bars_r3 : List Cond := [Cond.instanceMethod yX7_layWeights, Cond.selects RX7 yX7_layWeights yX7_layWeights, Cond.code yX7_layWeights cX7_layWeights 4 none, Cond.fieldLink RX7 44 "RopeLineModel" "weights" "[J", Cond.methodLink RX7 215 yX7_metAt, Cond.instanceMethod yX7_metAt, Cond.selects RX7 yX7_metAt yX7_metAt, Cond.code yX7_metAt cX7_metAt 2 (some .long), Cond.methodLink RX7 212 yX7_meanWeights, Cond.instanceMethod yX7_meanWeights, Cond.selects RX7 yX7_meanWeights yX7_meanWeights, Cond.code yX7_meanWeights cX7_meanWeights 4 (some .long), Cond.methodLink RX7 200 yX7_allWeights, Cond.instanceMethod yX7_allWeights, Cond.selects RX7 yX7_allWeights yX7_allWeights, Cond.code yX7_allWeights cX7_allWeights 4 (some .long), Cond.methodLink RX7 204 yX7_share, Cond.instanceMethod yX7_share, Cond.selects RX7 yX7_share yX7_share, Cond.code yX7_share cX7_share 7 none, Cond.methodLink RX7 80 yX7_common, Cond.static yX7_common, Cond.code yX7_common cX7_common 10 (some .long), Cond.methodLink RX7 229 yX7_compare]
def wsX7_bars_r4 : List Cond := [Cond.static yX7_compare, Cond.code yX7_compare cX7_compare 23 (some .int), Cond.methodLink RX7 91 yX7_whole, Cond.static yX7_whole, Cond.code yX7_whole cX7_whole 6 (some .long), Cond.methodLink RX7 180 yX7_hisBar, Cond.instanceMethod yX7_hisBar, Cond.selects RX7 yX7_hisBar yX7_hisBar, Cond.code yX7_hisBar cX7_hisBar 9 (some .int), Cond.methodLink RX7 173 yX7_toldMinutes, Cond.instanceMethod yX7_toldMinutes, Cond.selects RX7 yX7_toldMinutes yX7_toldMinutes, Cond.code yX7_toldMinutes cX7_toldMinutes 6 (some .int)]
def wsX7_bars : List Cond := .code yX7_bars cX7_bars 5 (some .int) :: ((wsX7_bars_r1 ++ (wsX7_bars_r2 ++ (wsX7_bars_r3 ++ wsX7_bars_r4))) ++ wsX70)
def wsX7_against_r1 : List Cond := [Cond.fieldLink RX7 142 "RopeLineModel" "isPlace" "Z", Cond.fieldLink RX7 53 "RopeLineModel" "row" "[I", Cond.fieldLink RX7 84 "RopeLineModel" "up" "J", Cond.fieldLink RX7 88 "RopeLineModel" "down" "J", Cond.methodLink RX7 223 yX7_allRows, Cond.instanceMethod yX7_allRows, Cond.selects RX7 yX7_allRows yX7_allRows, Cond.initialized RX7, Cond.code yX7_allRows cX7_allRows 1 (some .int), Cond.fieldLink RX7 152 "RopeLineModel" "sorts" "I", Cond.methodLink RX7 94 yX7_within, Cond.static yX7_within, Cond.code yX7_within cX7_within 3 (some .boolean), Cond.methodLink RX7 226 yX7_layRow, Cond.instanceMethod yX7_layRow, Cond.selects RX7 yX7_layRow yX7_layRow, Cond.code yX7_layRow cX7_layRow 4 none, Cond.methodLink RX7 220 yX7_layGain, Cond.instanceMethod yX7_layGain, Cond.selects RX7 yX7_layGain yX7_layGain, Cond.code yX7_layGain cX7_layGain 8 none, Cond.fieldLink RX7 19 "RopeLineModel" "twelfths" "[I", Cond.fieldLink RX7 22 "RopeLineModel" "worths" "[I", Cond.constantLong RX7 218 (144)]
def wsX7_against_r2 : List Cond := [Cond.fieldLink RX7 149 "RopeLineModel" "cost" "I", Cond.methodLink RX7 197 yX7_layRun, Cond.instanceMethod yX7_layRun, Cond.selects RX7 yX7_layRun yX7_layRun, Cond.code yX7_layRun cX7_layRun 3 none, Cond.fieldLink RX7 37 "RopeLineModel" "ups" "[J", Cond.constantLong RX7 188 (12), Cond.fieldLink RX7 146 "RopeLineModel" "served" "I", Cond.fieldLink RX7 34 "RopeLineModel" "joins" "[I", Cond.fieldLink RX7 41 "RopeLineModel" "downs" "[J", Cond.methodLink RX7 184 yX7_layJoins, Cond.instanceMethod yX7_layJoins, Cond.selects RX7 yX7_layJoins yX7_layJoins, Cond.code yX7_layJoins cX7_layJoins 4 none, Cond.methodLink RX7 190 yX7_layWeights, Cond.instanceMethod yX7_layWeights, Cond.selects RX7 yX7_layWeights yX7_layWeights, Cond.code yX7_layWeights cX7_layWeights 4 none, Cond.fieldLink RX7 44 "RopeLineModel" "weights" "[J", Cond.methodLink RX7 215 yX7_metAt, Cond.instanceMethod yX7_metAt, Cond.selects RX7 yX7_metAt yX7_metAt, Cond.code yX7_metAt cX7_metAt 2 (some .long), Cond.methodLink RX7 212 yX7_meanWeights]
def wsX7_against_r3 : List Cond := [Cond.instanceMethod yX7_meanWeights, Cond.selects RX7 yX7_meanWeights yX7_meanWeights, Cond.code yX7_meanWeights cX7_meanWeights 4 (some .long), Cond.methodLink RX7 200 yX7_allWeights, Cond.instanceMethod yX7_allWeights, Cond.selects RX7 yX7_allWeights yX7_allWeights, Cond.code yX7_allWeights cX7_allWeights 4 (some .long), Cond.methodLink RX7 204 yX7_share, Cond.instanceMethod yX7_share, Cond.selects RX7 yX7_share yX7_share, Cond.code yX7_share cX7_share 7 none, Cond.methodLink RX7 80 yX7_common, Cond.static yX7_common, Cond.code yX7_common cX7_common 10 (some .long), Cond.methodLink RX7 229 yX7_compare, Cond.static yX7_compare, Cond.code yX7_compare cX7_compare 23 (some .int), Cond.methodLink RX7 91 yX7_whole, Cond.static yX7_whole, Cond.code yX7_whole cX7_whole 6 (some .long)]
def wsX7_against : List Cond := .code yX7_against cX7_against 7 (some .int) :: ((wsX7_against_r1 ++ (wsX7_against_r2 ++ wsX7_against_r3)) ++ wsX70)
def wsX7_mends_r1 : List Cond := [Cond.fieldLink RX7 142 "RopeLineModel" "isPlace" "Z", Cond.fieldLink RX7 152 "RopeLineModel" "sorts" "I", Cond.fieldLink RX7 56 "RopeLineModel" "bestRow" "[I", Cond.methodLink RX7 94 yX7_within, Cond.static yX7_within, Cond.initialized RX7, Cond.code yX7_within cX7_within 3 (some .boolean), Cond.methodLink RX7 233 yX7_findBest, Cond.instanceMethod yX7_findBest, Cond.selects RX7 yX7_findBest yX7_findBest, Cond.code yX7_findBest cX7_findBest 7 none, Cond.fieldLink RX7 53 "RopeLineModel" "row" "[I", Cond.fieldLink RX7 84 "RopeLineModel" "up" "J", Cond.fieldLink RX7 88 "RopeLineModel" "down" "J", Cond.methodLink RX7 223 yX7_allRows, Cond.instanceMethod yX7_allRows, Cond.selects RX7 yX7_allRows yX7_allRows, Cond.code yX7_allRows cX7_allRows 1 (some .int), Cond.methodLink RX7 226 yX7_layRow, Cond.instanceMethod yX7_layRow, Cond.selects RX7 yX7_layRow yX7_layRow, Cond.code yX7_layRow cX7_layRow 4 none, Cond.methodLink RX7 220 yX7_layGain, Cond.instanceMethod yX7_layGain]
def wsX7_mends_r2 : List Cond := [Cond.selects RX7 yX7_layGain yX7_layGain, Cond.code yX7_layGain cX7_layGain 8 none, Cond.fieldLink RX7 19 "RopeLineModel" "twelfths" "[I", Cond.fieldLink RX7 22 "RopeLineModel" "worths" "[I", Cond.constantLong RX7 218 (144), Cond.fieldLink RX7 149 "RopeLineModel" "cost" "I", Cond.methodLink RX7 197 yX7_layRun, Cond.instanceMethod yX7_layRun, Cond.selects RX7 yX7_layRun yX7_layRun, Cond.code yX7_layRun cX7_layRun 3 none, Cond.fieldLink RX7 37 "RopeLineModel" "ups" "[J", Cond.constantLong RX7 188 (12), Cond.fieldLink RX7 146 "RopeLineModel" "served" "I", Cond.fieldLink RX7 34 "RopeLineModel" "joins" "[I", Cond.fieldLink RX7 41 "RopeLineModel" "downs" "[J", Cond.methodLink RX7 184 yX7_layJoins, Cond.instanceMethod yX7_layJoins, Cond.selects RX7 yX7_layJoins yX7_layJoins, Cond.code yX7_layJoins cX7_layJoins 4 none, Cond.methodLink RX7 190 yX7_layWeights, Cond.instanceMethod yX7_layWeights, Cond.selects RX7 yX7_layWeights yX7_layWeights, Cond.code yX7_layWeights cX7_layWeights 4 none, Cond.fieldLink RX7 44 "RopeLineModel" "weights" "[J"]
def wsX7_mends_r3 : List Cond := [Cond.methodLink RX7 215 yX7_metAt, Cond.instanceMethod yX7_metAt, Cond.selects RX7 yX7_metAt yX7_metAt, Cond.code yX7_metAt cX7_metAt 2 (some .long), Cond.methodLink RX7 212 yX7_meanWeights, Cond.instanceMethod yX7_meanWeights, Cond.selects RX7 yX7_meanWeights yX7_meanWeights, Cond.code yX7_meanWeights cX7_meanWeights 4 (some .long), Cond.methodLink RX7 200 yX7_allWeights, Cond.instanceMethod yX7_allWeights, Cond.selects RX7 yX7_allWeights yX7_allWeights, Cond.code yX7_allWeights cX7_allWeights 4 (some .long), Cond.methodLink RX7 204 yX7_share, Cond.instanceMethod yX7_share, Cond.selects RX7 yX7_share yX7_share, Cond.code yX7_share cX7_share 7 none, Cond.methodLink RX7 80 yX7_common, Cond.static yX7_common, Cond.code yX7_common cX7_common 10 (some .long), Cond.methodLink RX7 229 yX7_compare, Cond.static yX7_compare, Cond.code yX7_compare cX7_compare 23 (some .int), Cond.methodLink RX7 91 yX7_whole, Cond.static yX7_whole]
def wsX7_mends_r4 : List Cond := [Cond.code yX7_whole cX7_whole 6 (some .long), Cond.methodLink RX7 180 yX7_hisBar, Cond.instanceMethod yX7_hisBar, Cond.selects RX7 yX7_hisBar yX7_hisBar, Cond.code yX7_hisBar cX7_hisBar 9 (some .int), Cond.methodLink RX7 173 yX7_toldMinutes, Cond.instanceMethod yX7_toldMinutes, Cond.selects RX7 yX7_toldMinutes yX7_toldMinutes, Cond.code yX7_toldMinutes cX7_toldMinutes 6 (some .int)]
def wsX7_mends : List Cond := .code yX7_mends cX7_mends 8 (some .int) :: ((wsX7_mends_r1 ++ (wsX7_mends_r2 ++ (wsX7_mends_r3 ++ wsX7_mends_r4))) ++ wsX70)
def wsX7_layBlind : List Cond := .code yX7_layBlind cX7_layBlind 5 none :: ([.fieldLink RX7 19 "RopeLineModel" "twelfths" "[I", .fieldLink RX7 37 "RopeLineModel" "ups" "[J", .constantLong RX7 188 (12), .fieldLink RX7 146 "RopeLineModel" "served" "I", .fieldLink RX7 41 "RopeLineModel" "downs" "[J", .constantLong RX7 218 (144), .methodLink RX7 190 yX7_layWeights, .instanceMethod yX7_layWeights, .selects RX7 yX7_layWeights yX7_layWeights, .initialized RX7, .code yX7_layWeights cX7_layWeights 4 none, .fieldLink RX7 44 "RopeLineModel" "weights" "[J"] ++ wsX70)
def wsX7_blind_r1 : List Cond := [Cond.fieldLink RX7 142 "RopeLineModel" "isPlace" "Z", Cond.fieldLink RX7 152 "RopeLineModel" "sorts" "I", Cond.constantLong RX7 78 (-9223372036854775808), Cond.fieldLink RX7 44 "RopeLineModel" "weights" "[J", Cond.methodLink RX7 94 yX7_within, Cond.static yX7_within, Cond.initialized RX7, Cond.code yX7_within cX7_within 3 (some .boolean), Cond.methodLink RX7 194 yX7_isWhich, Cond.static yX7_isWhich, Cond.code yX7_isWhich cX7_isWhich 1 (some .boolean), Cond.methodLink RX7 236 yX7_layBlind, Cond.instanceMethod yX7_layBlind, Cond.selects RX7 yX7_layBlind yX7_layBlind, Cond.code yX7_layBlind cX7_layBlind 5 none, Cond.fieldLink RX7 19 "RopeLineModel" "twelfths" "[I", Cond.fieldLink RX7 37 "RopeLineModel" "ups" "[J", Cond.constantLong RX7 188 (12), Cond.fieldLink RX7 146 "RopeLineModel" "served" "I", Cond.fieldLink RX7 41 "RopeLineModel" "downs" "[J", Cond.constantLong RX7 218 (144), Cond.methodLink RX7 190 yX7_layWeights, Cond.instanceMethod yX7_layWeights, Cond.selects RX7 yX7_layWeights yX7_layWeights]
def wsX7_blind_r2 : List Cond := [Cond.code yX7_layWeights cX7_layWeights 4 none, Cond.methodLink RX7 200 yX7_allWeights, Cond.instanceMethod yX7_allWeights, Cond.selects RX7 yX7_allWeights yX7_allWeights, Cond.code yX7_allWeights cX7_allWeights 4 (some .long), Cond.methodLink RX7 204 yX7_share, Cond.instanceMethod yX7_share, Cond.selects RX7 yX7_share yX7_share, Cond.code yX7_share cX7_share 7 none, Cond.fieldLink RX7 84 "RopeLineModel" "up" "J", Cond.fieldLink RX7 88 "RopeLineModel" "down" "J", Cond.methodLink RX7 80 yX7_common, Cond.static yX7_common, Cond.code yX7_common cX7_common 10 (some .long), Cond.methodLink RX7 208 yX7_told, Cond.instanceMethod yX7_told, Cond.selects RX7 yX7_told yX7_told, Cond.code yX7_told cX7_told 2 (some .long)]
def wsX7_blind : List Cond := .code yX7_blind cX7_blind 4 (some .long) :: ((wsX7_blind_r1 ++ wsX7_blind_r2) ++ wsX70)
def wsX7_rest_r1 : List Cond := [Cond.fieldLink RX7 142 "RopeLineModel" "isPlace" "Z", Cond.fieldLink RX7 152 "RopeLineModel" "sorts" "I", Cond.fieldLink RX7 22 "RopeLineModel" "worths" "[I", Cond.constantLong RX7 188 (12), Cond.fieldLink RX7 149 "RopeLineModel" "cost" "I", Cond.fieldLink RX7 146 "RopeLineModel" "served" "I", Cond.methodLink RX7 236 yX7_layBlind, Cond.instanceMethod yX7_layBlind, Cond.selects RX7 yX7_layBlind yX7_layBlind, Cond.initialized RX7, Cond.code yX7_layBlind cX7_layBlind 5 none, Cond.fieldLink RX7 19 "RopeLineModel" "twelfths" "[I", Cond.fieldLink RX7 37 "RopeLineModel" "ups" "[J", Cond.fieldLink RX7 41 "RopeLineModel" "downs" "[J", Cond.constantLong RX7 218 (144), Cond.methodLink RX7 190 yX7_layWeights, Cond.instanceMethod yX7_layWeights, Cond.selects RX7 yX7_layWeights yX7_layWeights, Cond.code yX7_layWeights cX7_layWeights 4 none, Cond.fieldLink RX7 44 "RopeLineModel" "weights" "[J", Cond.methodLink RX7 215 yX7_metAt, Cond.instanceMethod yX7_metAt, Cond.selects RX7 yX7_metAt yX7_metAt, Cond.code yX7_metAt cX7_metAt 2 (some .long)]
def wsX7_rest_r2 : List Cond := [Cond.methodLink RX7 229 yX7_compare, Cond.static yX7_compare, Cond.code yX7_compare cX7_compare 23 (some .int), Cond.methodLink RX7 91 yX7_whole, Cond.static yX7_whole, Cond.code yX7_whole cX7_whole 6 (some .long)]
def wsX7_rest : List Cond := .code yX7_rest cX7_rest 8 (some .int) :: ((wsX7_rest_r1 ++ wsX7_rest_r2) ++ wsX70)
def wsX7_order : List Cond := .code yX7_order cX7_order 3 (some .int) :: ([.fieldLink RX7 239 "RopeLineModel" "order" "I", .methodLink RX7 94 yX7_within, .static yX7_within, .initialized RX7, .code yX7_within cX7_within 3 (some .boolean)] ++ wsX70)
def wsX7_standing : List Cond := .code yX7_standing cX7_standing 3 (some .int) :: ([.fieldLink RX7 164 "RopeLineModel" "comers" "I", .fieldLink RX7 62 "RopeLineModel" "comerKind" "[I"] ++ wsX70)
def wsX7_nextServed : List Cond := .code yX7_nextServed cX7_nextServed 4 (some .int) :: ([.fieldLink RX7 164 "RopeLineModel" "comers" "I", .fieldLink RX7 62 "RopeLineModel" "comerKind" "[I", .fieldLink RX7 239 "RopeLineModel" "order" "I", .fieldLink RX7 22 "RopeLineModel" "worths" "[I", .fieldLink RX7 59 "RopeLineModel" "comerSort" "[I"] ++ wsX70)
def wsX7_sortBy : List Cond := .code yX7_sortBy cX7_sortBy 4 (some .int) :: ([.fieldLink RX7 152 "RopeLineModel" "sorts" "I", .fieldLink RX7 19 "RopeLineModel" "twelfths" "[I"] ++ wsX70)
def wsX7_minute_r1 : List Cond := [Cond.fieldLink RX7 142 "RopeLineModel" "isPlace" "Z", Cond.fieldLink RX7 164 "RopeLineModel" "comers" "I", Cond.fieldLink RX7 65 "RopeLineModel" "waited" "[I", Cond.fieldLink RX7 62 "RopeLineModel" "comerKind" "[I", Cond.fieldLink RX7 146 "RopeLineModel" "served" "I", Cond.fieldLink RX7 71 "RopeLineModel" "gone" "[I", Cond.fieldLink RX7 167 "RopeLineModel" "minutes" "I", Cond.fieldLink RX7 25 "RopeLineModel" "bars" "[I", Cond.fieldLink RX7 59 "RopeLineModel" "comerSort" "[I", Cond.fieldLink RX7 68 "RopeLineModel" "came" "[I", Cond.methodLink RX7 94 yX7_within, Cond.static yX7_within, Cond.initialized RX7, Cond.code yX7_within cX7_within 3 (some .boolean), Cond.methodLink RX7 242 yX7_sortBy, Cond.instanceMethod yX7_sortBy, Cond.selects RX7 yX7_sortBy yX7_sortBy, Cond.code yX7_sortBy cX7_sortBy 4 (some .int), Cond.fieldLink RX7 152 "RopeLineModel" "sorts" "I", Cond.fieldLink RX7 19 "RopeLineModel" "twelfths" "[I", Cond.methodLink RX7 245 yX7_nextServed, Cond.instanceMethod yX7_nextServed, Cond.selects RX7 yX7_nextServed yX7_nextServed, Cond.code yX7_nextServed cX7_nextServed 4 (some .int)]
def wsX7_minute_r2 : List Cond := [Cond.fieldLink RX7 239 "RopeLineModel" "order" "I", Cond.fieldLink RX7 22 "RopeLineModel" "worths" "[I", Cond.methodLink RX7 248 yX7_standing, Cond.instanceMethod yX7_standing, Cond.selects RX7 yX7_standing yX7_standing, Cond.code yX7_standing cX7_standing 3 (some .int)]
def wsX7_minute : List Cond := .code yX7_minute cX7_minute 7 (some .int) :: ((wsX7_minute_r1 ++ wsX7_minute_r2) ++ wsX70)
def wsX7_isComer : List Cond := .code yX7_isComer cX7_isComer 2 (some .boolean) :: ([.fieldLink RX7 164 "RopeLineModel" "comers" "I"] ++ wsX70)
def wsX7_ofComer : List Cond := .code yX7_ofComer cX7_ofComer 3 (some .int) :: ([.fieldLink RX7 62 "RopeLineModel" "comerKind" "[I", .fieldLink RX7 59 "RopeLineModel" "comerSort" "[I", .fieldLink RX7 65 "RopeLineModel" "waited" "[I", .fieldLink RX7 68 "RopeLineModel" "came" "[I", .fieldLink RX7 71 "RopeLineModel" "gone" "[I", .fieldLink RX7 22 "RopeLineModel" "worths" "[I", .fieldLink RX7 149 "RopeLineModel" "cost" "I", .methodLink RX7 251 yX7_isComer, .instanceMethod yX7_isComer, .selects RX7 yX7_isComer yX7_isComer, .initialized RX7, .code yX7_isComer cX7_isComer 2 (some .boolean), .fieldLink RX7 164 "RopeLineModel" "comers" "I"] ++ wsX70)
def wsX7_leave : List Cond := .code yX7_leave cX7_leave 2 (some .int) :: ([.fieldLink RX7 62 "RopeLineModel" "comerKind" "[I", .methodLink RX7 251 yX7_isComer, .instanceMethod yX7_isComer, .selects RX7 yX7_isComer yX7_isComer, .initialized RX7, .code yX7_isComer cX7_isComer 2 (some .boolean), .fieldLink RX7 164 "RopeLineModel" "comers" "I", .methodLink RX7 248 yX7_standing, .instanceMethod yX7_standing, .selects RX7 yX7_standing yX7_standing, .code yX7_standing cX7_standing 3 (some .int)] ++ wsX70)
def wsX7_line : List Cond := .code yX7_line cX7_line 4 (some .int) :: ([.fieldLink RX7 164 "RopeLineModel" "comers" "I", .fieldLink RX7 62 "RopeLineModel" "comerKind" "[I", .methodLink RX7 94 yX7_within, .static yX7_within, .initialized RX7, .code yX7_within cX7_within 3 (some .boolean)] ++ wsX70)
def wsX7_envy : List Cond := .code yX7_envy cX7_envy 4 (some .int) :: ([.fieldLink RX7 164 "RopeLineModel" "comers" "I", .fieldLink RX7 62 "RopeLineModel" "comerKind" "[I", .fieldLink RX7 71 "RopeLineModel" "gone" "[I"] ++ wsX70)
def wsX7_sheet : List Cond := .code yX7_sheet cX7_sheet 5 (some .int) :: ([.fieldLink RX7 74 "RopeLineModel" "fault" "I", .fieldLink RX7 9 "RopeLineModel" "lanes" "[I", .fieldLink RX7 13 "RopeLineModel" "sheetLong" "[I", .fieldLink RX7 16 "RopeLineModel" "cells" "[I", .methodLink RX7 129 yX7_isSheet, .static yX7_isSheet, .initialized RX7, .code yX7_isSheet cX7_isSheet 1 (some .boolean), .methodLink RX7 94 yX7_within, .static yX7_within, .code yX7_within cX7_within 3 (some .boolean), .methodLink RX7 132 yX7_isLane, .static yX7_isLane, .code yX7_isLane cX7_isLane 1 (some .boolean), .methodLink RX7 135 yX7_fails, .instanceMethod yX7_fails, .selects RX7 yX7_fails yX7_fails, .code yX7_fails cX7_fails 2 (some .int)] ++ wsX70)
def wsX7_lose : List Cond := .code yX7_lose cX7_lose 3 (some .int) :: ([.fieldLink RX7 9 "RopeLineModel" "lanes" "[I", .methodLink RX7 129 yX7_isSheet, .static yX7_isSheet, .initialized RX7, .code yX7_isSheet cX7_isSheet 1 (some .boolean), .methodLink RX7 94 yX7_within, .static yX7_within, .code yX7_within cX7_within 3 (some .boolean)] ++ wsX70)
def wsX7_put : List Cond := .code yX7_put cX7_put 4 (some .int) :: ([.fieldLink RX7 74 "RopeLineModel" "fault" "I", .fieldLink RX7 9 "RopeLineModel" "lanes" "[I", .fieldLink RX7 13 "RopeLineModel" "sheetLong" "[I", .fieldLink RX7 16 "RopeLineModel" "cells" "[I", .methodLink RX7 129 yX7_isSheet, .static yX7_isSheet, .initialized RX7, .code yX7_isSheet cX7_isSheet 1 (some .boolean), .methodLink RX7 94 yX7_within, .static yX7_within, .code yX7_within cX7_within 3 (some .boolean), .methodLink RX7 135 yX7_fails, .instanceMethod yX7_fails, .selects RX7 yX7_fails yX7_fails, .code yX7_fails cX7_fails 2 (some .int)] ++ wsX70)
def wsX7_cell : List Cond := .code yX7_cell cX7_cell 4 (some .long) :: ([.fieldLink RX7 74 "RopeLineModel" "fault" "I", .constantLong RX7 78 (-9223372036854775808), .fieldLink RX7 9 "RopeLineModel" "lanes" "[I", .fieldLink RX7 13 "RopeLineModel" "sheetLong" "[I", .fieldLink RX7 16 "RopeLineModel" "cells" "[I", .methodLink RX7 129 yX7_isSheet, .static yX7_isSheet, .initialized RX7, .code yX7_isSheet cX7_isSheet 1 (some .boolean), .methodLink RX7 94 yX7_within, .static yX7_within, .code yX7_within cX7_within 3 (some .boolean), .methodLink RX7 132 yX7_isLane, .static yX7_isLane, .code yX7_isLane cX7_isLane 1 (some .boolean), .methodLink RX7 254 yX7_lost, .instanceMethod yX7_lost, .selects RX7 yX7_lost yX7_lost, .code yX7_lost cX7_lost 2 (some .long)] ++ wsX70)
def wsX7_begins : List Cond := .code yX7_begins cX7_begins 2 none :: ([.fieldLink RX7 257 "RopeLineModel" "trace" "I"] ++ wsX70)
def wsX7_tell : List Cond := .code yX7_tell cX7_tell 3 (some .int) :: ([.fieldLink RX7 59 "RopeLineModel" "comerSort" "[I", .fieldLink RX7 62 "RopeLineModel" "comerKind" "[I", .fieldLink RX7 65 "RopeLineModel" "waited" "[I", .methodLink RX7 251 yX7_isComer, .instanceMethod yX7_isComer, .selects RX7 yX7_isComer yX7_isComer, .initialized RX7, .code yX7_isComer cX7_isComer 2 (some .boolean), .fieldLink RX7 164 "RopeLineModel" "comers" "I", .methodLink RX7 260 yX7_begins, .instanceMethod yX7_begins, .selects RX7 yX7_begins yX7_begins, .code yX7_begins cX7_begins 2 none, .fieldLink RX7 257 "RopeLineModel" "trace" "I"] ++ wsX70)
def wsX7_call : List Cond := .code yX7_call cX7_call 2 (some .int) :: ([.fieldLink RX7 62 "RopeLineModel" "comerKind" "[I", .methodLink RX7 251 yX7_isComer, .instanceMethod yX7_isComer, .selects RX7 yX7_isComer yX7_isComer, .initialized RX7, .code yX7_isComer cX7_isComer 2 (some .boolean), .fieldLink RX7 164 "RopeLineModel" "comers" "I", .methodLink RX7 260 yX7_begins, .instanceMethod yX7_begins, .selects RX7 yX7_begins yX7_begins, .code yX7_begins cX7_begins 2 none, .fieldLink RX7 257 "RopeLineModel" "trace" "I"] ++ wsX70)
def wsX7_as : List Cond := .code yX7_as cX7_as 3 (some .int) :: ([.fieldLink RX7 74 "RopeLineModel" "fault" "I", .fieldLink RX7 62 "RopeLineModel" "comerKind" "[I", .methodLink RX7 251 yX7_isComer, .instanceMethod yX7_isComer, .selects RX7 yX7_isComer yX7_isComer, .initialized RX7, .code yX7_isComer cX7_isComer 2 (some .boolean), .fieldLink RX7 164 "RopeLineModel" "comers" "I", .methodLink RX7 94 yX7_within, .static yX7_within, .code yX7_within cX7_within 3 (some .boolean), .methodLink RX7 135 yX7_fails, .instanceMethod yX7_fails, .selects RX7 yX7_fails yX7_fails, .code yX7_fails cX7_fails 2 (some .int)] ++ wsX70)
def wsX7_trace : List Cond := .code yX7_trace cX7_trace 1 (some .int) :: ([.fieldLink RX7 257 "RopeLineModel" "trace" "I"] ++ wsX70)
def wsX7_fault : List Cond := .code yX7_fault cX7_fault 1 (some .int) :: ([.fieldLink RX7 74 "RopeLineModel" "fault" "I"] ++ wsX70)
def wsX7_many : List Cond := .code yX7_many cX7_many 4 (some .int) :: ([.fieldLink RX7 164 "RopeLineModel" "comers" "I", .fieldLink RX7 62 "RopeLineModel" "comerKind" "[I", .fieldLink RX7 152 "RopeLineModel" "sorts" "I", .fieldLink RX7 167 "RopeLineModel" "minutes" "I", .methodLink RX7 248 yX7_standing, .instanceMethod yX7_standing, .selects RX7 yX7_standing yX7_standing, .initialized RX7, .code yX7_standing cX7_standing 3 (some .int)] ++ wsX70)
def wsJ9_abs_067f4 : List Cond := .code yJ9_abs_067f4 cJ9_abs_067f4 2 (some .long) :: ([])
def wsJ9_max_7cf53 : List Cond := .code yJ9_max_7cf53 cJ9_max_7cf53 2 (some .int) :: ([])
set_option maxRecDepth 20000 in
theorem ggX0_init_X1_init : GoodIn wsX0_init wsX1_init := goodIn_r _ [12, 13, 2, 3, 8, 14, 15, 16, 17, 18, 19, 20, 21, 22, 23, 24, 25] (by decide +kernel) (by decide +kernel)
set_option maxRecDepth 20000 in
theorem gX0_init_X1_init_n11 : GoodIn wsX0_init (wsX1_init) := ggX0_init_X1_init
theorem dX0_init_0 : decode cX0_init 0 = .ok (.aload_n 0, 1) := by decide +kernel
theorem dX0_init_1 : decode cX0_init 1 = .ok (.invokespecial 3, 3) := by decide +kernel
theorem dX0_init_4 : decode cX0_init 4 = .ok (.aload_n 0, 1) := by decide +kernel
theorem dX0_init_5 : decode cX0_init 5 = .ok (.new 9, 3) := by decide +kernel
theorem dX0_init_8 : decode cX0_init 8 = .ok (.dup, 1) := by decide +kernel
theorem dX0_init_9 : decode cX0_init 9 = .ok (.invokespecial 11, 3) := by decide +kernel
theorem dX0_init_12 : decode cX0_init 12 = .ok (.putfield 12, 3) := by decide +kernel
theorem dX0_init_15 : decode cX0_init 15 = .ok (.aload_n 0, 1) := by decide +kernel
theorem dX0_init_16 : decode cX0_init 16 = .ok (.iconst 3, 1) := by decide +kernel
theorem dX0_init_17 : decode cX0_init 17 = .ok (.newarray .int, 2) := by decide +kernel
theorem dX0_init_19 : decode cX0_init 19 = .ok (.putfield 18, 3) := by decide +kernel
theorem dX0_init_22 : decode cX0_init 22 = .ok (.aload_n 0, 1) := by decide +kernel
theorem dX0_init_23 : decode cX0_init 23 = .ok (.iconst 3, 1) := by decide +kernel
theorem dX0_init_24 : decode cX0_init 24 = .ok (.newarray .int, 2) := by decide +kernel
theorem dX0_init_26 : decode cX0_init 26 = .ok (.putfield 22, 3) := by decide +kernel
theorem dX0_init_29 : decode cX0_init 29 = .ok (.return_, 1) := by decide +kernel
theorem dX0_forgets_0 : decode cX0_forgets 0 = .ok (.aload_n 0, 1) := by decide +kernel
theorem dX0_forgets_1 : decode cX0_forgets 1 = .ok (.iconst 0, 1) := by decide +kernel
theorem dX0_forgets_2 : decode cX0_forgets 2 = .ok (.putfield 25, 3) := by decide +kernel
theorem dX0_forgets_5 : decode cX0_forgets 5 = .ok (.return_, 1) := by decide +kernel
set_option maxRecDepth 20000 in
theorem ggX0_reckon_X1_comeByBars : GoodIn wsX0_reckon wsX1_comeByBars := goodIn_r _ [9, 10, 11, 12, 13, 14, 15, 16, 17, 18, 19, 20, 21, 22, 23, 24, 25, 26, 27, 8, 28, 29, 30, 31, 32, 33, 34, 35, 36, 37, 38, 39, 40, 41, 42, 61, 62, 63, 64, 65, 66, 67, 68, 69, 70, 71, 72, 73, 74, 75, 76, 77] (by decide +kernel) (by decide +kernel)
set_option maxRecDepth 20000 in
theorem gX0_reckon_X1_comeByBars : GoodIn wsX0_reckon (wsV RX0 29 RX1 yX1_comeByBars wsX1_comeByBars) := goodIn_app (goodIn_of _ (by decide +kernel)) ggX0_reckon_X1_comeByBars
set_option maxRecDepth 20000 in
theorem ggX0_reckon_X6_at : GoodIn wsX0_reckon wsX6_at := goodIn_r _ [22] (by decide +kernel) (by decide +kernel)
set_option maxRecDepth 20000 in
theorem gX0_reckon_X6_at_n42 : GoodIn wsX0_reckon (wsX6_at) := ggX0_reckon_X6_at
set_option maxRecDepth 20000 in
theorem ggX0_reckon_X1_foundBelow : GoodIn wsX0_reckon wsX1_foundBelow := goodIn_r _ [46, 47, 48, 49, 8, 50, 10, 29, 37, 21, 38, 71, 72, 73, 74, 75, 76, 77] (by decide +kernel) (by decide +kernel)
set_option maxRecDepth 20000 in
theorem gX0_reckon_X1_foundBelow : GoodIn wsX0_reckon (wsV RX0 49 RX1 yX1_foundBelow wsX1_foundBelow) := goodIn_app (goodIn_of _ (by decide +kernel)) ggX0_reckon_X1_foundBelow
set_option maxRecDepth 20000 in
theorem ggX0_reckon_X1_lengthsByWeight : GoodIn wsX0_reckon wsX1_lengthsByWeight := goodIn_r _ [54, 29, 37, 21, 38, 71, 72, 73, 74, 75, 76, 77] (by decide +kernel) (by decide +kernel)
set_option maxRecDepth 20000 in
theorem gX0_reckon_X1_lengthsByWeight : GoodIn wsX0_reckon (wsV RX0 56 RX1 yX1_lengthsByWeight wsX1_lengthsByWeight) := goodIn_app (goodIn_of _ (by decide +kernel)) ggX0_reckon_X1_lengthsByWeight
theorem dX0_reckon_0 : decode cX0_reckon 0 = .ok (.aload_n 0, 1) := by decide +kernel
theorem dX0_reckon_1 : decode cX0_reckon 1 = .ok (.getfield 12, 3) := by decide +kernel
theorem dX0_reckon_4 : decode cX0_reckon 4 = .ok (.aload_n 1, 1) := by decide +kernel
theorem dX0_reckon_5 : decode cX0_reckon 5 = .ok (.aload_n 2, 1) := by decide +kernel
theorem dX0_reckon_6 : decode cX0_reckon 6 = .ok (.invokevirtual 29, 3) := by decide +kernel
theorem dX0_reckon_9 : decode cX0_reckon 9 = .ok (.lconst 0, 1) := by decide +kernel
theorem dX0_reckon_10 : decode cX0_reckon 10 = .ok (.lstore_n 3, 1) := by decide +kernel
theorem dX0_reckon_11 : decode cX0_reckon 11 = .ok (.iconst 0, 1) := by decide +kernel
theorem dX0_reckon_12 : decode cX0_reckon 12 = .ok (.istore 5, 2) := by decide +kernel
theorem dX0_reckon_14 : decode cX0_reckon 14 = .ok (.iload 5, 2) := by decide +kernel
theorem dX0_reckon_16 : decode cX0_reckon 16 = .ok (.aload_n 1, 1) := by decide +kernel
theorem dX0_reckon_17 : decode cX0_reckon 17 = .ok (.getfield 33, 3) := by decide +kernel
theorem dX0_reckon_20 : decode cX0_reckon 20 = .ok (.if_icmp .ge 46, 3) := by decide +kernel
theorem dX0_reckon_23 : decode cX0_reckon 23 = .ok (.lload_n 3, 1) := by decide +kernel
theorem dX0_reckon_24 : decode cX0_reckon 24 = .ok (.aload_n 1, 1) := by decide +kernel
theorem dX0_reckon_25 : decode cX0_reckon 25 = .ok (.getfield 39, 3) := by decide +kernel
theorem dX0_reckon_28 : decode cX0_reckon 28 = .ok (.iload 5, 2) := by decide +kernel
theorem dX0_reckon_30 : decode cX0_reckon 30 = .ok (.invokestatic 42, 3) := by decide +kernel
theorem dX0_reckon_33 : decode cX0_reckon 33 = .ok (.aload_n 1, 1) := by decide +kernel
theorem dX0_reckon_34 : decode cX0_reckon 34 = .ok (.getfield 46, 3) := by decide +kernel
theorem dX0_reckon_37 : decode cX0_reckon 37 = .ok (.iload 5, 2) := by decide +kernel
theorem dX0_reckon_39 : decode cX0_reckon 39 = .ok (.invokestatic 42, 3) := by decide +kernel
theorem dX0_reckon_42 : decode cX0_reckon 42 = .ok (.imul, 1) := by decide +kernel
theorem dX0_reckon_43 : decode cX0_reckon 43 = .ok (.i2l, 1) := by decide +kernel
theorem dX0_reckon_44 : decode cX0_reckon 44 = .ok (.aload_n 0, 1) := by decide +kernel
theorem dX0_reckon_45 : decode cX0_reckon 45 = .ok (.getfield 12, 3) := by decide +kernel
theorem dX0_reckon_48 : decode cX0_reckon 48 = .ok (.aload_n 2, 1) := by decide +kernel
theorem dX0_reckon_49 : decode cX0_reckon 49 = .ok (.iload 5, 2) := by decide +kernel
theorem dX0_reckon_51 : decode cX0_reckon 51 = .ok (.invokestatic 42, 3) := by decide +kernel
theorem dX0_reckon_54 : decode cX0_reckon 54 = .ok (.invokevirtual 49, 3) := by decide +kernel
theorem dX0_reckon_57 : decode cX0_reckon 57 = .ok (.lmul, 1) := by decide +kernel
theorem dX0_reckon_58 : decode cX0_reckon 58 = .ok (.ladd, 1) := by decide +kernel
theorem dX0_reckon_59 : decode cX0_reckon 59 = .ok (.lstore_n 3, 1) := by decide +kernel
theorem dX0_reckon_60 : decode cX0_reckon 60 = .ok (.iinc 5 1, 3) := by decide +kernel
theorem dX0_reckon_63 : decode cX0_reckon 63 = .ok (.goto (-49), 3) := by decide +kernel
theorem dX0_reckon_66 : decode cX0_reckon 66 = .ok (.aload_n 0, 1) := by decide +kernel
theorem dX0_reckon_67 : decode cX0_reckon 67 = .ok (.lload_n 3, 1) := by decide +kernel
theorem dX0_reckon_68 : decode cX0_reckon 68 = .ok (.sipush 144, 3) := by decide +kernel
theorem dX0_reckon_71 : decode cX0_reckon 71 = .ok (.aload_n 1, 1) := by decide +kernel
theorem dX0_reckon_72 : decode cX0_reckon 72 = .ok (.getfield 53, 3) := by decide +kernel
theorem dX0_reckon_75 : decode cX0_reckon 75 = .ok (.imul, 1) := by decide +kernel
theorem dX0_reckon_76 : decode cX0_reckon 76 = .ok (.i2l, 1) := by decide +kernel
theorem dX0_reckon_77 : decode cX0_reckon 77 = .ok (.aload_n 0, 1) := by decide +kernel
theorem dX0_reckon_78 : decode cX0_reckon 78 = .ok (.getfield 12, 3) := by decide +kernel
theorem dX0_reckon_81 : decode cX0_reckon 81 = .ok (.invokevirtual 56, 3) := by decide +kernel
theorem dX0_reckon_84 : decode cX0_reckon 84 = .ok (.lmul, 1) := by decide +kernel
theorem dX0_reckon_85 : decode cX0_reckon 85 = .ok (.lsub, 1) := by decide +kernel
theorem dX0_reckon_86 : decode cX0_reckon 86 = .ok (.putfield 60, 3) := by decide +kernel
theorem dX0_reckon_89 : decode cX0_reckon 89 = .ok (.aload_n 0, 1) := by decide +kernel
theorem dX0_reckon_90 : decode cX0_reckon 90 = .ok (.ldc2_w 64, 3) := by decide +kernel
theorem dX0_reckon_93 : decode cX0_reckon 93 = .ok (.aload_n 0, 1) := by decide +kernel
theorem dX0_reckon_94 : decode cX0_reckon 94 = .ok (.getfield 12, 3) := by decide +kernel
theorem dX0_reckon_97 : decode cX0_reckon 97 = .ok (.getfield 66, 3) := by decide +kernel
theorem dX0_reckon_100 : decode cX0_reckon 100 = .ok (.lmul, 1) := by decide +kernel
theorem dX0_reckon_101 : decode cX0_reckon 101 = .ok (.putfield 69, 3) := by decide +kernel
theorem dX0_reckon_104 : decode cX0_reckon 104 = .ok (.return_, 1) := by decide +kernel
set_option maxRecDepth 20000 in
theorem ggX0_rowBecomes_X6_set : GoodIn wsX0_rowBecomes wsX6_set := goodIn_r _ [4] (by decide +kernel) (by decide +kernel)
set_option maxRecDepth 20000 in
theorem gX0_rowBecomes_X6_set_n72 : GoodIn wsX0_rowBecomes (wsX6_set) := ggX0_rowBecomes_X6_set
theorem dX0_rowBecomes_0 : decode cX0_rowBecomes 0 = .ok (.iload_n 2, 1) := by decide +kernel
theorem dX0_rowBecomes_1 : decode cX0_rowBecomes 1 = .ok (.istore_n 3, 1) := by decide +kernel
theorem dX0_rowBecomes_2 : decode cX0_rowBecomes 2 = .ok (.aload_n 1, 1) := by decide +kernel
theorem dX0_rowBecomes_3 : decode cX0_rowBecomes 3 = .ok (.getfield 33, 3) := by decide +kernel
theorem dX0_rowBecomes_6 : decode cX0_rowBecomes 6 = .ok (.iconst 1, 1) := by decide +kernel
theorem dX0_rowBecomes_7 : decode cX0_rowBecomes 7 = .ok (.isub, 1) := by decide +kernel
theorem dX0_rowBecomes_8 : decode cX0_rowBecomes 8 = .ok (.istore 4, 2) := by decide +kernel
theorem dX0_rowBecomes_10 : decode cX0_rowBecomes 10 = .ok (.iload 4, 2) := by decide +kernel
theorem dX0_rowBecomes_12 : decode cX0_rowBecomes 12 = .ok (.ifCond .lt 27, 3) := by decide +kernel
theorem dX0_rowBecomes_15 : decode cX0_rowBecomes 15 = .ok (.aload_n 0, 1) := by decide +kernel
theorem dX0_rowBecomes_16 : decode cX0_rowBecomes 16 = .ok (.getfield 18, 3) := by decide +kernel
theorem dX0_rowBecomes_19 : decode cX0_rowBecomes 19 = .ok (.iload 4, 2) := by decide +kernel
theorem dX0_rowBecomes_21 : decode cX0_rowBecomes 21 = .ok (.iload_n 3, 1) := by decide +kernel
theorem dX0_rowBecomes_22 : decode cX0_rowBecomes 22 = .ok (.bipush 6, 2) := by decide +kernel
theorem dX0_rowBecomes_24 : decode cX0_rowBecomes 24 = .ok (.irem, 1) := by decide +kernel
theorem dX0_rowBecomes_25 : decode cX0_rowBecomes 25 = .ok (.invokestatic 72, 3) := by decide +kernel
theorem dX0_rowBecomes_28 : decode cX0_rowBecomes 28 = .ok (.iload_n 3, 1) := by decide +kernel
theorem dX0_rowBecomes_29 : decode cX0_rowBecomes 29 = .ok (.bipush 6, 2) := by decide +kernel
theorem dX0_rowBecomes_31 : decode cX0_rowBecomes 31 = .ok (.idiv, 1) := by decide +kernel
theorem dX0_rowBecomes_32 : decode cX0_rowBecomes 32 = .ok (.istore_n 3, 1) := by decide +kernel
theorem dX0_rowBecomes_33 : decode cX0_rowBecomes 33 = .ok (.iinc 4 (-1), 3) := by decide +kernel
theorem dX0_rowBecomes_36 : decode cX0_rowBecomes 36 = .ok (.goto (-26), 3) := by decide +kernel
theorem dX0_rowBecomes_39 : decode cX0_rowBecomes 39 = .ok (.return_, 1) := by decide +kernel
set_option maxRecDepth 20000 in
theorem ggX0_knowBest_X6_rowsOf : GoodIn wsX0_knowBest wsX6_rowsOf := goodIn_r _ [8] (by decide +kernel) (by decide +kernel)
set_option maxRecDepth 20000 in
theorem gX0_knowBest_X6_rowsOf_n76 : GoodIn wsX0_knowBest (wsX6_rowsOf) := ggX0_knowBest_X6_rowsOf
set_option maxRecDepth 20000 in
theorem ggX0_knowBest_X0_rowBecomes : GoodIn wsX0_knowBest wsX0_rowBecomes := goodIn_r _ [13, 2, 14, 7, 15, 81, 82, 83, 84, 85, 86, 87, 88, 89, 90, 75, 76, 77, 78, 79, 80] (by decide +kernel) (by decide +kernel)
set_option maxRecDepth 20000 in
theorem gX0_knowBest_X0_rowBecomes : GoodIn wsX0_knowBest (wsV RX0 80 RX0 yX0_rowBecomes wsX0_rowBecomes) := goodIn_app (goodIn_of _ (by decide +kernel)) ggX0_knowBest_X0_rowBecomes
set_option maxRecDepth 20000 in
theorem ggX0_knowBest_X0_reckon : GoodIn wsX0_knowBest wsX0_reckon := goodIn_r _ [19, 20, 3, 21, 4, 22, 23, 24, 25, 26, 27, 28, 29, 30, 31, 32, 33, 34, 35, 36, 37, 7, 38, 14, 15, 39, 40, 41, 42, 43, 44, 45, 46, 47, 48, 49, 50, 51, 52, 53, 54, 55, 56, 57, 58, 59, 60, 61, 62, 63, 64, 65, 66, 67, 68, 75, 76, 77, 78, 79, 80, 81, 82, 83, 84, 85, 86, 87, 88, 89, 90, 91, 92, 93, 94, 95, 96, 97] (by decide +kernel) (by decide +kernel)
set_option maxRecDepth 20000 in
theorem gX0_knowBest_X0_reckon : GoodIn wsX0_knowBest (wsV RX0 84 RX0 yX0_reckon wsX0_reckon) := goodIn_app (goodIn_of _ (by decide +kernel)) ggX0_knowBest_X0_reckon
set_option maxRecDepth 20000 in
theorem ggX0_knowBest_X6_compareShares : GoodIn wsX0_knowBest wsX6_compareShares := goodIn_r _ [70, 71, 72, 73, 74] (by decide +kernel) (by decide +kernel)
set_option maxRecDepth 20000 in
theorem gX0_knowBest_X6_compareShares_n87 : GoodIn wsX0_knowBest (wsX6_compareShares) := ggX0_knowBest_X6_compareShares
set_option maxRecDepth 20000 in
theorem ggX0_knowBest_X6_at : GoodIn wsX0_knowBest wsX6_at := goodIn_r _ [38] (by decide +kernel) (by decide +kernel)
set_option maxRecDepth 20000 in
theorem gX0_knowBest_X6_at_n42 : GoodIn wsX0_knowBest (wsX6_at) := ggX0_knowBest_X6_at
set_option maxRecDepth 20000 in
theorem ggX0_knowBest_X6_set : GoodIn wsX0_knowBest wsX6_set := goodIn_r _ [15] (by decide +kernel) (by decide +kernel)
set_option maxRecDepth 20000 in
theorem gX0_knowBest_X6_set_n72 : GoodIn wsX0_knowBest (wsX6_set) := ggX0_knowBest_X6_set
theorem dX0_knowBest_0 : decode cX0_knowBest 0 = .ok (.aload_n 0, 1) := by decide +kernel
theorem dX0_knowBest_1 : decode cX0_knowBest 1 = .ok (.getfield 25, 3) := by decide +kernel
theorem dX0_knowBest_4 : decode cX0_knowBest 4 = .ok (.ifCond .eq 4, 3) := by decide +kernel
theorem dX0_knowBest_7 : decode cX0_knowBest 7 = .ok (.return_, 1) := by decide +kernel
theorem dX0_knowBest_8 : decode cX0_knowBest 8 = .ok (.lconst 0, 1) := by decide +kernel
theorem dX0_knowBest_9 : decode cX0_knowBest 9 = .ok (.lstore_n 2, 1) := by decide +kernel
theorem dX0_knowBest_10 : decode cX0_knowBest 10 = .ok (.lconst 0, 1) := by decide +kernel
theorem dX0_knowBest_11 : decode cX0_knowBest 11 = .ok (.lstore 4, 2) := by decide +kernel
theorem dX0_knowBest_13 : decode cX0_knowBest 13 = .ok (.aload_n 1, 1) := by decide +kernel
theorem dX0_knowBest_14 : decode cX0_knowBest 14 = .ok (.getfield 33, 3) := by decide +kernel
theorem dX0_knowBest_17 : decode cX0_knowBest 17 = .ok (.invokestatic 76, 3) := by decide +kernel
theorem dX0_knowBest_20 : decode cX0_knowBest 20 = .ok (.istore 6, 2) := by decide +kernel
theorem dX0_knowBest_22 : decode cX0_knowBest 22 = .ok (.iconst 0, 1) := by decide +kernel
theorem dX0_knowBest_23 : decode cX0_knowBest 23 = .ok (.istore 7, 2) := by decide +kernel
theorem dX0_knowBest_25 : decode cX0_knowBest 25 = .ok (.iload 7, 2) := by decide +kernel
theorem dX0_knowBest_27 : decode cX0_knowBest 27 = .ok (.iload 6, 2) := by decide +kernel
theorem dX0_knowBest_29 : decode cX0_knowBest 29 = .ok (.if_icmp .ge 94, 3) := by decide +kernel
theorem dX0_knowBest_32 : decode cX0_knowBest 32 = .ok (.aload_n 0, 1) := by decide +kernel
theorem dX0_knowBest_33 : decode cX0_knowBest 33 = .ok (.aload_n 1, 1) := by decide +kernel
theorem dX0_knowBest_34 : decode cX0_knowBest 34 = .ok (.iload 7, 2) := by decide +kernel
theorem dX0_knowBest_36 : decode cX0_knowBest 36 = .ok (.invokevirtual 80, 3) := by decide +kernel
theorem dX0_knowBest_39 : decode cX0_knowBest 39 = .ok (.aload_n 0, 1) := by decide +kernel
theorem dX0_knowBest_40 : decode cX0_knowBest 40 = .ok (.aload_n 1, 1) := by decide +kernel
theorem dX0_knowBest_41 : decode cX0_knowBest 41 = .ok (.aload_n 0, 1) := by decide +kernel
theorem dX0_knowBest_42 : decode cX0_knowBest 42 = .ok (.getfield 18, 3) := by decide +kernel
theorem dX0_knowBest_45 : decode cX0_knowBest 45 = .ok (.invokevirtual 84, 3) := by decide +kernel
theorem dX0_knowBest_48 : decode cX0_knowBest 48 = .ok (.iload 7, 2) := by decide +kernel
theorem dX0_knowBest_50 : decode cX0_knowBest 50 = .ok (.ifCond .eq 20, 3) := by decide +kernel
theorem dX0_knowBest_53 : decode cX0_knowBest 53 = .ok (.aload_n 0, 1) := by decide +kernel
theorem dX0_knowBest_54 : decode cX0_knowBest 54 = .ok (.getfield 60, 3) := by decide +kernel
theorem dX0_knowBest_57 : decode cX0_knowBest 57 = .ok (.aload_n 0, 1) := by decide +kernel
theorem dX0_knowBest_58 : decode cX0_knowBest 58 = .ok (.getfield 69, 3) := by decide +kernel
theorem dX0_knowBest_61 : decode cX0_knowBest 61 = .ok (.lload_n 2, 1) := by decide +kernel
theorem dX0_knowBest_62 : decode cX0_knowBest 62 = .ok (.lload 4, 2) := by decide +kernel
theorem dX0_knowBest_64 : decode cX0_knowBest 64 = .ok (.invokestatic 87, 3) := by decide +kernel
theorem dX0_knowBest_67 : decode cX0_knowBest 67 = .ok (.ifCond .le 50, 3) := by decide +kernel
theorem dX0_knowBest_70 : decode cX0_knowBest 70 = .ok (.aload_n 0, 1) := by decide +kernel
theorem dX0_knowBest_71 : decode cX0_knowBest 71 = .ok (.getfield 60, 3) := by decide +kernel
theorem dX0_knowBest_74 : decode cX0_knowBest 74 = .ok (.lstore_n 2, 1) := by decide +kernel
theorem dX0_knowBest_75 : decode cX0_knowBest 75 = .ok (.aload_n 0, 1) := by decide +kernel
theorem dX0_knowBest_76 : decode cX0_knowBest 76 = .ok (.getfield 69, 3) := by decide +kernel
theorem dX0_knowBest_79 : decode cX0_knowBest 79 = .ok (.lstore 4, 2) := by decide +kernel
theorem dX0_knowBest_81 : decode cX0_knowBest 81 = .ok (.iconst 0, 1) := by decide +kernel
theorem dX0_knowBest_82 : decode cX0_knowBest 82 = .ok (.istore 8, 2) := by decide +kernel
theorem dX0_knowBest_84 : decode cX0_knowBest 84 = .ok (.iload 8, 2) := by decide +kernel
theorem dX0_knowBest_86 : decode cX0_knowBest 86 = .ok (.aload_n 1, 1) := by decide +kernel
theorem dX0_knowBest_87 : decode cX0_knowBest 87 = .ok (.getfield 33, 3) := by decide +kernel
theorem dX0_knowBest_90 : decode cX0_knowBest 90 = .ok (.if_icmp .ge 27, 3) := by decide +kernel
theorem dX0_knowBest_93 : decode cX0_knowBest 93 = .ok (.aload_n 0, 1) := by decide +kernel
theorem dX0_knowBest_94 : decode cX0_knowBest 94 = .ok (.getfield 22, 3) := by decide +kernel
theorem dX0_knowBest_97 : decode cX0_knowBest 97 = .ok (.iload 8, 2) := by decide +kernel
theorem dX0_knowBest_99 : decode cX0_knowBest 99 = .ok (.aload_n 0, 1) := by decide +kernel
theorem dX0_knowBest_100 : decode cX0_knowBest 100 = .ok (.getfield 18, 3) := by decide +kernel
theorem dX0_knowBest_103 : decode cX0_knowBest 103 = .ok (.iload 8, 2) := by decide +kernel
theorem dX0_knowBest_105 : decode cX0_knowBest 105 = .ok (.invokestatic 42, 3) := by decide +kernel
theorem dX0_knowBest_108 : decode cX0_knowBest 108 = .ok (.invokestatic 72, 3) := by decide +kernel
theorem dX0_knowBest_111 : decode cX0_knowBest 111 = .ok (.iinc 8 1, 3) := by decide +kernel
theorem dX0_knowBest_114 : decode cX0_knowBest 114 = .ok (.goto (-30), 3) := by decide +kernel
theorem dX0_knowBest_117 : decode cX0_knowBest 117 = .ok (.iinc 7 1, 3) := by decide +kernel
theorem dX0_knowBest_120 : decode cX0_knowBest 120 = .ok (.goto (-95), 3) := by decide +kernel
theorem dX0_knowBest_123 : decode cX0_knowBest 123 = .ok (.aload_n 0, 1) := by decide +kernel
theorem dX0_knowBest_124 : decode cX0_knowBest 124 = .ok (.iconst 1, 1) := by decide +kernel
theorem dX0_knowBest_125 : decode cX0_knowBest 125 = .ok (.putfield 25, 3) := by decide +kernel
theorem dX0_knowBest_128 : decode cX0_knowBest 128 = .ok (.return_, 1) := by decide +kernel
theorem dX1_init_0 : decode cX1_init 0 = .ok (.aload_n 0, 1) := by decide +kernel
theorem dX1_init_1 : decode cX1_init 1 = .ok (.invokespecial 3, 3) := by decide +kernel
theorem dX1_init_4 : decode cX1_init 4 = .ok (.aload_n 0, 1) := by decide +kernel
theorem dX1_init_5 : decode cX1_init 5 = .ok (.bipush 6, 2) := by decide +kernel
theorem dX1_init_7 : decode cX1_init 7 = .ok (.newarray .int, 2) := by decide +kernel
theorem dX1_init_9 : decode cX1_init 9 = .ok (.putfield 9, 3) := by decide +kernel
theorem dX1_init_12 : decode cX1_init 12 = .ok (.aload_n 0, 1) := by decide +kernel
theorem dX1_init_13 : decode cX1_init 13 = .ok (.bipush 6, 2) := by decide +kernel
theorem dX1_init_15 : decode cX1_init 15 = .ok (.newarray .long, 2) := by decide +kernel
theorem dX1_init_17 : decode cX1_init 17 = .ok (.putfield 15, 3) := by decide +kernel
theorem dX1_init_20 : decode cX1_init 20 = .ok (.aload_n 0, 1) := by decide +kernel
theorem dX1_init_21 : decode cX1_init 21 = .ok (.bipush 6, 2) := by decide +kernel
theorem dX1_init_23 : decode cX1_init 23 = .ok (.newarray .long, 2) := by decide +kernel
theorem dX1_init_25 : decode cX1_init 25 = .ok (.putfield 19, 3) := by decide +kernel
theorem dX1_init_28 : decode cX1_init 28 = .ok (.aload_n 0, 1) := by decide +kernel
theorem dX1_init_29 : decode cX1_init 29 = .ok (.bipush 6, 2) := by decide +kernel
theorem dX1_init_31 : decode cX1_init 31 = .ok (.newarray .long, 2) := by decide +kernel
theorem dX1_init_33 : decode cX1_init 33 = .ok (.putfield 22, 3) := by decide +kernel
theorem dX1_init_36 : decode cX1_init 36 = .ok (.return_, 1) := by decide +kernel
set_option maxRecDepth 20000 in
theorem ggX1_comeByBars_X2_joining : GoodIn wsX1_comeByBars wsX2_joining := goodIn_r _ [8, 9, 10, 11, 12, 13, 35, 36, 37, 38, 39, 40, 41, 42, 43, 44] (by decide +kernel) (by decide +kernel)
set_option maxRecDepth 20000 in
theorem gX1_comeByBars_X2_joining : GoodIn wsX1_comeByBars (wsV RX1 35 RX2 yX2_joining wsX2_joining) := goodIn_app (goodIn_of _ (by decide +kernel)) ggX1_comeByBars_X2_joining
set_option maxRecDepth 20000 in
theorem ggX1_comeByBars_X6_set : GoodIn wsX1_comeByBars wsX6_set := goodIn_r _ [15] (by decide +kernel) (by decide +kernel)
set_option maxRecDepth 20000 in
theorem gX1_comeByBars_X6_set_n38 : GoodIn wsX1_comeByBars (wsX6_set) := ggX1_comeByBars_X6_set
set_option maxRecDepth 20000 in
theorem ggX1_comeByBars_X1_weigh : GoodIn wsX1_comeByBars wsX1_weigh := goodIn_r _ [20, 21, 22, 23, 12, 24, 25, 26, 27, 19, 28, 1, 3, 11, 13, 29, 30, 31, 32, 33, 34, 2, 45, 46, 47, 48, 49, 50, 51] (by decide +kernel) (by decide +kernel)
set_option maxRecDepth 20000 in
theorem gX1_comeByBars_X1_weigh : GoodIn wsX1_comeByBars (wsV RX1 42 RX1 yX1_weigh wsX1_weigh) := goodIn_app (goodIn_of _ (by decide +kernel)) ggX1_comeByBars_X1_weigh
theorem dX1_comeByBars_0 : decode cX1_comeByBars 0 = .ok (.aload_n 0, 1) := by decide +kernel
theorem dX1_comeByBars_1 : decode cX1_comeByBars 1 = .ok (.aload_n 1, 1) := by decide +kernel
theorem dX1_comeByBars_2 : decode cX1_comeByBars 2 = .ok (.getfield 25, 3) := by decide +kernel
theorem dX1_comeByBars_5 : decode cX1_comeByBars 5 = .ok (.putfield 31, 3) := by decide +kernel
theorem dX1_comeByBars_8 : decode cX1_comeByBars 8 = .ok (.aload_n 0, 1) := by decide +kernel
theorem dX1_comeByBars_9 : decode cX1_comeByBars 9 = .ok (.bipush 12, 2) := by decide +kernel
theorem dX1_comeByBars_11 : decode cX1_comeByBars 11 = .ok (.putfield 32, 3) := by decide +kernel
theorem dX1_comeByBars_14 : decode cX1_comeByBars 14 = .ok (.iconst 0, 1) := by decide +kernel
theorem dX1_comeByBars_15 : decode cX1_comeByBars 15 = .ok (.istore_n 3, 1) := by decide +kernel
theorem dX1_comeByBars_16 : decode cX1_comeByBars 16 = .ok (.iload_n 3, 1) := by decide +kernel
theorem dX1_comeByBars_17 : decode cX1_comeByBars 17 = .ok (.bipush 6, 2) := by decide +kernel
theorem dX1_comeByBars_19 : decode cX1_comeByBars 19 = .ok (.if_icmp .ge 23, 3) := by decide +kernel
theorem dX1_comeByBars_22 : decode cX1_comeByBars 22 = .ok (.aload_n 0, 1) := by decide +kernel
theorem dX1_comeByBars_23 : decode cX1_comeByBars 23 = .ok (.getfield 9, 3) := by decide +kernel
theorem dX1_comeByBars_26 : decode cX1_comeByBars 26 = .ok (.iload_n 3, 1) := by decide +kernel
theorem dX1_comeByBars_27 : decode cX1_comeByBars 27 = .ok (.aload_n 1, 1) := by decide +kernel
theorem dX1_comeByBars_28 : decode cX1_comeByBars 28 = .ok (.aload_n 2, 1) := by decide +kernel
theorem dX1_comeByBars_29 : decode cX1_comeByBars 29 = .ok (.iload_n 3, 1) := by decide +kernel
theorem dX1_comeByBars_30 : decode cX1_comeByBars 30 = .ok (.invokevirtual 35, 3) := by decide +kernel
theorem dX1_comeByBars_33 : decode cX1_comeByBars 33 = .ok (.invokestatic 38, 3) := by decide +kernel
theorem dX1_comeByBars_36 : decode cX1_comeByBars 36 = .ok (.iinc 3 1, 3) := by decide +kernel
theorem dX1_comeByBars_39 : decode cX1_comeByBars 39 = .ok (.goto (-23), 3) := by decide +kernel
theorem dX1_comeByBars_42 : decode cX1_comeByBars 42 = .ok (.aload_n 0, 1) := by decide +kernel
theorem dX1_comeByBars_43 : decode cX1_comeByBars 43 = .ok (.invokevirtual 42, 3) := by decide +kernel
theorem dX1_comeByBars_46 : decode cX1_comeByBars 46 = .ok (.return_, 1) := by decide +kernel
set_option maxRecDepth 20000 in
theorem ggX1_comeBlind_X6_at : GoodIn wsX1_comeBlind wsX6_at := goodIn_r _ [6] (by decide +kernel) (by decide +kernel)
set_option maxRecDepth 20000 in
theorem gX1_comeBlind_X6_at_n48 : GoodIn wsX1_comeBlind (wsX6_at) := ggX1_comeBlind_X6_at
set_option maxRecDepth 20000 in
theorem ggX1_comeBlind_X6_set : GoodIn wsX1_comeBlind wsX6_set := goodIn_r _ [8] (by decide +kernel) (by decide +kernel)
set_option maxRecDepth 20000 in
theorem gX1_comeBlind_X6_set_n38 : GoodIn wsX1_comeBlind (wsX6_set) := ggX1_comeBlind_X6_set
set_option maxRecDepth 20000 in
theorem ggX1_comeBlind_X1_weigh : GoodIn wsX1_comeBlind wsX1_weigh := goodIn_r _ [13, 14, 15, 16, 5, 17, 18, 19, 20, 12, 21, 1, 3, 4, 6, 22, 23, 24, 25, 26, 27, 2, 38, 39, 40, 41, 42, 43, 44] (by decide +kernel) (by decide +kernel)
set_option maxRecDepth 20000 in
theorem gX1_comeBlind_X1_weigh : GoodIn wsX1_comeBlind (wsV RX1 42 RX1 yX1_weigh wsX1_weigh) := goodIn_app (goodIn_of _ (by decide +kernel)) ggX1_comeBlind_X1_weigh
theorem dX1_comeBlind_0 : decode cX1_comeBlind 0 = .ok (.aload_n 0, 1) := by decide +kernel
theorem dX1_comeBlind_1 : decode cX1_comeBlind 1 = .ok (.aload_n 1, 1) := by decide +kernel
theorem dX1_comeBlind_2 : decode cX1_comeBlind 2 = .ok (.getfield 25, 3) := by decide +kernel
theorem dX1_comeBlind_5 : decode cX1_comeBlind 5 = .ok (.putfield 31, 3) := by decide +kernel
theorem dX1_comeBlind_8 : decode cX1_comeBlind 8 = .ok (.aload_n 0, 1) := by decide +kernel
theorem dX1_comeBlind_9 : decode cX1_comeBlind 9 = .ok (.sipush 144, 3) := by decide +kernel
theorem dX1_comeBlind_12 : decode cX1_comeBlind 12 = .ok (.putfield 32, 3) := by decide +kernel
theorem dX1_comeBlind_15 : decode cX1_comeBlind 15 = .ok (.iconst 0, 1) := by decide +kernel
theorem dX1_comeBlind_16 : decode cX1_comeBlind 16 = .ok (.istore_n 3, 1) := by decide +kernel
theorem dX1_comeBlind_17 : decode cX1_comeBlind 17 = .ok (.iload_n 3, 1) := by decide +kernel
theorem dX1_comeBlind_18 : decode cX1_comeBlind 18 = .ok (.bipush 6, 2) := by decide +kernel
theorem dX1_comeBlind_20 : decode cX1_comeBlind 20 = .ok (.if_icmp .ge 36, 3) := by decide +kernel
theorem dX1_comeBlind_23 : decode cX1_comeBlind 23 = .ok (.aload_n 0, 1) := by decide +kernel
theorem dX1_comeBlind_24 : decode cX1_comeBlind 24 = .ok (.getfield 9, 3) := by decide +kernel
theorem dX1_comeBlind_27 : decode cX1_comeBlind 27 = .ok (.iload_n 3, 1) := by decide +kernel
theorem dX1_comeBlind_28 : decode cX1_comeBlind 28 = .ok (.iload_n 3, 1) := by decide +kernel
theorem dX1_comeBlind_29 : decode cX1_comeBlind 29 = .ok (.iconst 4, 1) := by decide +kernel
theorem dX1_comeBlind_30 : decode cX1_comeBlind 30 = .ok (.if_icmp .ge 16, 3) := by decide +kernel
theorem dX1_comeBlind_33 : decode cX1_comeBlind 33 = .ok (.iload_n 2, 1) := by decide +kernel
theorem dX1_comeBlind_34 : decode cX1_comeBlind 34 = .ok (.aload_n 1, 1) := by decide +kernel
theorem dX1_comeBlind_35 : decode cX1_comeBlind 35 = .ok (.getfield 45, 3) := by decide +kernel
theorem dX1_comeBlind_38 : decode cX1_comeBlind 38 = .ok (.iconst 0, 1) := by decide +kernel
theorem dX1_comeBlind_39 : decode cX1_comeBlind 39 = .ok (.invokestatic 48, 3) := by decide +kernel
theorem dX1_comeBlind_42 : decode cX1_comeBlind 42 = .ok (.imul, 1) := by decide +kernel
theorem dX1_comeBlind_43 : decode cX1_comeBlind 43 = .ok (.goto 4, 3) := by decide +kernel
theorem dX1_comeBlind_46 : decode cX1_comeBlind 46 = .ok (.iconst 0, 1) := by decide +kernel
theorem dX1_comeBlind_47 : decode cX1_comeBlind 47 = .ok (.invokestatic 38, 3) := by decide +kernel
theorem dX1_comeBlind_50 : decode cX1_comeBlind 50 = .ok (.iinc 3 1, 3) := by decide +kernel
theorem dX1_comeBlind_53 : decode cX1_comeBlind 53 = .ok (.goto (-36), 3) := by decide +kernel
theorem dX1_comeBlind_56 : decode cX1_comeBlind 56 = .ok (.aload_n 0, 1) := by decide +kernel
theorem dX1_comeBlind_57 : decode cX1_comeBlind 57 = .ok (.invokevirtual 42, 3) := by decide +kernel
theorem dX1_comeBlind_60 : decode cX1_comeBlind 60 = .ok (.return_, 1) := by decide +kernel
set_option maxRecDepth 20000 in
theorem ggX1_weigh_X6_set_ : GoodIn wsX1_weigh wsX6_set_ := goodIn_r _ [5] (by decide +kernel) (by decide +kernel)
set_option maxRecDepth 20000 in
theorem gX1_weigh_X6_set__n51 : GoodIn wsX1_weigh (wsX6_set_) := ggX1_weigh_X6_set_
set_option maxRecDepth 20000 in
theorem ggX1_weigh_X1_grows : GoodIn wsX1_weigh wsX1_grows := goodIn_r _ [10, 11, 12, 13, 4, 14, 22, 23, 24, 25, 26, 27, 28] (by decide +kernel) (by decide +kernel)
set_option maxRecDepth 20000 in
theorem gX1_weigh_X1_grows : GoodIn wsX1_weigh (wsV RX1 54 RX1 yX1_grows wsX1_grows) := goodIn_app (goodIn_of _ (by decide +kernel)) ggX1_weigh_X1_grows
set_option maxRecDepth 20000 in
theorem ggX1_weigh_X6_at_ : GoodIn wsX1_weigh wsX6_at_ := goodIn_r _ [16] (by decide +kernel) (by decide +kernel)
set_option maxRecDepth 20000 in
theorem gX1_weigh_X6_at__n58 : GoodIn wsX1_weigh (wsX6_at_) := ggX1_weigh_X6_at_
set_option maxRecDepth 20000 in
theorem ggX1_weigh_X1_shrinks : GoodIn wsX1_weigh wsX1_shrinks := goodIn_r _ [20, 11, 21, 12, 13, 4, 14, 22, 23, 24, 25, 26, 27, 28] (by decide +kernel) (by decide +kernel)
set_option maxRecDepth 20000 in
theorem gX1_weigh_X1_shrinks : GoodIn wsX1_weigh (wsV RX1 61 RX1 yX1_shrinks wsX1_shrinks) := goodIn_app (goodIn_of _ (by decide +kernel)) ggX1_weigh_X1_shrinks
theorem dX1_weigh_0 : decode cX1_weigh 0 = .ok (.iconst 0, 1) := by decide +kernel
theorem dX1_weigh_1 : decode cX1_weigh 1 = .ok (.istore_n 1, 1) := by decide +kernel
theorem dX1_weigh_2 : decode cX1_weigh 2 = .ok (.iload_n 1, 1) := by decide +kernel
theorem dX1_weigh_3 : decode cX1_weigh 3 = .ok (.bipush 6, 2) := by decide +kernel
theorem dX1_weigh_5 : decode cX1_weigh 5 = .ok (.if_icmp .ge 18, 3) := by decide +kernel
theorem dX1_weigh_8 : decode cX1_weigh 8 = .ok (.aload_n 0, 1) := by decide +kernel
theorem dX1_weigh_9 : decode cX1_weigh 9 = .ok (.getfield 15, 3) := by decide +kernel
theorem dX1_weigh_12 : decode cX1_weigh 12 = .ok (.iload_n 1, 1) := by decide +kernel
theorem dX1_weigh_13 : decode cX1_weigh 13 = .ok (.lconst 0, 1) := by decide +kernel
theorem dX1_weigh_14 : decode cX1_weigh 14 = .ok (.invokestatic 51, 3) := by decide +kernel
theorem dX1_weigh_17 : decode cX1_weigh 17 = .ok (.iinc 1 1, 3) := by decide +kernel
theorem dX1_weigh_20 : decode cX1_weigh 20 = .ok (.goto (-18), 3) := by decide +kernel
theorem dX1_weigh_23 : decode cX1_weigh 23 = .ok (.aload_n 0, 1) := by decide +kernel
theorem dX1_weigh_24 : decode cX1_weigh 24 = .ok (.getfield 15, 3) := by decide +kernel
theorem dX1_weigh_27 : decode cX1_weigh 27 = .ok (.iconst 0, 1) := by decide +kernel
theorem dX1_weigh_28 : decode cX1_weigh 28 = .ok (.lconst 1, 1) := by decide +kernel
theorem dX1_weigh_29 : decode cX1_weigh 29 = .ok (.invokestatic 51, 3) := by decide +kernel
theorem dX1_weigh_32 : decode cX1_weigh 32 = .ok (.iconst 1, 1) := by decide +kernel
theorem dX1_weigh_33 : decode cX1_weigh 33 = .ok (.istore_n 1, 1) := by decide +kernel
theorem dX1_weigh_34 : decode cX1_weigh 34 = .ok (.iload_n 1, 1) := by decide +kernel
theorem dX1_weigh_35 : decode cX1_weigh 35 = .ok (.bipush 6, 2) := by decide +kernel
theorem dX1_weigh_37 : decode cX1_weigh 37 = .ok (.if_icmp .ge 82, 3) := by decide +kernel
theorem dX1_weigh_40 : decode cX1_weigh 40 = .ok (.aload_n 0, 1) := by decide +kernel
theorem dX1_weigh_41 : decode cX1_weigh 41 = .ok (.iload_n 1, 1) := by decide +kernel
theorem dX1_weigh_42 : decode cX1_weigh 42 = .ok (.iconst 1, 1) := by decide +kernel
theorem dX1_weigh_43 : decode cX1_weigh 43 = .ok (.isub, 1) := by decide +kernel
theorem dX1_weigh_44 : decode cX1_weigh 44 = .ok (.invokevirtual 54, 3) := by decide +kernel
theorem dX1_weigh_47 : decode cX1_weigh 47 = .ok (.lconst 0, 1) := by decide +kernel
theorem dX1_weigh_48 : decode cX1_weigh 48 = .ok (.lcmp, 1) := by decide +kernel
theorem dX1_weigh_49 : decode cX1_weigh 49 = .ok (.ifCond .le 70, 3) := by decide +kernel
theorem dX1_weigh_52 : decode cX1_weigh 52 = .ok (.aload_n 0, 1) := by decide +kernel
theorem dX1_weigh_53 : decode cX1_weigh 53 = .ok (.getfield 15, 3) := by decide +kernel
theorem dX1_weigh_56 : decode cX1_weigh 56 = .ok (.iload_n 1, 1) := by decide +kernel
theorem dX1_weigh_57 : decode cX1_weigh 57 = .ok (.aload_n 0, 1) := by decide +kernel
theorem dX1_weigh_58 : decode cX1_weigh 58 = .ok (.getfield 15, 3) := by decide +kernel
theorem dX1_weigh_61 : decode cX1_weigh 61 = .ok (.iload_n 1, 1) := by decide +kernel
theorem dX1_weigh_62 : decode cX1_weigh 62 = .ok (.iconst 1, 1) := by decide +kernel
theorem dX1_weigh_63 : decode cX1_weigh 63 = .ok (.isub, 1) := by decide +kernel
theorem dX1_weigh_64 : decode cX1_weigh 64 = .ok (.invokestatic 58, 3) := by decide +kernel
theorem dX1_weigh_67 : decode cX1_weigh 67 = .ok (.aload_n 0, 1) := by decide +kernel
theorem dX1_weigh_68 : decode cX1_weigh 68 = .ok (.iload_n 1, 1) := by decide +kernel
theorem dX1_weigh_69 : decode cX1_weigh 69 = .ok (.iconst 1, 1) := by decide +kernel
theorem dX1_weigh_70 : decode cX1_weigh 70 = .ok (.isub, 1) := by decide +kernel
theorem dX1_weigh_71 : decode cX1_weigh 71 = .ok (.invokevirtual 54, 3) := by decide +kernel
theorem dX1_weigh_74 : decode cX1_weigh 74 = .ok (.lmul, 1) := by decide +kernel
theorem dX1_weigh_75 : decode cX1_weigh 75 = .ok (.invokestatic 51, 3) := by decide +kernel
theorem dX1_weigh_78 : decode cX1_weigh 78 = .ok (.iconst 0, 1) := by decide +kernel
theorem dX1_weigh_79 : decode cX1_weigh 79 = .ok (.istore_n 2, 1) := by decide +kernel
theorem dX1_weigh_80 : decode cX1_weigh 80 = .ok (.iload_n 2, 1) := by decide +kernel
theorem dX1_weigh_81 : decode cX1_weigh 81 = .ok (.iload_n 1, 1) := by decide +kernel
theorem dX1_weigh_82 : decode cX1_weigh 82 = .ok (.if_icmp .ge 31, 3) := by decide +kernel
theorem dX1_weigh_85 : decode cX1_weigh 85 = .ok (.aload_n 0, 1) := by decide +kernel
theorem dX1_weigh_86 : decode cX1_weigh 86 = .ok (.getfield 15, 3) := by decide +kernel
theorem dX1_weigh_89 : decode cX1_weigh 89 = .ok (.iload_n 2, 1) := by decide +kernel
theorem dX1_weigh_90 : decode cX1_weigh 90 = .ok (.aload_n 0, 1) := by decide +kernel
theorem dX1_weigh_91 : decode cX1_weigh 91 = .ok (.getfield 15, 3) := by decide +kernel
theorem dX1_weigh_94 : decode cX1_weigh 94 = .ok (.iload_n 2, 1) := by decide +kernel
theorem dX1_weigh_95 : decode cX1_weigh 95 = .ok (.invokestatic 58, 3) := by decide +kernel
theorem dX1_weigh_98 : decode cX1_weigh 98 = .ok (.aload_n 0, 1) := by decide +kernel
theorem dX1_weigh_99 : decode cX1_weigh 99 = .ok (.iload_n 1, 1) := by decide +kernel
theorem dX1_weigh_100 : decode cX1_weigh 100 = .ok (.invokevirtual 61, 3) := by decide +kernel
theorem dX1_weigh_103 : decode cX1_weigh 103 = .ok (.lmul, 1) := by decide +kernel
theorem dX1_weigh_104 : decode cX1_weigh 104 = .ok (.invokestatic 51, 3) := by decide +kernel
theorem dX1_weigh_107 : decode cX1_weigh 107 = .ok (.iinc 2 1, 3) := by decide +kernel
theorem dX1_weigh_110 : decode cX1_weigh 110 = .ok (.goto (-30), 3) := by decide +kernel
theorem dX1_weigh_113 : decode cX1_weigh 113 = .ok (.iinc 1 1, 3) := by decide +kernel
theorem dX1_weigh_116 : decode cX1_weigh 116 = .ok (.goto (-82), 3) := by decide +kernel
theorem dX1_weigh_119 : decode cX1_weigh 119 = .ok (.aload_n 0, 1) := by decide +kernel
theorem dX1_weigh_120 : decode cX1_weigh 120 = .ok (.lconst 0, 1) := by decide +kernel
theorem dX1_weigh_121 : decode cX1_weigh 121 = .ok (.putfield 64, 3) := by decide +kernel
theorem dX1_weigh_124 : decode cX1_weigh 124 = .ok (.iconst 0, 1) := by decide +kernel
theorem dX1_weigh_125 : decode cX1_weigh 125 = .ok (.istore_n 1, 1) := by decide +kernel
theorem dX1_weigh_126 : decode cX1_weigh 126 = .ok (.iload_n 1, 1) := by decide +kernel
theorem dX1_weigh_127 : decode cX1_weigh 127 = .ok (.bipush 6, 2) := by decide +kernel
theorem dX1_weigh_129 : decode cX1_weigh 129 = .ok (.if_icmp .ge 26, 3) := by decide +kernel
theorem dX1_weigh_132 : decode cX1_weigh 132 = .ok (.aload_n 0, 1) := by decide +kernel
theorem dX1_weigh_133 : decode cX1_weigh 133 = .ok (.dup, 1) := by decide +kernel
theorem dX1_weigh_134 : decode cX1_weigh 134 = .ok (.getfield 64, 3) := by decide +kernel
theorem dX1_weigh_137 : decode cX1_weigh 137 = .ok (.aload_n 0, 1) := by decide +kernel
theorem dX1_weigh_138 : decode cX1_weigh 138 = .ok (.getfield 15, 3) := by decide +kernel
theorem dX1_weigh_141 : decode cX1_weigh 141 = .ok (.iload_n 1, 1) := by decide +kernel
theorem dX1_weigh_142 : decode cX1_weigh 142 = .ok (.invokestatic 58, 3) := by decide +kernel
theorem dX1_weigh_145 : decode cX1_weigh 145 = .ok (.ladd, 1) := by decide +kernel
theorem dX1_weigh_146 : decode cX1_weigh 146 = .ok (.putfield 64, 3) := by decide +kernel
theorem dX1_weigh_149 : decode cX1_weigh 149 = .ok (.iinc 1 1, 3) := by decide +kernel
theorem dX1_weigh_152 : decode cX1_weigh 152 = .ok (.goto (-26), 3) := by decide +kernel
theorem dX1_weigh_155 : decode cX1_weigh 155 = .ok (.return_, 1) := by decide +kernel
set_option maxRecDepth 20000 in
theorem ggX1_grows_X6_at : GoodIn wsX1_grows wsX6_at := goodIn_r _ [5] (by decide +kernel) (by decide +kernel)
set_option maxRecDepth 20000 in
theorem gX1_grows_X6_at_n48 : GoodIn wsX1_grows (wsX6_at) := ggX1_grows_X6_at
theorem dX1_grows_0 : decode cX1_grows 0 = .ok (.iload_n 1, 1) := by decide +kernel
theorem dX1_grows_1 : decode cX1_grows 1 = .ok (.ifCond .ne 8, 3) := by decide +kernel
theorem dX1_grows_4 : decode cX1_grows 4 = .ok (.bipush 12, 2) := by decide +kernel
theorem dX1_grows_6 : decode cX1_grows 6 = .ok (.goto 10, 3) := by decide +kernel
theorem dX1_grows_9 : decode cX1_grows 9 = .ok (.bipush 12, 2) := by decide +kernel
theorem dX1_grows_11 : decode cX1_grows 11 = .ok (.aload_n 0, 1) := by decide +kernel
theorem dX1_grows_12 : decode cX1_grows 12 = .ok (.getfield 31, 3) := by decide +kernel
theorem dX1_grows_15 : decode cX1_grows 15 = .ok (.isub, 1) := by decide +kernel
theorem dX1_grows_16 : decode cX1_grows 16 = .ok (.aload_n 0, 1) := by decide +kernel
theorem dX1_grows_17 : decode cX1_grows 17 = .ok (.getfield 9, 3) := by decide +kernel
theorem dX1_grows_20 : decode cX1_grows 20 = .ok (.iload_n 1, 1) := by decide +kernel
theorem dX1_grows_21 : decode cX1_grows 21 = .ok (.invokestatic 48, 3) := by decide +kernel
theorem dX1_grows_24 : decode cX1_grows 24 = .ok (.imul, 1) := by decide +kernel
theorem dX1_grows_25 : decode cX1_grows 25 = .ok (.i2l, 1) := by decide +kernel
theorem dX1_grows_26 : decode cX1_grows 26 = .ok (.lreturn, 1) := by decide +kernel
set_option maxRecDepth 20000 in
theorem ggX1_shrinks_X6_at : GoodIn wsX1_shrinks wsX6_at := goodIn_r _ [6] (by decide +kernel) (by decide +kernel)
set_option maxRecDepth 20000 in
theorem gX1_shrinks_X6_at_n48 : GoodIn wsX1_shrinks (wsX6_at) := ggX1_shrinks_X6_at
theorem dX1_shrinks_0 : decode cX1_shrinks 0 = .ok (.iload_n 1, 1) := by decide +kernel
theorem dX1_shrinks_1 : decode cX1_shrinks 1 = .ok (.ifCond .ne 7, 3) := by decide +kernel
theorem dX1_shrinks_4 : decode cX1_shrinks 4 = .ok (.lconst 0, 1) := by decide +kernel
theorem dX1_shrinks_5 : decode cX1_shrinks 5 = .ok (.goto 24, 3) := by decide +kernel
theorem dX1_shrinks_8 : decode cX1_shrinks 8 = .ok (.aload_n 0, 1) := by decide +kernel
theorem dX1_shrinks_9 : decode cX1_shrinks 9 = .ok (.getfield 31, 3) := by decide +kernel
theorem dX1_shrinks_12 : decode cX1_shrinks 12 = .ok (.aload_n 0, 1) := by decide +kernel
theorem dX1_shrinks_13 : decode cX1_shrinks 13 = .ok (.getfield 32, 3) := by decide +kernel
theorem dX1_shrinks_16 : decode cX1_shrinks 16 = .ok (.aload_n 0, 1) := by decide +kernel
theorem dX1_shrinks_17 : decode cX1_shrinks 17 = .ok (.getfield 9, 3) := by decide +kernel
theorem dX1_shrinks_20 : decode cX1_shrinks 20 = .ok (.iload_n 1, 1) := by decide +kernel
theorem dX1_shrinks_21 : decode cX1_shrinks 21 = .ok (.iconst 1, 1) := by decide +kernel
theorem dX1_shrinks_22 : decode cX1_shrinks 22 = .ok (.isub, 1) := by decide +kernel
theorem dX1_shrinks_23 : decode cX1_shrinks 23 = .ok (.invokestatic 48, 3) := by decide +kernel
theorem dX1_shrinks_26 : decode cX1_shrinks 26 = .ok (.isub, 1) := by decide +kernel
theorem dX1_shrinks_27 : decode cX1_shrinks 27 = .ok (.imul, 1) := by decide +kernel
theorem dX1_shrinks_28 : decode cX1_shrinks 28 = .ok (.i2l, 1) := by decide +kernel
theorem dX1_shrinks_29 : decode cX1_shrinks 29 = .ok (.lreturn, 1) := by decide +kernel
set_option maxRecDepth 20000 in
theorem ggX1_lengthsByWeight_X6_at_ : GoodIn wsX1_lengthsByWeight wsX6_at_ := goodIn_r _ [4] (by decide +kernel) (by decide +kernel)
set_option maxRecDepth 20000 in
theorem gX1_lengthsByWeight_X6_at__n58 : GoodIn wsX1_lengthsByWeight (wsX6_at_) := ggX1_lengthsByWeight_X6_at_
theorem dX1_lengthsByWeight_0 : decode cX1_lengthsByWeight 0 = .ok (.lconst 0, 1) := by decide +kernel
theorem dX1_lengthsByWeight_1 : decode cX1_lengthsByWeight 1 = .ok (.lstore_n 1, 1) := by decide +kernel
theorem dX1_lengthsByWeight_2 : decode cX1_lengthsByWeight 2 = .ok (.iconst 0, 1) := by decide +kernel
theorem dX1_lengthsByWeight_3 : decode cX1_lengthsByWeight 3 = .ok (.istore_n 3, 1) := by decide +kernel
theorem dX1_lengthsByWeight_4 : decode cX1_lengthsByWeight 4 = .ok (.iload_n 3, 1) := by decide +kernel
theorem dX1_lengthsByWeight_5 : decode cX1_lengthsByWeight 5 = .ok (.bipush 6, 2) := by decide +kernel
theorem dX1_lengthsByWeight_7 : decode cX1_lengthsByWeight 7 = .ok (.if_icmp .ge 23, 3) := by decide +kernel
theorem dX1_lengthsByWeight_10 : decode cX1_lengthsByWeight 10 = .ok (.lload_n 1, 1) := by decide +kernel
theorem dX1_lengthsByWeight_11 : decode cX1_lengthsByWeight 11 = .ok (.iload_n 3, 1) := by decide +kernel
theorem dX1_lengthsByWeight_12 : decode cX1_lengthsByWeight 12 = .ok (.i2l, 1) := by decide +kernel
theorem dX1_lengthsByWeight_13 : decode cX1_lengthsByWeight 13 = .ok (.aload_n 0, 1) := by decide +kernel
theorem dX1_lengthsByWeight_14 : decode cX1_lengthsByWeight 14 = .ok (.getfield 15, 3) := by decide +kernel
theorem dX1_lengthsByWeight_17 : decode cX1_lengthsByWeight 17 = .ok (.iload_n 3, 1) := by decide +kernel
theorem dX1_lengthsByWeight_18 : decode cX1_lengthsByWeight 18 = .ok (.invokestatic 58, 3) := by decide +kernel
theorem dX1_lengthsByWeight_21 : decode cX1_lengthsByWeight 21 = .ok (.lmul, 1) := by decide +kernel
theorem dX1_lengthsByWeight_22 : decode cX1_lengthsByWeight 22 = .ok (.ladd, 1) := by decide +kernel
theorem dX1_lengthsByWeight_23 : decode cX1_lengthsByWeight 23 = .ok (.lstore_n 1, 1) := by decide +kernel
theorem dX1_lengthsByWeight_24 : decode cX1_lengthsByWeight 24 = .ok (.iinc 3 1, 3) := by decide +kernel
theorem dX1_lengthsByWeight_27 : decode cX1_lengthsByWeight 27 = .ok (.goto (-23), 3) := by decide +kernel
theorem dX1_lengthsByWeight_30 : decode cX1_lengthsByWeight 30 = .ok (.lload_n 1, 1) := by decide +kernel
theorem dX1_lengthsByWeight_31 : decode cX1_lengthsByWeight 31 = .ok (.lreturn, 1) := by decide +kernel
set_option maxRecDepth 20000 in
theorem ggX1_found_X6_at_ : GoodIn wsX1_found wsX6_at_ := goodIn_r _ [5] (by decide +kernel) (by decide +kernel)
set_option maxRecDepth 20000 in
theorem gX1_found_X6_at__n58 : GoodIn wsX1_found (wsX6_at_) := ggX1_found_X6_at_
theorem dX1_found_0 : decode cX1_found 0 = .ok (.iload_n 1, 1) := by decide +kernel
theorem dX1_found_1 : decode cX1_found 1 = .ok (.ifCond .ne 8, 3) := by decide +kernel
theorem dX1_found_4 : decode cX1_found 4 = .ok (.bipush 12, 2) := by decide +kernel
theorem dX1_found_6 : decode cX1_found 6 = .ok (.goto 10, 3) := by decide +kernel
theorem dX1_found_9 : decode cX1_found 9 = .ok (.bipush 12, 2) := by decide +kernel
theorem dX1_found_11 : decode cX1_found 11 = .ok (.aload_n 0, 1) := by decide +kernel
theorem dX1_found_12 : decode cX1_found 12 = .ok (.getfield 31, 3) := by decide +kernel
theorem dX1_found_15 : decode cX1_found 15 = .ok (.isub, 1) := by decide +kernel
theorem dX1_found_16 : decode cX1_found 16 = .ok (.i2l, 1) := by decide +kernel
theorem dX1_found_17 : decode cX1_found 17 = .ok (.aload_n 0, 1) := by decide +kernel
theorem dX1_found_18 : decode cX1_found 18 = .ok (.getfield 15, 3) := by decide +kernel
theorem dX1_found_21 : decode cX1_found 21 = .ok (.iload_n 1, 1) := by decide +kernel
theorem dX1_found_22 : decode cX1_found 22 = .ok (.invokestatic 58, 3) := by decide +kernel
theorem dX1_found_25 : decode cX1_found 25 = .ok (.lmul, 1) := by decide +kernel
theorem dX1_found_26 : decode cX1_found 26 = .ok (.aload_n 0, 1) := by decide +kernel
theorem dX1_found_27 : decode cX1_found 27 = .ok (.getfield 31, 3) := by decide +kernel
theorem dX1_found_30 : decode cX1_found 30 = .ok (.i2l, 1) := by decide +kernel
theorem dX1_found_31 : decode cX1_found 31 = .ok (.aload_n 0, 1) := by decide +kernel
theorem dX1_found_32 : decode cX1_found 32 = .ok (.getfield 15, 3) := by decide +kernel
theorem dX1_found_35 : decode cX1_found 35 = .ok (.iload_n 1, 1) := by decide +kernel
theorem dX1_found_36 : decode cX1_found 36 = .ok (.iconst 1, 1) := by decide +kernel
theorem dX1_found_37 : decode cX1_found 37 = .ok (.iadd, 1) := by decide +kernel
theorem dX1_found_38 : decode cX1_found 38 = .ok (.invokestatic 58, 3) := by decide +kernel
theorem dX1_found_41 : decode cX1_found 41 = .ok (.lmul, 1) := by decide +kernel
theorem dX1_found_42 : decode cX1_found 42 = .ok (.ladd, 1) := by decide +kernel
theorem dX1_found_43 : decode cX1_found 43 = .ok (.lreturn, 1) := by decide +kernel
set_option maxRecDepth 20000 in
theorem ggX1_foundBelow_X1_found : GoodIn wsX1_foundBelow wsX1_found := goodIn_r _ [5, 6, 7, 8, 9, 10, 11, 12, 13, 14, 15, 16, 17] (by decide +kernel) (by decide +kernel)
set_option maxRecDepth 20000 in
theorem gX1_foundBelow_X1_found : GoodIn wsX1_foundBelow (wsV RX1 68 RX1 yX1_found wsX1_found) := goodIn_app (goodIn_of _ (by decide +kernel)) ggX1_foundBelow_X1_found
theorem dX1_foundBelow_0 : decode cX1_foundBelow 0 = .ok (.lconst 0, 1) := by decide +kernel
theorem dX1_foundBelow_1 : decode cX1_foundBelow 1 = .ok (.lstore_n 2, 1) := by decide +kernel
theorem dX1_foundBelow_2 : decode cX1_foundBelow 2 = .ok (.iconst 0, 1) := by decide +kernel
theorem dX1_foundBelow_3 : decode cX1_foundBelow 3 = .ok (.istore 4, 2) := by decide +kernel
theorem dX1_foundBelow_5 : decode cX1_foundBelow 5 = .ok (.iload 4, 2) := by decide +kernel
theorem dX1_foundBelow_7 : decode cX1_foundBelow 7 = .ok (.iload_n 1, 1) := by decide +kernel
theorem dX1_foundBelow_8 : decode cX1_foundBelow 8 = .ok (.if_icmp .ge 25, 3) := by decide +kernel
theorem dX1_foundBelow_11 : decode cX1_foundBelow 11 = .ok (.iload 4, 2) := by decide +kernel
theorem dX1_foundBelow_13 : decode cX1_foundBelow 13 = .ok (.bipush 6, 2) := by decide +kernel
theorem dX1_foundBelow_15 : decode cX1_foundBelow 15 = .ok (.if_icmp .ge 18, 3) := by decide +kernel
theorem dX1_foundBelow_18 : decode cX1_foundBelow 18 = .ok (.lload_n 2, 1) := by decide +kernel
theorem dX1_foundBelow_19 : decode cX1_foundBelow 19 = .ok (.aload_n 0, 1) := by decide +kernel
theorem dX1_foundBelow_20 : decode cX1_foundBelow 20 = .ok (.iload 4, 2) := by decide +kernel
theorem dX1_foundBelow_22 : decode cX1_foundBelow 22 = .ok (.invokevirtual 68, 3) := by decide +kernel
theorem dX1_foundBelow_25 : decode cX1_foundBelow 25 = .ok (.ladd, 1) := by decide +kernel
theorem dX1_foundBelow_26 : decode cX1_foundBelow 26 = .ok (.lstore_n 2, 1) := by decide +kernel
theorem dX1_foundBelow_27 : decode cX1_foundBelow 27 = .ok (.iinc 4 1, 3) := by decide +kernel
theorem dX1_foundBelow_30 : decode cX1_foundBelow 30 = .ok (.goto (-25), 3) := by decide +kernel
theorem dX1_foundBelow_33 : decode cX1_foundBelow 33 = .ok (.lload_n 2, 1) := by decide +kernel
theorem dX1_foundBelow_34 : decode cX1_foundBelow 34 = .ok (.lreturn, 1) := by decide +kernel
set_option maxRecDepth 20000 in
theorem ggX1_tillLess_X1_grows : GoodIn wsX1_tillLess wsX1_grows := goodIn_r _ [6, 7, 8, 9, 10, 11, 26, 27, 28, 29, 30, 31, 32] (by decide +kernel) (by decide +kernel)
set_option maxRecDepth 20000 in
theorem gX1_tillLess_X1_grows : GoodIn wsX1_tillLess (wsV RX1 54 RX1 yX1_grows wsX1_grows) := goodIn_app (goodIn_of _ (by decide +kernel)) ggX1_tillLess_X1_grows
set_option maxRecDepth 20000 in
theorem ggX1_tillLess_X1_shrinks : GoodIn wsX1_tillLess wsX1_shrinks := goodIn_r _ [15, 7, 1, 8, 9, 10, 11, 26, 27, 28, 29, 30, 31, 32] (by decide +kernel) (by decide +kernel)
set_option maxRecDepth 20000 in
theorem gX1_tillLess_X1_shrinks : GoodIn wsX1_tillLess (wsV RX1 61 RX1 yX1_shrinks wsX1_shrinks) := goodIn_app (goodIn_of _ (by decide +kernel)) ggX1_tillLess_X1_shrinks
set_option maxRecDepth 20000 in
theorem ggX1_tillLess_X6_share : GoodIn wsX1_tillLess wsX6_share := goodIn_r _ [17, 18, 19, 20, 21, 22, 23, 24, 10, 25] (by decide +kernel) (by decide +kernel)
set_option maxRecDepth 20000 in
theorem gX1_tillLess_X6_share_n71 : GoodIn wsX1_tillLess (wsX6_share) := ggX1_tillLess_X6_share
theorem dX1_tillLess_0 : decode cX1_tillLess 0 = .ok (.lconst 0, 1) := by decide +kernel
theorem dX1_tillLess_1 : decode cX1_tillLess 1 = .ok (.lstore_n 3, 1) := by decide +kernel
theorem dX1_tillLess_2 : decode cX1_tillLess 2 = .ok (.lconst 1, 1) := by decide +kernel
theorem dX1_tillLess_3 : decode cX1_tillLess 3 = .ok (.lstore 5, 2) := by decide +kernel
theorem dX1_tillLess_5 : decode cX1_tillLess 5 = .ok (.iconst 5, 1) := by decide +kernel
theorem dX1_tillLess_6 : decode cX1_tillLess 6 = .ok (.istore 7, 2) := by decide +kernel
theorem dX1_tillLess_8 : decode cX1_tillLess 8 = .ok (.iload 7, 2) := by decide +kernel
theorem dX1_tillLess_10 : decode cX1_tillLess 10 = .ok (.iload_n 1, 1) := by decide +kernel
theorem dX1_tillLess_11 : decode cX1_tillLess 11 = .ok (.if_icmp .lt 41, 3) := by decide +kernel
theorem dX1_tillLess_14 : decode cX1_tillLess 14 = .ok (.bipush 12, 2) := by decide +kernel
theorem dX1_tillLess_16 : decode cX1_tillLess 16 = .ok (.aload_n 0, 1) := by decide +kernel
theorem dX1_tillLess_17 : decode cX1_tillLess 17 = .ok (.getfield 32, 3) := by decide +kernel
theorem dX1_tillLess_20 : decode cX1_tillLess 20 = .ok (.imul, 1) := by decide +kernel
theorem dX1_tillLess_21 : decode cX1_tillLess 21 = .ok (.i2l, 1) := by decide +kernel
theorem dX1_tillLess_22 : decode cX1_tillLess 22 = .ok (.lload 5, 2) := by decide +kernel
theorem dX1_tillLess_24 : decode cX1_tillLess 24 = .ok (.lmul, 1) := by decide +kernel
theorem dX1_tillLess_25 : decode cX1_tillLess 25 = .ok (.aload_n 0, 1) := by decide +kernel
theorem dX1_tillLess_26 : decode cX1_tillLess 26 = .ok (.iload 7, 2) := by decide +kernel
theorem dX1_tillLess_28 : decode cX1_tillLess 28 = .ok (.invokevirtual 54, 3) := by decide +kernel
theorem dX1_tillLess_31 : decode cX1_tillLess 31 = .ok (.lload_n 3, 1) := by decide +kernel
theorem dX1_tillLess_32 : decode cX1_tillLess 32 = .ok (.lmul, 1) := by decide +kernel
theorem dX1_tillLess_33 : decode cX1_tillLess 33 = .ok (.ladd, 1) := by decide +kernel
theorem dX1_tillLess_34 : decode cX1_tillLess 34 = .ok (.lstore_n 3, 1) := by decide +kernel
theorem dX1_tillLess_35 : decode cX1_tillLess 35 = .ok (.aload_n 0, 1) := by decide +kernel
theorem dX1_tillLess_36 : decode cX1_tillLess 36 = .ok (.iload 7, 2) := by decide +kernel
theorem dX1_tillLess_38 : decode cX1_tillLess 38 = .ok (.invokevirtual 61, 3) := by decide +kernel
theorem dX1_tillLess_41 : decode cX1_tillLess 41 = .ok (.lload 5, 2) := by decide +kernel
theorem dX1_tillLess_43 : decode cX1_tillLess 43 = .ok (.lmul, 1) := by decide +kernel
theorem dX1_tillLess_44 : decode cX1_tillLess 44 = .ok (.lstore 5, 2) := by decide +kernel
theorem dX1_tillLess_46 : decode cX1_tillLess 46 = .ok (.iinc 7 (-1), 3) := by decide +kernel
theorem dX1_tillLess_49 : decode cX1_tillLess 49 = .ok (.goto (-41), 3) := by decide +kernel
theorem dX1_tillLess_52 : decode cX1_tillLess 52 = .ok (.lload_n 3, 1) := by decide +kernel
theorem dX1_tillLess_53 : decode cX1_tillLess 53 = .ok (.lload 5, 2) := by decide +kernel
theorem dX1_tillLess_55 : decode cX1_tillLess 55 = .ok (.iload_n 2, 1) := by decide +kernel
theorem dX1_tillLess_56 : decode cX1_tillLess 56 = .ok (.invokestatic 71, 3) := by decide +kernel
theorem dX1_tillLess_59 : decode cX1_tillLess 59 = .ok (.lreturn, 1) := by decide +kernel
set_option maxRecDepth 20000 in
theorem ggX1_afterMinutes_X6_set_ : GoodIn wsX1_afterMinutes wsX6_set_ := goodIn_r _ [5] (by decide +kernel) (by decide +kernel)
set_option maxRecDepth 20000 in
theorem gX1_afterMinutes_X6_set__n51 : GoodIn wsX1_afterMinutes (wsX6_set_) := ggX1_afterMinutes_X6_set_
set_option maxRecDepth 20000 in
theorem ggX1_afterMinutes_X1_goOn : GoodIn wsX1_afterMinutes wsX1_goOn := goodIn_r _ [10, 2, 1, 11, 12, 13, 14, 9, 15, 16, 17, 18, 4, 19, 20, 21, 22, 23, 24, 25, 3, 5, 36, 37, 38, 39, 40, 41, 42] (by decide +kernel) (by decide +kernel)
set_option maxRecDepth 20000 in
theorem gX1_afterMinutes_X1_goOn : GoodIn wsX1_afterMinutes (wsV RX1 75 RX1 yX1_goOn wsX1_goOn) := goodIn_app (goodIn_of _ (by decide +kernel)) ggX1_afterMinutes_X1_goOn
set_option maxRecDepth 20000 in
theorem ggX1_afterMinutes_X6_at_ : GoodIn wsX1_afterMinutes wsX6_at_ := goodIn_r _ [25] (by decide +kernel) (by decide +kernel)
set_option maxRecDepth 20000 in
theorem gX1_afterMinutes_X6_at__n58 : GoodIn wsX1_afterMinutes (wsX6_at_) := ggX1_afterMinutes_X6_at_
set_option maxRecDepth 20000 in
theorem ggX1_afterMinutes_X6_share : GoodIn wsX1_afterMinutes wsX6_share := goodIn_r _ [27, 28, 29, 30, 31, 32, 33, 34, 4, 35] (by decide +kernel) (by decide +kernel)
set_option maxRecDepth 20000 in
theorem gX1_afterMinutes_X6_share_n71 : GoodIn wsX1_afterMinutes (wsX6_share) := ggX1_afterMinutes_X6_share
theorem dX1_afterMinutes_0 : decode cX1_afterMinutes 0 = .ok (.iconst 0, 1) := by decide +kernel
theorem dX1_afterMinutes_1 : decode cX1_afterMinutes 1 = .ok (.istore 5, 2) := by decide +kernel
theorem dX1_afterMinutes_3 : decode cX1_afterMinutes 3 = .ok (.iload 5, 2) := by decide +kernel
theorem dX1_afterMinutes_5 : decode cX1_afterMinutes 5 = .ok (.bipush 6, 2) := by decide +kernel
theorem dX1_afterMinutes_7 : decode cX1_afterMinutes 7 = .ok (.if_icmp .ge 29, 3) := by decide +kernel
theorem dX1_afterMinutes_10 : decode cX1_afterMinutes 10 = .ok (.aload_n 0, 1) := by decide +kernel
theorem dX1_afterMinutes_11 : decode cX1_afterMinutes 11 = .ok (.getfield 19, 3) := by decide +kernel
theorem dX1_afterMinutes_14 : decode cX1_afterMinutes 14 = .ok (.iload 5, 2) := by decide +kernel
theorem dX1_afterMinutes_16 : decode cX1_afterMinutes 16 = .ok (.iload 5, 2) := by decide +kernel
theorem dX1_afterMinutes_18 : decode cX1_afterMinutes 18 = .ok (.iload_n 2, 1) := by decide +kernel
theorem dX1_afterMinutes_19 : decode cX1_afterMinutes 19 = .ok (.if_icmp .ne 7, 3) := by decide +kernel
theorem dX1_afterMinutes_22 : decode cX1_afterMinutes 22 = .ok (.lconst 1, 1) := by decide +kernel
theorem dX1_afterMinutes_23 : decode cX1_afterMinutes 23 = .ok (.goto 4, 3) := by decide +kernel
theorem dX1_afterMinutes_26 : decode cX1_afterMinutes 26 = .ok (.lconst 0, 1) := by decide +kernel
theorem dX1_afterMinutes_27 : decode cX1_afterMinutes 27 = .ok (.invokestatic 51, 3) := by decide +kernel
theorem dX1_afterMinutes_30 : decode cX1_afterMinutes 30 = .ok (.iinc 5 1, 3) := by decide +kernel
theorem dX1_afterMinutes_33 : decode cX1_afterMinutes 33 = .ok (.goto (-30), 3) := by decide +kernel
theorem dX1_afterMinutes_36 : decode cX1_afterMinutes 36 = .ok (.lconst 1, 1) := by decide +kernel
theorem dX1_afterMinutes_37 : decode cX1_afterMinutes 37 = .ok (.lstore 5, 2) := by decide +kernel
theorem dX1_afterMinutes_39 : decode cX1_afterMinutes 39 = .ok (.iconst 0, 1) := by decide +kernel
theorem dX1_afterMinutes_40 : decode cX1_afterMinutes 40 = .ok (.istore 7, 2) := by decide +kernel
theorem dX1_afterMinutes_42 : decode cX1_afterMinutes 42 = .ok (.iload 7, 2) := by decide +kernel
theorem dX1_afterMinutes_44 : decode cX1_afterMinutes 44 = .ok (.iload_n 1, 1) := by decide +kernel
theorem dX1_afterMinutes_45 : decode cX1_afterMinutes 45 = .ok (.if_icmp .ge 26, 3) := by decide +kernel
theorem dX1_afterMinutes_48 : decode cX1_afterMinutes 48 = .ok (.aload_n 0, 1) := by decide +kernel
theorem dX1_afterMinutes_49 : decode cX1_afterMinutes 49 = .ok (.invokevirtual 75, 3) := by decide +kernel
theorem dX1_afterMinutes_52 : decode cX1_afterMinutes 52 = .ok (.lload 5, 2) := by decide +kernel
theorem dX1_afterMinutes_54 : decode cX1_afterMinutes 54 = .ok (.bipush 12, 2) := by decide +kernel
theorem dX1_afterMinutes_56 : decode cX1_afterMinutes 56 = .ok (.aload_n 0, 1) := by decide +kernel
theorem dX1_afterMinutes_57 : decode cX1_afterMinutes 57 = .ok (.getfield 32, 3) := by decide +kernel
theorem dX1_afterMinutes_60 : decode cX1_afterMinutes 60 = .ok (.imul, 1) := by decide +kernel
theorem dX1_afterMinutes_61 : decode cX1_afterMinutes 61 = .ok (.i2l, 1) := by decide +kernel
theorem dX1_afterMinutes_62 : decode cX1_afterMinutes 62 = .ok (.lmul, 1) := by decide +kernel
theorem dX1_afterMinutes_63 : decode cX1_afterMinutes 63 = .ok (.lstore 5, 2) := by decide +kernel
theorem dX1_afterMinutes_65 : decode cX1_afterMinutes 65 = .ok (.iinc 7 1, 3) := by decide +kernel
theorem dX1_afterMinutes_68 : decode cX1_afterMinutes 68 = .ok (.goto (-26), 3) := by decide +kernel
theorem dX1_afterMinutes_71 : decode cX1_afterMinutes 71 = .ok (.aload_n 0, 1) := by decide +kernel
theorem dX1_afterMinutes_72 : decode cX1_afterMinutes 72 = .ok (.getfield 19, 3) := by decide +kernel
theorem dX1_afterMinutes_75 : decode cX1_afterMinutes 75 = .ok (.iload_n 3, 1) := by decide +kernel
theorem dX1_afterMinutes_76 : decode cX1_afterMinutes 76 = .ok (.invokestatic 58, 3) := by decide +kernel
theorem dX1_afterMinutes_79 : decode cX1_afterMinutes 79 = .ok (.lload 5, 2) := by decide +kernel
theorem dX1_afterMinutes_81 : decode cX1_afterMinutes 81 = .ok (.iload 4, 2) := by decide +kernel
theorem dX1_afterMinutes_83 : decode cX1_afterMinutes 83 = .ok (.invokestatic 71, 3) := by decide +kernel
theorem dX1_afterMinutes_86 : decode cX1_afterMinutes 86 = .ok (.lreturn, 1) := by decide +kernel
set_option maxRecDepth 20000 in
theorem ggX1_goOn_X1_grows : GoodIn wsX1_goOn wsX1_grows := goodIn_r _ [8, 9, 10, 11, 12, 13, 22, 23, 24, 25, 26, 27, 28] (by decide +kernel) (by decide +kernel)
set_option maxRecDepth 20000 in
theorem gX1_goOn_X1_grows : GoodIn wsX1_goOn (wsV RX1 54 RX1 yX1_grows wsX1_grows) := goodIn_app (goodIn_of _ (by decide +kernel)) ggX1_goOn_X1_grows
set_option maxRecDepth 20000 in
theorem ggX1_goOn_X1_shrinks : GoodIn wsX1_goOn wsX1_shrinks := goodIn_r _ [17, 9, 1, 10, 11, 12, 13, 22, 23, 24, 25, 26, 27, 28] (by decide +kernel) (by decide +kernel)
set_option maxRecDepth 20000 in
theorem gX1_goOn_X1_shrinks : GoodIn wsX1_goOn (wsV RX1 61 RX1 yX1_shrinks wsX1_shrinks) := goodIn_app (goodIn_of _ (by decide +kernel)) ggX1_goOn_X1_shrinks
set_option maxRecDepth 20000 in
theorem ggX1_goOn_X6_at_ : GoodIn wsX1_goOn wsX6_at_ := goodIn_r _ [19] (by decide +kernel) (by decide +kernel)
set_option maxRecDepth 20000 in
theorem gX1_goOn_X6_at__n58 : GoodIn wsX1_goOn (wsX6_at_) := ggX1_goOn_X6_at_
set_option maxRecDepth 20000 in
theorem ggX1_goOn_X6_set_ : GoodIn wsX1_goOn wsX6_set_ := goodIn_r _ [21] (by decide +kernel) (by decide +kernel)
set_option maxRecDepth 20000 in
theorem gX1_goOn_X6_set__n51 : GoodIn wsX1_goOn (wsX6_set_) := ggX1_goOn_X6_set_
theorem dX1_goOn_0 : decode cX1_goOn 0 = .ok (.iconst 0, 1) := by decide +kernel
theorem dX1_goOn_1 : decode cX1_goOn 1 = .ok (.istore_n 1, 1) := by decide +kernel
theorem dX1_goOn_2 : decode cX1_goOn 2 = .ok (.iload_n 1, 1) := by decide +kernel
theorem dX1_goOn_3 : decode cX1_goOn 3 = .ok (.bipush 6, 2) := by decide +kernel
theorem dX1_goOn_5 : decode cX1_goOn 5 = .ok (.if_icmp .ge 98, 3) := by decide +kernel
theorem dX1_goOn_8 : decode cX1_goOn 8 = .ok (.bipush 12, 2) := by decide +kernel
theorem dX1_goOn_10 : decode cX1_goOn 10 = .ok (.aload_n 0, 1) := by decide +kernel
theorem dX1_goOn_11 : decode cX1_goOn 11 = .ok (.getfield 32, 3) := by decide +kernel
theorem dX1_goOn_14 : decode cX1_goOn 14 = .ok (.imul, 1) := by decide +kernel
theorem dX1_goOn_15 : decode cX1_goOn 15 = .ok (.i2l, 1) := by decide +kernel
theorem dX1_goOn_16 : decode cX1_goOn 16 = .ok (.aload_n 0, 1) := by decide +kernel
theorem dX1_goOn_17 : decode cX1_goOn 17 = .ok (.iload_n 1, 1) := by decide +kernel
theorem dX1_goOn_18 : decode cX1_goOn 18 = .ok (.invokevirtual 54, 3) := by decide +kernel
theorem dX1_goOn_21 : decode cX1_goOn 21 = .ok (.lsub, 1) := by decide +kernel
theorem dX1_goOn_22 : decode cX1_goOn 22 = .ok (.aload_n 0, 1) := by decide +kernel
theorem dX1_goOn_23 : decode cX1_goOn 23 = .ok (.iload_n 1, 1) := by decide +kernel
theorem dX1_goOn_24 : decode cX1_goOn 24 = .ok (.invokevirtual 61, 3) := by decide +kernel
theorem dX1_goOn_27 : decode cX1_goOn 27 = .ok (.lsub, 1) := by decide +kernel
theorem dX1_goOn_28 : decode cX1_goOn 28 = .ok (.lstore_n 2, 1) := by decide +kernel
theorem dX1_goOn_29 : decode cX1_goOn 29 = .ok (.iload_n 1, 1) := by decide +kernel
theorem dX1_goOn_30 : decode cX1_goOn 30 = .ok (.ifCond .le 24, 3) := by decide +kernel
theorem dX1_goOn_33 : decode cX1_goOn 33 = .ok (.aload_n 0, 1) := by decide +kernel
theorem dX1_goOn_34 : decode cX1_goOn 34 = .ok (.getfield 19, 3) := by decide +kernel
theorem dX1_goOn_37 : decode cX1_goOn 37 = .ok (.iload_n 1, 1) := by decide +kernel
theorem dX1_goOn_38 : decode cX1_goOn 38 = .ok (.iconst 1, 1) := by decide +kernel
theorem dX1_goOn_39 : decode cX1_goOn 39 = .ok (.isub, 1) := by decide +kernel
theorem dX1_goOn_40 : decode cX1_goOn 40 = .ok (.invokestatic 58, 3) := by decide +kernel
theorem dX1_goOn_43 : decode cX1_goOn 43 = .ok (.aload_n 0, 1) := by decide +kernel
theorem dX1_goOn_44 : decode cX1_goOn 44 = .ok (.iload_n 1, 1) := by decide +kernel
theorem dX1_goOn_45 : decode cX1_goOn 45 = .ok (.iconst 1, 1) := by decide +kernel
theorem dX1_goOn_46 : decode cX1_goOn 46 = .ok (.isub, 1) := by decide +kernel
theorem dX1_goOn_47 : decode cX1_goOn 47 = .ok (.invokevirtual 54, 3) := by decide +kernel
theorem dX1_goOn_50 : decode cX1_goOn 50 = .ok (.lmul, 1) := by decide +kernel
theorem dX1_goOn_51 : decode cX1_goOn 51 = .ok (.goto 4, 3) := by decide +kernel
theorem dX1_goOn_54 : decode cX1_goOn 54 = .ok (.lconst 0, 1) := by decide +kernel
theorem dX1_goOn_55 : decode cX1_goOn 55 = .ok (.lstore 4, 2) := by decide +kernel
theorem dX1_goOn_57 : decode cX1_goOn 57 = .ok (.aload_n 0, 1) := by decide +kernel
theorem dX1_goOn_58 : decode cX1_goOn 58 = .ok (.getfield 22, 3) := by decide +kernel
theorem dX1_goOn_61 : decode cX1_goOn 61 = .ok (.iload_n 1, 1) := by decide +kernel
theorem dX1_goOn_62 : decode cX1_goOn 62 = .ok (.aload_n 0, 1) := by decide +kernel
theorem dX1_goOn_63 : decode cX1_goOn 63 = .ok (.getfield 19, 3) := by decide +kernel
theorem dX1_goOn_66 : decode cX1_goOn 66 = .ok (.iload_n 1, 1) := by decide +kernel
theorem dX1_goOn_67 : decode cX1_goOn 67 = .ok (.invokestatic 58, 3) := by decide +kernel
theorem dX1_goOn_70 : decode cX1_goOn 70 = .ok (.lload_n 2, 1) := by decide +kernel
theorem dX1_goOn_71 : decode cX1_goOn 71 = .ok (.lmul, 1) := by decide +kernel
theorem dX1_goOn_72 : decode cX1_goOn 72 = .ok (.lload 4, 2) := by decide +kernel
theorem dX1_goOn_74 : decode cX1_goOn 74 = .ok (.ladd, 1) := by decide +kernel
theorem dX1_goOn_75 : decode cX1_goOn 75 = .ok (.aload_n 0, 1) := by decide +kernel
theorem dX1_goOn_76 : decode cX1_goOn 76 = .ok (.getfield 19, 3) := by decide +kernel
theorem dX1_goOn_79 : decode cX1_goOn 79 = .ok (.iload_n 1, 1) := by decide +kernel
theorem dX1_goOn_80 : decode cX1_goOn 80 = .ok (.iconst 1, 1) := by decide +kernel
theorem dX1_goOn_81 : decode cX1_goOn 81 = .ok (.iadd, 1) := by decide +kernel
theorem dX1_goOn_82 : decode cX1_goOn 82 = .ok (.invokestatic 58, 3) := by decide +kernel
theorem dX1_goOn_85 : decode cX1_goOn 85 = .ok (.aload_n 0, 1) := by decide +kernel
theorem dX1_goOn_86 : decode cX1_goOn 86 = .ok (.iload_n 1, 1) := by decide +kernel
theorem dX1_goOn_87 : decode cX1_goOn 87 = .ok (.iconst 1, 1) := by decide +kernel
theorem dX1_goOn_88 : decode cX1_goOn 88 = .ok (.iadd, 1) := by decide +kernel
theorem dX1_goOn_89 : decode cX1_goOn 89 = .ok (.invokevirtual 61, 3) := by decide +kernel
theorem dX1_goOn_92 : decode cX1_goOn 92 = .ok (.lmul, 1) := by decide +kernel
theorem dX1_goOn_93 : decode cX1_goOn 93 = .ok (.ladd, 1) := by decide +kernel
theorem dX1_goOn_94 : decode cX1_goOn 94 = .ok (.invokestatic 51, 3) := by decide +kernel
theorem dX1_goOn_97 : decode cX1_goOn 97 = .ok (.iinc 1 1, 3) := by decide +kernel
theorem dX1_goOn_100 : decode cX1_goOn 100 = .ok (.goto (-98), 3) := by decide +kernel
theorem dX1_goOn_103 : decode cX1_goOn 103 = .ok (.iconst 0, 1) := by decide +kernel
theorem dX1_goOn_104 : decode cX1_goOn 104 = .ok (.istore_n 1, 1) := by decide +kernel
theorem dX1_goOn_105 : decode cX1_goOn 105 = .ok (.iload_n 1, 1) := by decide +kernel
theorem dX1_goOn_106 : decode cX1_goOn 106 = .ok (.bipush 6, 2) := by decide +kernel
theorem dX1_goOn_108 : decode cX1_goOn 108 = .ok (.if_icmp .ge 25, 3) := by decide +kernel
theorem dX1_goOn_111 : decode cX1_goOn 111 = .ok (.aload_n 0, 1) := by decide +kernel
theorem dX1_goOn_112 : decode cX1_goOn 112 = .ok (.getfield 19, 3) := by decide +kernel
theorem dX1_goOn_115 : decode cX1_goOn 115 = .ok (.iload_n 1, 1) := by decide +kernel
theorem dX1_goOn_116 : decode cX1_goOn 116 = .ok (.aload_n 0, 1) := by decide +kernel
theorem dX1_goOn_117 : decode cX1_goOn 117 = .ok (.getfield 22, 3) := by decide +kernel
theorem dX1_goOn_120 : decode cX1_goOn 120 = .ok (.iload_n 1, 1) := by decide +kernel
theorem dX1_goOn_121 : decode cX1_goOn 121 = .ok (.invokestatic 58, 3) := by decide +kernel
theorem dX1_goOn_124 : decode cX1_goOn 124 = .ok (.invokestatic 51, 3) := by decide +kernel
theorem dX1_goOn_127 : decode cX1_goOn 127 = .ok (.iinc 1 1, 3) := by decide +kernel
theorem dX1_goOn_130 : decode cX1_goOn 130 = .ok (.goto (-25), 3) := by decide +kernel
theorem dX1_goOn_133 : decode cX1_goOn 133 = .ok (.return_, 1) := by decide +kernel
theorem dX2_init_0 : decode cX2_init 0 = .ok (.aload_n 0, 1) := by decide +kernel
theorem dX2_init_1 : decode cX2_init 1 = .ok (.invokespecial 3, 3) := by decide +kernel
theorem dX2_init_4 : decode cX2_init 4 = .ok (.aload_n 0, 1) := by decide +kernel
theorem dX2_init_5 : decode cX2_init 5 = .ok (.iconst 3, 1) := by decide +kernel
theorem dX2_init_6 : decode cX2_init 6 = .ok (.newarray .int, 2) := by decide +kernel
theorem dX2_init_8 : decode cX2_init 8 = .ok (.putfield 9, 3) := by decide +kernel
theorem dX2_init_11 : decode cX2_init 11 = .ok (.aload_n 0, 1) := by decide +kernel
theorem dX2_init_12 : decode cX2_init 12 = .ok (.iconst 3, 1) := by decide +kernel
theorem dX2_init_13 : decode cX2_init 13 = .ok (.newarray .int, 2) := by decide +kernel
theorem dX2_init_15 : decode cX2_init 15 = .ok (.putfield 15, 3) := by decide +kernel
theorem dX2_init_18 : decode cX2_init 18 = .ok (.aload_n 0, 1) := by decide +kernel
theorem dX2_init_19 : decode cX2_init 19 = .ok (.iconst 3, 1) := by decide +kernel
theorem dX2_init_20 : decode cX2_init 20 = .ok (.newarray .int, 2) := by decide +kernel
theorem dX2_init_22 : decode cX2_init 22 = .ok (.putfield 18, 3) := by decide +kernel
theorem dX2_init_25 : decode cX2_init 25 = .ok (.return_, 1) := by decide +kernel
set_option maxRecDepth 20000 in
theorem ggX2_becomes_X6_at : GoodIn wsX2_becomes wsX6_at := goodIn_r _ [13] (by decide +kernel) (by decide +kernel)
set_option maxRecDepth 20000 in
theorem gX2_becomes_X6_at_n41 : GoodIn wsX2_becomes (wsX6_at) := ggX2_becomes_X6_at
set_option maxRecDepth 20000 in
theorem ggX2_becomes_X6_set : GoodIn wsX2_becomes wsX6_set := goodIn_r _ [15] (by decide +kernel) (by decide +kernel)
set_option maxRecDepth 20000 in
theorem gX2_becomes_X6_set_n45 : GoodIn wsX2_becomes (wsX6_set) := ggX2_becomes_X6_set
theorem dX2_becomes_0 : decode cX2_becomes 0 = .ok (.aload_n 0, 1) := by decide +kernel
theorem dX2_becomes_1 : decode cX2_becomes 1 = .ok (.iconst 1, 1) := by decide +kernel
theorem dX2_becomes_2 : decode cX2_becomes 2 = .ok (.putfield 21, 3) := by decide +kernel
theorem dX2_becomes_5 : decode cX2_becomes 5 = .ok (.aload_n 0, 1) := by decide +kernel
theorem dX2_becomes_6 : decode cX2_becomes 6 = .ok (.aload_n 1, 1) := by decide +kernel
theorem dX2_becomes_7 : decode cX2_becomes 7 = .ok (.getfield 25, 3) := by decide +kernel
theorem dX2_becomes_10 : decode cX2_becomes 10 = .ok (.putfield 31, 3) := by decide +kernel
theorem dX2_becomes_13 : decode cX2_becomes 13 = .ok (.aload_n 0, 1) := by decide +kernel
theorem dX2_becomes_14 : decode cX2_becomes 14 = .ok (.aload_n 1, 1) := by decide +kernel
theorem dX2_becomes_15 : decode cX2_becomes 15 = .ok (.getfield 32, 3) := by decide +kernel
theorem dX2_becomes_18 : decode cX2_becomes 18 = .ok (.putfield 35, 3) := by decide +kernel
theorem dX2_becomes_21 : decode cX2_becomes 21 = .ok (.aload_n 0, 1) := by decide +kernel
theorem dX2_becomes_22 : decode cX2_becomes 22 = .ok (.aload_n 1, 1) := by decide +kernel
theorem dX2_becomes_23 : decode cX2_becomes 23 = .ok (.getfield 36, 3) := by decide +kernel
theorem dX2_becomes_26 : decode cX2_becomes 26 = .ok (.putfield 39, 3) := by decide +kernel
theorem dX2_becomes_29 : decode cX2_becomes 29 = .ok (.iconst 0, 1) := by decide +kernel
theorem dX2_becomes_30 : decode cX2_becomes 30 = .ok (.istore_n 2, 1) := by decide +kernel
theorem dX2_becomes_31 : decode cX2_becomes 31 = .ok (.iload_n 2, 1) := by decide +kernel
theorem dX2_becomes_32 : decode cX2_becomes 32 = .ok (.iconst 3, 1) := by decide +kernel
theorem dX2_becomes_33 : decode cX2_becomes 33 = .ok (.if_icmp .ge 50, 3) := by decide +kernel
theorem dX2_becomes_36 : decode cX2_becomes 36 = .ok (.aload_n 0, 1) := by decide +kernel
theorem dX2_becomes_37 : decode cX2_becomes 37 = .ok (.getfield 9, 3) := by decide +kernel
theorem dX2_becomes_40 : decode cX2_becomes 40 = .ok (.iload_n 2, 1) := by decide +kernel
theorem dX2_becomes_41 : decode cX2_becomes 41 = .ok (.aload_n 1, 1) := by decide +kernel
theorem dX2_becomes_42 : decode cX2_becomes 42 = .ok (.getfield 40, 3) := by decide +kernel
theorem dX2_becomes_45 : decode cX2_becomes 45 = .ok (.iload_n 2, 1) := by decide +kernel
theorem dX2_becomes_46 : decode cX2_becomes 46 = .ok (.invokestatic 41, 3) := by decide +kernel
theorem dX2_becomes_49 : decode cX2_becomes 49 = .ok (.invokestatic 45, 3) := by decide +kernel
theorem dX2_becomes_52 : decode cX2_becomes 52 = .ok (.aload_n 0, 1) := by decide +kernel
theorem dX2_becomes_53 : decode cX2_becomes 53 = .ok (.getfield 15, 3) := by decide +kernel
theorem dX2_becomes_56 : decode cX2_becomes 56 = .ok (.iload_n 2, 1) := by decide +kernel
theorem dX2_becomes_57 : decode cX2_becomes 57 = .ok (.aload_n 1, 1) := by decide +kernel
theorem dX2_becomes_58 : decode cX2_becomes 58 = .ok (.getfield 49, 3) := by decide +kernel
theorem dX2_becomes_61 : decode cX2_becomes 61 = .ok (.iload_n 2, 1) := by decide +kernel
theorem dX2_becomes_62 : decode cX2_becomes 62 = .ok (.invokestatic 41, 3) := by decide +kernel
theorem dX2_becomes_65 : decode cX2_becomes 65 = .ok (.invokestatic 45, 3) := by decide +kernel
theorem dX2_becomes_68 : decode cX2_becomes 68 = .ok (.aload_n 0, 1) := by decide +kernel
theorem dX2_becomes_69 : decode cX2_becomes 69 = .ok (.getfield 18, 3) := by decide +kernel
theorem dX2_becomes_72 : decode cX2_becomes 72 = .ok (.iload_n 2, 1) := by decide +kernel
theorem dX2_becomes_73 : decode cX2_becomes 73 = .ok (.iconst 0, 1) := by decide +kernel
theorem dX2_becomes_74 : decode cX2_becomes 74 = .ok (.invokestatic 45, 3) := by decide +kernel
theorem dX2_becomes_77 : decode cX2_becomes 77 = .ok (.iinc 2 1, 3) := by decide +kernel
theorem dX2_becomes_80 : decode cX2_becomes 80 = .ok (.goto (-49), 3) := by decide +kernel
theorem dX2_becomes_83 : decode cX2_becomes 83 = .ok (.aload_n 0, 1) := by decide +kernel
theorem dX2_becomes_84 : decode cX2_becomes 84 = .ok (.iconst 0, 1) := by decide +kernel
theorem dX2_becomes_85 : decode cX2_becomes 85 = .ok (.putfield 50, 3) := by decide +kernel
theorem dX2_becomes_88 : decode cX2_becomes 88 = .ok (.aload_n 0, 1) := by decide +kernel
theorem dX2_becomes_89 : decode cX2_becomes 89 = .ok (.iconst 0, 1) := by decide +kernel
theorem dX2_becomes_90 : decode cX2_becomes 90 = .ok (.putfield 53, 3) := by decide +kernel
theorem dX2_becomes_93 : decode cX2_becomes 93 = .ok (.aload_n 0, 1) := by decide +kernel
theorem dX2_becomes_94 : decode cX2_becomes 94 = .ok (.iconst 0, 1) := by decide +kernel
theorem dX2_becomes_95 : decode cX2_becomes 95 = .ok (.putfield 56, 3) := by decide +kernel
theorem dX2_becomes_98 : decode cX2_becomes 98 = .ok (.return_, 1) := by decide +kernel
set_option maxRecDepth 20000 in
theorem ggX2_has_X6_isWithin : GoodIn wsX2_has wsX6_isWithin := goodIn_r _ [4] (by decide +kernel) (by decide +kernel)
set_option maxRecDepth 20000 in
theorem gX2_has_X6_isWithin_n59 : GoodIn wsX2_has (wsX6_isWithin) := ggX2_has_X6_isWithin
theorem dX2_has_0 : decode cX2_has 0 = .ok (.iload_n 1, 1) := by decide +kernel
theorem dX2_has_1 : decode cX2_has 1 = .ok (.iconst 0, 1) := by decide +kernel
theorem dX2_has_2 : decode cX2_has 2 = .ok (.aload_n 0, 1) := by decide +kernel
theorem dX2_has_3 : decode cX2_has 3 = .ok (.getfield 39, 3) := by decide +kernel
theorem dX2_has_6 : decode cX2_has 6 = .ok (.iconst 1, 1) := by decide +kernel
theorem dX2_has_7 : decode cX2_has 7 = .ok (.isub, 1) := by decide +kernel
theorem dX2_has_8 : decode cX2_has 8 = .ok (.invokestatic 59, 3) := by decide +kernel
theorem dX2_has_11 : decode cX2_has 11 = .ok (.ireturn, 1) := by decide +kernel
set_option maxRecDepth 20000 in
theorem ggX2_twelfthsTogether_X6_at : GoodIn wsX2_twelfthsTogether wsX6_at := goodIn_r _ [5] (by decide +kernel) (by decide +kernel)
set_option maxRecDepth 20000 in
theorem gX2_twelfthsTogether_X6_at_n41 : GoodIn wsX2_twelfthsTogether (wsX6_at) := ggX2_twelfthsTogether_X6_at
theorem dX2_twelfthsTogether_0 : decode cX2_twelfthsTogether 0 = .ok (.iconst 0, 1) := by decide +kernel
theorem dX2_twelfthsTogether_1 : decode cX2_twelfthsTogether 1 = .ok (.istore_n 1, 1) := by decide +kernel
theorem dX2_twelfthsTogether_2 : decode cX2_twelfthsTogether 2 = .ok (.iconst 0, 1) := by decide +kernel
theorem dX2_twelfthsTogether_3 : decode cX2_twelfthsTogether 3 = .ok (.istore_n 2, 1) := by decide +kernel
theorem dX2_twelfthsTogether_4 : decode cX2_twelfthsTogether 4 = .ok (.iload_n 2, 1) := by decide +kernel
theorem dX2_twelfthsTogether_5 : decode cX2_twelfthsTogether 5 = .ok (.aload_n 0, 1) := by decide +kernel
theorem dX2_twelfthsTogether_6 : decode cX2_twelfthsTogether 6 = .ok (.getfield 39, 3) := by decide +kernel
theorem dX2_twelfthsTogether_9 : decode cX2_twelfthsTogether 9 = .ok (.if_icmp .ge 20, 3) := by decide +kernel
theorem dX2_twelfthsTogether_12 : decode cX2_twelfthsTogether 12 = .ok (.iload_n 1, 1) := by decide +kernel
theorem dX2_twelfthsTogether_13 : decode cX2_twelfthsTogether 13 = .ok (.aload_n 0, 1) := by decide +kernel
theorem dX2_twelfthsTogether_14 : decode cX2_twelfthsTogether 14 = .ok (.getfield 9, 3) := by decide +kernel
theorem dX2_twelfthsTogether_17 : decode cX2_twelfthsTogether 17 = .ok (.iload_n 2, 1) := by decide +kernel
theorem dX2_twelfthsTogether_18 : decode cX2_twelfthsTogether 18 = .ok (.invokestatic 41, 3) := by decide +kernel
theorem dX2_twelfthsTogether_21 : decode cX2_twelfthsTogether 21 = .ok (.iadd, 1) := by decide +kernel
theorem dX2_twelfthsTogether_22 : decode cX2_twelfthsTogether 22 = .ok (.istore_n 1, 1) := by decide +kernel
theorem dX2_twelfthsTogether_23 : decode cX2_twelfthsTogether 23 = .ok (.iinc 2 1, 3) := by decide +kernel
theorem dX2_twelfthsTogether_26 : decode cX2_twelfthsTogether 26 = .ok (.goto (-22), 3) := by decide +kernel
theorem dX2_twelfthsTogether_29 : decode cX2_twelfthsTogether 29 = .ok (.iload_n 1, 1) := by decide +kernel
theorem dX2_twelfthsTogether_30 : decode cX2_twelfthsTogether 30 = .ok (.ireturn, 1) := by decide +kernel
set_option maxRecDepth 20000 in
theorem ggX2_joining_X6_at : GoodIn wsX2_joining wsX6_at := goodIn_r _ [5] (by decide +kernel) (by decide +kernel)
set_option maxRecDepth 20000 in
theorem gX2_joining_X6_at_n41 : GoodIn wsX2_joining (wsX6_at) := ggX2_joining_X6_at
theorem dX2_joining_0 : decode cX2_joining 0 = .ok (.iconst 0, 1) := by decide +kernel
theorem dX2_joining_1 : decode cX2_joining 1 = .ok (.istore_n 3, 1) := by decide +kernel
theorem dX2_joining_2 : decode cX2_joining 2 = .ok (.iconst 0, 1) := by decide +kernel
theorem dX2_joining_3 : decode cX2_joining 3 = .ok (.istore 4, 2) := by decide +kernel
theorem dX2_joining_5 : decode cX2_joining 5 = .ok (.iload 4, 2) := by decide +kernel
theorem dX2_joining_7 : decode cX2_joining 7 = .ok (.aload_n 0, 1) := by decide +kernel
theorem dX2_joining_8 : decode cX2_joining 8 = .ok (.getfield 39, 3) := by decide +kernel
theorem dX2_joining_11 : decode cX2_joining 11 = .ok (.if_icmp .ge 31, 3) := by decide +kernel
theorem dX2_joining_14 : decode cX2_joining 14 = .ok (.aload_n 1, 1) := by decide +kernel
theorem dX2_joining_15 : decode cX2_joining 15 = .ok (.iload 4, 2) := by decide +kernel
theorem dX2_joining_17 : decode cX2_joining 17 = .ok (.invokestatic 41, 3) := by decide +kernel
theorem dX2_joining_20 : decode cX2_joining 20 = .ok (.iload_n 2, 1) := by decide +kernel
theorem dX2_joining_21 : decode cX2_joining 21 = .ok (.if_icmp .le 15, 3) := by decide +kernel
theorem dX2_joining_24 : decode cX2_joining 24 = .ok (.iload_n 3, 1) := by decide +kernel
theorem dX2_joining_25 : decode cX2_joining 25 = .ok (.aload_n 0, 1) := by decide +kernel
theorem dX2_joining_26 : decode cX2_joining 26 = .ok (.getfield 9, 3) := by decide +kernel
theorem dX2_joining_29 : decode cX2_joining 29 = .ok (.iload 4, 2) := by decide +kernel
theorem dX2_joining_31 : decode cX2_joining 31 = .ok (.invokestatic 41, 3) := by decide +kernel
theorem dX2_joining_34 : decode cX2_joining 34 = .ok (.iadd, 1) := by decide +kernel
theorem dX2_joining_35 : decode cX2_joining 35 = .ok (.istore_n 3, 1) := by decide +kernel
theorem dX2_joining_36 : decode cX2_joining 36 = .ok (.iinc 4 1, 3) := by decide +kernel
theorem dX2_joining_39 : decode cX2_joining 39 = .ok (.goto (-34), 3) := by decide +kernel
theorem dX2_joining_42 : decode cX2_joining 42 = .ok (.iload_n 3, 1) := by decide +kernel
theorem dX2_joining_43 : decode cX2_joining 43 = .ok (.ireturn, 1) := by decide +kernel
set_option maxRecDepth 20000 in
theorem ggX2_sortDrawn_X6_at : GoodIn wsX2_sortDrawn wsX6_at := goodIn_r _ [5] (by decide +kernel) (by decide +kernel)
set_option maxRecDepth 20000 in
theorem gX2_sortDrawn_X6_at_n41 : GoodIn wsX2_sortDrawn (wsX6_at) := ggX2_sortDrawn_X6_at
theorem dX2_sortDrawn_0 : decode cX2_sortDrawn 0 = .ok (.iconst 0, 1) := by decide +kernel
theorem dX2_sortDrawn_1 : decode cX2_sortDrawn 1 = .ok (.istore_n 2, 1) := by decide +kernel
theorem dX2_sortDrawn_2 : decode cX2_sortDrawn 2 = .ok (.iconst 0, 1) := by decide +kernel
theorem dX2_sortDrawn_3 : decode cX2_sortDrawn 3 = .ok (.istore_n 3, 1) := by decide +kernel
theorem dX2_sortDrawn_4 : decode cX2_sortDrawn 4 = .ok (.iload_n 3, 1) := by decide +kernel
theorem dX2_sortDrawn_5 : decode cX2_sortDrawn 5 = .ok (.aload_n 0, 1) := by decide +kernel
theorem dX2_sortDrawn_6 : decode cX2_sortDrawn 6 = .ok (.getfield 39, 3) := by decide +kernel
theorem dX2_sortDrawn_9 : decode cX2_sortDrawn 9 = .ok (.if_icmp .ge 27, 3) := by decide +kernel
theorem dX2_sortDrawn_12 : decode cX2_sortDrawn 12 = .ok (.iload_n 2, 1) := by decide +kernel
theorem dX2_sortDrawn_13 : decode cX2_sortDrawn 13 = .ok (.aload_n 0, 1) := by decide +kernel
theorem dX2_sortDrawn_14 : decode cX2_sortDrawn 14 = .ok (.getfield 9, 3) := by decide +kernel
theorem dX2_sortDrawn_17 : decode cX2_sortDrawn 17 = .ok (.iload_n 3, 1) := by decide +kernel
theorem dX2_sortDrawn_18 : decode cX2_sortDrawn 18 = .ok (.invokestatic 41, 3) := by decide +kernel
theorem dX2_sortDrawn_21 : decode cX2_sortDrawn 21 = .ok (.iadd, 1) := by decide +kernel
theorem dX2_sortDrawn_22 : decode cX2_sortDrawn 22 = .ok (.istore_n 2, 1) := by decide +kernel
theorem dX2_sortDrawn_23 : decode cX2_sortDrawn 23 = .ok (.iload_n 1, 1) := by decide +kernel
theorem dX2_sortDrawn_24 : decode cX2_sortDrawn 24 = .ok (.iload_n 2, 1) := by decide +kernel
theorem dX2_sortDrawn_25 : decode cX2_sortDrawn 25 = .ok (.if_icmp .ge 5, 3) := by decide +kernel
theorem dX2_sortDrawn_28 : decode cX2_sortDrawn 28 = .ok (.iload_n 3, 1) := by decide +kernel
theorem dX2_sortDrawn_29 : decode cX2_sortDrawn 29 = .ok (.ireturn, 1) := by decide +kernel
theorem dX2_sortDrawn_30 : decode cX2_sortDrawn 30 = .ok (.iinc 3 1, 3) := by decide +kernel
theorem dX2_sortDrawn_33 : decode cX2_sortDrawn 33 = .ok (.goto (-29), 3) := by decide +kernel
theorem dX2_sortDrawn_36 : decode cX2_sortDrawn 36 = .ok (.bipush (-9), 2) := by decide +kernel
theorem dX2_sortDrawn_38 : decode cX2_sortDrawn 38 = .ok (.ireturn, 1) := by decide +kernel
theorem dX2_minutesAsTold_0 : decode cX2_minutesAsTold 0 = .ok (.bipush 12, 2) := by decide +kernel
theorem dX2_minutesAsTold_2 : decode cX2_minutesAsTold 2 = .ok (.iload_n 1, 1) := by decide +kernel
theorem dX2_minutesAsTold_3 : decode cX2_minutesAsTold 3 = .ok (.iconst 1, 1) := by decide +kernel
theorem dX2_minutesAsTold_4 : decode cX2_minutesAsTold 4 = .ok (.iadd, 1) := by decide +kernel
theorem dX2_minutesAsTold_5 : decode cX2_minutesAsTold 5 = .ok (.imul, 1) := by decide +kernel
theorem dX2_minutesAsTold_6 : decode cX2_minutesAsTold 6 = .ok (.istore_n 2, 1) := by decide +kernel
theorem dX2_minutesAsTold_7 : decode cX2_minutesAsTold 7 = .ok (.aload_n 0, 1) := by decide +kernel
theorem dX2_minutesAsTold_8 : decode cX2_minutesAsTold 8 = .ok (.getfield 31, 3) := by decide +kernel
theorem dX2_minutesAsTold_11 : decode cX2_minutesAsTold 11 = .ok (.iconst 1, 1) := by decide +kernel
theorem dX2_minutesAsTold_12 : decode cX2_minutesAsTold 12 = .ok (.if_icmp .ge 5, 3) := by decide +kernel
theorem dX2_minutesAsTold_15 : decode cX2_minutesAsTold 15 = .ok (.iconst 0, 1) := by decide +kernel
theorem dX2_minutesAsTold_16 : decode cX2_minutesAsTold 16 = .ok (.ireturn, 1) := by decide +kernel
theorem dX2_minutesAsTold_17 : decode cX2_minutesAsTold 17 = .ok (.aload_n 0, 1) := by decide +kernel
theorem dX2_minutesAsTold_18 : decode cX2_minutesAsTold 18 = .ok (.getfield 53, 3) := by decide +kernel
theorem dX2_minutesAsTold_21 : decode cX2_minutesAsTold 21 = .ok (.iconst 1, 1) := by decide +kernel
theorem dX2_minutesAsTold_22 : decode cX2_minutesAsTold 22 = .ok (.if_icmp .ge 10, 3) := by decide +kernel
theorem dX2_minutesAsTold_25 : decode cX2_minutesAsTold 25 = .ok (.iload_n 2, 1) := by decide +kernel
theorem dX2_minutesAsTold_26 : decode cX2_minutesAsTold 26 = .ok (.aload_n 0, 1) := by decide +kernel
theorem dX2_minutesAsTold_27 : decode cX2_minutesAsTold 27 = .ok (.getfield 31, 3) := by decide +kernel
theorem dX2_minutesAsTold_30 : decode cX2_minutesAsTold 30 = .ok (.idiv, 1) := by decide +kernel
theorem dX2_minutesAsTold_31 : decode cX2_minutesAsTold 31 = .ok (.ireturn, 1) := by decide +kernel
theorem dX2_minutesAsTold_32 : decode cX2_minutesAsTold 32 = .ok (.aload_n 0, 1) := by decide +kernel
theorem dX2_minutesAsTold_33 : decode cX2_minutesAsTold 33 = .ok (.getfield 31, 3) := by decide +kernel
theorem dX2_minutesAsTold_36 : decode cX2_minutesAsTold 36 = .ok (.aload_n 0, 1) := by decide +kernel
theorem dX2_minutesAsTold_37 : decode cX2_minutesAsTold 37 = .ok (.getfield 53, 3) := by decide +kernel
theorem dX2_minutesAsTold_40 : decode cX2_minutesAsTold 40 = .ok (.imul, 1) := by decide +kernel
theorem dX2_minutesAsTold_41 : decode cX2_minutesAsTold 41 = .ok (.istore_n 3, 1) := by decide +kernel
theorem dX2_minutesAsTold_42 : decode cX2_minutesAsTold 42 = .ok (.iload_n 3, 1) := by decide +kernel
theorem dX2_minutesAsTold_43 : decode cX2_minutesAsTold 43 = .ok (.iconst 1, 1) := by decide +kernel
theorem dX2_minutesAsTold_44 : decode cX2_minutesAsTold 44 = .ok (.if_icmp .ge 5, 3) := by decide +kernel
theorem dX2_minutesAsTold_47 : decode cX2_minutesAsTold 47 = .ok (.iconst 0, 1) := by decide +kernel
theorem dX2_minutesAsTold_48 : decode cX2_minutesAsTold 48 = .ok (.ireturn, 1) := by decide +kernel
theorem dX2_minutesAsTold_49 : decode cX2_minutesAsTold 49 = .ok (.iconst 0, 1) := by decide +kernel
theorem dX2_minutesAsTold_50 : decode cX2_minutesAsTold 50 = .ok (.aload_n 0, 1) := by decide +kernel
theorem dX2_minutesAsTold_51 : decode cX2_minutesAsTold 51 = .ok (.getfield 53, 3) := by decide +kernel
theorem dX2_minutesAsTold_54 : decode cX2_minutesAsTold 54 = .ok (.iload_n 2, 1) := by decide +kernel
theorem dX2_minutesAsTold_55 : decode cX2_minutesAsTold 55 = .ok (.iload_n 3, 1) := by decide +kernel
theorem dX2_minutesAsTold_56 : decode cX2_minutesAsTold 56 = .ok (.iadd, 1) := by decide +kernel
theorem dX2_minutesAsTold_57 : decode cX2_minutesAsTold 57 = .ok (.iconst 1, 1) := by decide +kernel
theorem dX2_minutesAsTold_58 : decode cX2_minutesAsTold 58 = .ok (.isub, 1) := by decide +kernel
theorem dX2_minutesAsTold_59 : decode cX2_minutesAsTold 59 = .ok (.iload_n 3, 1) := by decide +kernel
theorem dX2_minutesAsTold_60 : decode cX2_minutesAsTold 60 = .ok (.idiv, 1) := by decide +kernel
theorem dX2_minutesAsTold_61 : decode cX2_minutesAsTold 61 = .ok (.imul, 1) := by decide +kernel
theorem dX2_minutesAsTold_62 : decode cX2_minutesAsTold 62 = .ok (.aload_n 0, 1) := by decide +kernel
theorem dX2_minutesAsTold_63 : decode cX2_minutesAsTold 63 = .ok (.getfield 56, 3) := by decide +kernel
theorem dX2_minutesAsTold_66 : decode cX2_minutesAsTold 66 = .ok (.iadd, 1) := by decide +kernel
theorem dX2_minutesAsTold_67 : decode cX2_minutesAsTold 67 = .ok (.invokestatic 63, 3) := by decide +kernel
theorem dX2_minutesAsTold_70 : decode cX2_minutesAsTold 70 = .ok (.ireturn, 1) := by decide +kernel
set_option maxRecDepth 20000 in
theorem ggX2_hisBar_X2_hisBarUnseen : GoodIn wsX2_hisBar wsX2_hisBarUnseen := goodIn_r _ [9, 3, 10, 4, 11, 12, 13, 23, 24, 25, 26, 27, 28, 29, 30, 31, 32] (by decide +kernel) (by decide +kernel)
set_option maxRecDepth 20000 in
theorem gX2_hisBar_X2_hisBarUnseen : GoodIn wsX2_hisBar (wsV RX2 69 RX2 yX2_hisBarUnseen wsX2_hisBarUnseen) := goodIn_app (goodIn_of _ (by decide +kernel)) ggX2_hisBar_X2_hisBarUnseen
set_option maxRecDepth 20000 in
theorem ggX2_hisBar_X6_at : GoodIn wsX2_hisBar wsX6_at := goodIn_r _ [13] (by decide +kernel) (by decide +kernel)
set_option maxRecDepth 20000 in
theorem gX2_hisBar_X6_at_n41 : GoodIn wsX2_hisBar (wsX6_at) := ggX2_hisBar_X6_at
set_option maxRecDepth 20000 in
theorem ggX2_hisBar_X2_minutesAsTold : GoodIn wsX2_hisBar wsX2_minutesAsTold := goodIn_r _ [17, 10, 1, 18, 19, 20, 21, 22, 23, 24, 25, 26, 27, 28, 29, 30, 31, 32] (by decide +kernel) (by decide +kernel)
set_option maxRecDepth 20000 in
theorem gX2_hisBar_X2_minutesAsTold : GoodIn wsX2_hisBar (wsV RX2 72 RX2 yX2_minutesAsTold wsX2_minutesAsTold) := goodIn_app (goodIn_of _ (by decide +kernel)) ggX2_hisBar_X2_minutesAsTold
theorem dX2_hisBar_0 : decode cX2_hisBar 0 = .ok (.aload_n 0, 1) := by decide +kernel
theorem dX2_hisBar_1 : decode cX2_hisBar 1 = .ok (.getfield 53, 3) := by decide +kernel
theorem dX2_hisBar_4 : decode cX2_hisBar 4 = .ok (.ifCond .ne 13, 3) := by decide +kernel
theorem dX2_hisBar_7 : decode cX2_hisBar 7 = .ok (.aload_n 0, 1) := by decide +kernel
theorem dX2_hisBar_8 : decode cX2_hisBar 8 = .ok (.iload_n 1, 1) := by decide +kernel
theorem dX2_hisBar_9 : decode cX2_hisBar 9 = .ok (.aload_n 0, 1) := by decide +kernel
theorem dX2_hisBar_10 : decode cX2_hisBar 10 = .ok (.getfield 50, 3) := by decide +kernel
theorem dX2_hisBar_13 : decode cX2_hisBar 13 = .ok (.invokevirtual 69, 3) := by decide +kernel
theorem dX2_hisBar_16 : decode cX2_hisBar 16 = .ok (.ireturn, 1) := by decide +kernel
theorem dX2_hisBar_17 : decode cX2_hisBar 17 = .ok (.iconst 5, 1) := by decide +kernel
theorem dX2_hisBar_18 : decode cX2_hisBar 18 = .ok (.istore_n 2, 1) := by decide +kernel
theorem dX2_hisBar_19 : decode cX2_hisBar 19 = .ok (.iload_n 2, 1) := by decide +kernel
theorem dX2_hisBar_20 : decode cX2_hisBar 20 = .ok (.ifCond .le 39, 3) := by decide +kernel
theorem dX2_hisBar_23 : decode cX2_hisBar 23 = .ok (.aload_n 0, 1) := by decide +kernel
theorem dX2_hisBar_24 : decode cX2_hisBar 24 = .ok (.getfield 15, 3) := by decide +kernel
theorem dX2_hisBar_27 : decode cX2_hisBar 27 = .ok (.iload_n 1, 1) := by decide +kernel
theorem dX2_hisBar_28 : decode cX2_hisBar 28 = .ok (.invokestatic 41, 3) := by decide +kernel
theorem dX2_hisBar_31 : decode cX2_hisBar 31 = .ok (.aload_n 0, 1) := by decide +kernel
theorem dX2_hisBar_32 : decode cX2_hisBar 32 = .ok (.getfield 50, 3) := by decide +kernel
theorem dX2_hisBar_35 : decode cX2_hisBar 35 = .ok (.isub, 1) := by decide +kernel
theorem dX2_hisBar_36 : decode cX2_hisBar 36 = .ok (.aload_n 0, 1) := by decide +kernel
theorem dX2_hisBar_37 : decode cX2_hisBar 37 = .ok (.getfield 35, 3) := by decide +kernel
theorem dX2_hisBar_40 : decode cX2_hisBar 40 = .ok (.aload_n 0, 1) := by decide +kernel
theorem dX2_hisBar_41 : decode cX2_hisBar 41 = .ok (.iload_n 2, 1) := by decide +kernel
theorem dX2_hisBar_42 : decode cX2_hisBar 42 = .ok (.iconst 1, 1) := by decide +kernel
theorem dX2_hisBar_43 : decode cX2_hisBar 43 = .ok (.isub, 1) := by decide +kernel
theorem dX2_hisBar_44 : decode cX2_hisBar 44 = .ok (.invokevirtual 72, 3) := by decide +kernel
theorem dX2_hisBar_47 : decode cX2_hisBar 47 = .ok (.imul, 1) := by decide +kernel
theorem dX2_hisBar_48 : decode cX2_hisBar 48 = .ok (.if_icmp .lt 5, 3) := by decide +kernel
theorem dX2_hisBar_51 : decode cX2_hisBar 51 = .ok (.iload_n 2, 1) := by decide +kernel
theorem dX2_hisBar_52 : decode cX2_hisBar 52 = .ok (.ireturn, 1) := by decide +kernel
theorem dX2_hisBar_53 : decode cX2_hisBar 53 = .ok (.iinc 2 (-1), 3) := by decide +kernel
theorem dX2_hisBar_56 : decode cX2_hisBar 56 = .ok (.goto (-37), 3) := by decide +kernel
theorem dX2_hisBar_59 : decode cX2_hisBar 59 = .ok (.iconst 0, 1) := by decide +kernel
theorem dX2_hisBar_60 : decode cX2_hisBar 60 = .ok (.ireturn, 1) := by decide +kernel
set_option maxRecDepth 20000 in
theorem ggX2_hisBarUnseen_X6_at : GoodIn wsX2_hisBarUnseen wsX6_at := goodIn_r _ [6] (by decide +kernel) (by decide +kernel)
set_option maxRecDepth 20000 in
theorem gX2_hisBarUnseen_X6_at_n41 : GoodIn wsX2_hisBarUnseen (wsX6_at) := ggX2_hisBarUnseen_X6_at
theorem dX2_hisBarUnseen_0 : decode cX2_hisBarUnseen 0 = .ok (.iconst 5, 1) := by decide +kernel
theorem dX2_hisBarUnseen_1 : decode cX2_hisBarUnseen 1 = .ok (.istore_n 3, 1) := by decide +kernel
theorem dX2_hisBarUnseen_2 : decode cX2_hisBarUnseen 2 = .ok (.iload_n 3, 1) := by decide +kernel
theorem dX2_hisBarUnseen_3 : decode cX2_hisBarUnseen 3 = .ok (.ifCond .le 38, 3) := by decide +kernel
theorem dX2_hisBarUnseen_6 : decode cX2_hisBarUnseen 6 = .ok (.aload_n 0, 1) := by decide +kernel
theorem dX2_hisBarUnseen_7 : decode cX2_hisBarUnseen 7 = .ok (.getfield 15, 3) := by decide +kernel
theorem dX2_hisBarUnseen_10 : decode cX2_hisBarUnseen 10 = .ok (.iload_n 1, 1) := by decide +kernel
theorem dX2_hisBarUnseen_11 : decode cX2_hisBarUnseen 11 = .ok (.invokestatic 41, 3) := by decide +kernel
theorem dX2_hisBarUnseen_14 : decode cX2_hisBarUnseen 14 = .ok (.iload_n 2, 1) := by decide +kernel
theorem dX2_hisBarUnseen_15 : decode cX2_hisBarUnseen 15 = .ok (.isub, 1) := by decide +kernel
theorem dX2_hisBarUnseen_16 : decode cX2_hisBarUnseen 16 = .ok (.aload_n 0, 1) := by decide +kernel
theorem dX2_hisBarUnseen_17 : decode cX2_hisBarUnseen 17 = .ok (.getfield 31, 3) := by decide +kernel
theorem dX2_hisBarUnseen_20 : decode cX2_hisBarUnseen 20 = .ok (.imul, 1) := by decide +kernel
theorem dX2_hisBarUnseen_21 : decode cX2_hisBarUnseen 21 = .ok (.aload_n 0, 1) := by decide +kernel
theorem dX2_hisBarUnseen_22 : decode cX2_hisBarUnseen 22 = .ok (.getfield 35, 3) := by decide +kernel
theorem dX2_hisBarUnseen_25 : decode cX2_hisBarUnseen 25 = .ok (.bipush 12, 2) := by decide +kernel
theorem dX2_hisBarUnseen_27 : decode cX2_hisBarUnseen 27 = .ok (.imul, 1) := by decide +kernel
theorem dX2_hisBarUnseen_28 : decode cX2_hisBarUnseen 28 = .ok (.iload_n 3, 1) := by decide +kernel
theorem dX2_hisBarUnseen_29 : decode cX2_hisBarUnseen 29 = .ok (.imul, 1) := by decide +kernel
theorem dX2_hisBarUnseen_30 : decode cX2_hisBarUnseen 30 = .ok (.if_icmp .lt 5, 3) := by decide +kernel
theorem dX2_hisBarUnseen_33 : decode cX2_hisBarUnseen 33 = .ok (.iload_n 3, 1) := by decide +kernel
theorem dX2_hisBarUnseen_34 : decode cX2_hisBarUnseen 34 = .ok (.ireturn, 1) := by decide +kernel
theorem dX2_hisBarUnseen_35 : decode cX2_hisBarUnseen 35 = .ok (.iinc 3 (-1), 3) := by decide +kernel
theorem dX2_hisBarUnseen_38 : decode cX2_hisBarUnseen 38 = .ok (.goto (-36), 3) := by decide +kernel
theorem dX2_hisBarUnseen_41 : decode cX2_hisBarUnseen 41 = .ok (.iconst 0, 1) := by decide +kernel
theorem dX2_hisBarUnseen_42 : decode cX2_hisBarUnseen 42 = .ok (.ireturn, 1) := by decide +kernel
theorem dX3_init_0 : decode cX3_init 0 = .ok (.aload_n 0, 1) := by decide +kernel
theorem dX3_init_1 : decode cX3_init 1 = .ok (.invokespecial 3, 3) := by decide +kernel
theorem dX3_init_4 : decode cX3_init 4 = .ok (.aload_n 0, 1) := by decide +kernel
theorem dX3_init_5 : decode cX3_init 5 = .ok (.bipush 40, 2) := by decide +kernel
theorem dX3_init_7 : decode cX3_init 7 = .ok (.newarray .int, 2) := by decide +kernel
theorem dX3_init_9 : decode cX3_init 9 = .ok (.putfield 9, 3) := by decide +kernel
theorem dX3_init_12 : decode cX3_init 12 = .ok (.aload_n 0, 1) := by decide +kernel
theorem dX3_init_13 : decode cX3_init 13 = .ok (.bipush 40, 2) := by decide +kernel
theorem dX3_init_15 : decode cX3_init 15 = .ok (.newarray .int, 2) := by decide +kernel
theorem dX3_init_17 : decode cX3_init 17 = .ok (.putfield 15, 3) := by decide +kernel
theorem dX3_init_20 : decode cX3_init 20 = .ok (.aload_n 0, 1) := by decide +kernel
theorem dX3_init_21 : decode cX3_init 21 = .ok (.bipush 40, 2) := by decide +kernel
theorem dX3_init_23 : decode cX3_init 23 = .ok (.newarray .int, 2) := by decide +kernel
theorem dX3_init_25 : decode cX3_init 25 = .ok (.putfield 18, 3) := by decide +kernel
theorem dX3_init_28 : decode cX3_init 28 = .ok (.aload_n 0, 1) := by decide +kernel
theorem dX3_init_29 : decode cX3_init 29 = .ok (.bipush 40, 2) := by decide +kernel
theorem dX3_init_31 : decode cX3_init 31 = .ok (.newarray .int, 2) := by decide +kernel
theorem dX3_init_33 : decode cX3_init 33 = .ok (.putfield 21, 3) := by decide +kernel
theorem dX3_init_36 : decode cX3_init 36 = .ok (.aload_n 0, 1) := by decide +kernel
theorem dX3_init_37 : decode cX3_init 37 = .ok (.bipush 40, 2) := by decide +kernel
theorem dX3_init_39 : decode cX3_init 39 = .ok (.newarray .int, 2) := by decide +kernel
theorem dX3_init_41 : decode cX3_init 41 = .ok (.putfield 24, 3) := by decide +kernel
theorem dX3_init_44 : decode cX3_init 44 = .ok (.aload_n 0, 1) := by decide +kernel
theorem dX3_init_45 : decode cX3_init 45 = .ok (.iconst 5, 1) := by decide +kernel
theorem dX3_init_46 : decode cX3_init 46 = .ok (.newarray .int, 2) := by decide +kernel
theorem dX3_init_48 : decode cX3_init 48 = .ok (.putfield 27, 3) := by decide +kernel
theorem dX3_init_51 : decode cX3_init 51 = .ok (.return_, 1) := by decide +kernel
theorem dX3_empties_0 : decode cX3_empties 0 = .ok (.aload_n 0, 1) := by decide +kernel
theorem dX3_empties_1 : decode cX3_empties 1 = .ok (.iconst 0, 1) := by decide +kernel
theorem dX3_empties_2 : decode cX3_empties 2 = .ok (.putfield 30, 3) := by decide +kernel
theorem dX3_empties_5 : decode cX3_empties 5 = .ok (.aload_n 0, 1) := by decide +kernel
theorem dX3_empties_6 : decode cX3_empties 6 = .ok (.iconst 0, 1) := by decide +kernel
theorem dX3_empties_7 : decode cX3_empties 7 = .ok (.putfield 34, 3) := by decide +kernel
theorem dX3_empties_10 : decode cX3_empties 10 = .ok (.aload_n 0, 1) := by decide +kernel
theorem dX3_empties_11 : decode cX3_empties 11 = .ok (.iconst 0, 1) := by decide +kernel
theorem dX3_empties_12 : decode cX3_empties 12 = .ok (.putfield 37, 3) := by decide +kernel
theorem dX3_empties_15 : decode cX3_empties 15 = .ok (.return_, 1) := by decide +kernel
set_option maxRecDepth 20000 in
theorem ggX3_has_X6_isWithin : GoodIn wsX3_has wsX6_isWithin := goodIn_r _ [4] (by decide +kernel) (by decide +kernel)
set_option maxRecDepth 20000 in
theorem gX3_has_X6_isWithin_n40 : GoodIn wsX3_has (wsX6_isWithin) := ggX3_has_X6_isWithin
theorem dX3_has_0 : decode cX3_has 0 = .ok (.iload_n 1, 1) := by decide +kernel
theorem dX3_has_1 : decode cX3_has 1 = .ok (.iconst 0, 1) := by decide +kernel
theorem dX3_has_2 : decode cX3_has 2 = .ok (.aload_n 0, 1) := by decide +kernel
theorem dX3_has_3 : decode cX3_has 3 = .ok (.getfield 30, 3) := by decide +kernel
theorem dX3_has_6 : decode cX3_has 6 = .ok (.iconst 1, 1) := by decide +kernel
theorem dX3_has_7 : decode cX3_has 7 = .ok (.isub, 1) := by decide +kernel
theorem dX3_has_8 : decode cX3_has 8 = .ok (.invokestatic 40, 3) := by decide +kernel
theorem dX3_has_11 : decode cX3_has 11 = .ok (.ireturn, 1) := by decide +kernel
theorem dX3_isFull_0 : decode cX3_isFull 0 = .ok (.aload_n 0, 1) := by decide +kernel
theorem dX3_isFull_1 : decode cX3_isFull 1 = .ok (.getfield 30, 3) := by decide +kernel
theorem dX3_isFull_4 : decode cX3_isFull 4 = .ok (.bipush 40, 2) := by decide +kernel
theorem dX3_isFull_6 : decode cX3_isFull 6 = .ok (.if_icmp .lt 7, 3) := by decide +kernel
theorem dX3_isFull_9 : decode cX3_isFull 9 = .ok (.iconst 1, 1) := by decide +kernel
theorem dX3_isFull_10 : decode cX3_isFull 10 = .ok (.goto 4, 3) := by decide +kernel
theorem dX3_isFull_13 : decode cX3_isFull 13 = .ok (.iconst 0, 1) := by decide +kernel
theorem dX3_isFull_14 : decode cX3_isFull 14 = .ok (.ireturn, 1) := by decide +kernel
set_option maxRecDepth 20000 in
theorem ggX3_allWait_X6_at : GoodIn wsX3_allWait wsX6_at := goodIn_r _ [6] (by decide +kernel) (by decide +kernel)
set_option maxRecDepth 20000 in
theorem gX3_allWait_X6_at_n44 : GoodIn wsX3_allWait (wsX6_at) := ggX3_allWait_X6_at
set_option maxRecDepth 20000 in
theorem ggX3_allWait_X6_set : GoodIn wsX3_allWait wsX6_set := goodIn_r _ [8] (by decide +kernel) (by decide +kernel)
set_option maxRecDepth 20000 in
theorem gX3_allWait_X6_set_n48 : GoodIn wsX3_allWait (wsX6_set) := ggX3_allWait_X6_set
theorem dX3_allWait_0 : decode cX3_allWait 0 = .ok (.iconst 0, 1) := by decide +kernel
theorem dX3_allWait_1 : decode cX3_allWait 1 = .ok (.istore_n 1, 1) := by decide +kernel
theorem dX3_allWait_2 : decode cX3_allWait 2 = .ok (.iload_n 1, 1) := by decide +kernel
theorem dX3_allWait_3 : decode cX3_allWait 3 = .ok (.aload_n 0, 1) := by decide +kernel
theorem dX3_allWait_4 : decode cX3_allWait 4 = .ok (.getfield 34, 3) := by decide +kernel
theorem dX3_allWait_7 : decode cX3_allWait 7 = .ok (.if_icmp .ge 36, 3) := by decide +kernel
theorem dX3_allWait_10 : decode cX3_allWait 10 = .ok (.aload_n 0, 1) := by decide +kernel
theorem dX3_allWait_11 : decode cX3_allWait 11 = .ok (.getfield 27, 3) := by decide +kernel
theorem dX3_allWait_14 : decode cX3_allWait 14 = .ok (.iload_n 1, 1) := by decide +kernel
theorem dX3_allWait_15 : decode cX3_allWait 15 = .ok (.invokestatic 44, 3) := by decide +kernel
theorem dX3_allWait_18 : decode cX3_allWait 18 = .ok (.istore_n 2, 1) := by decide +kernel
theorem dX3_allWait_19 : decode cX3_allWait 19 = .ok (.aload_n 0, 1) := by decide +kernel
theorem dX3_allWait_20 : decode cX3_allWait 20 = .ok (.getfield 18, 3) := by decide +kernel
theorem dX3_allWait_23 : decode cX3_allWait 23 = .ok (.iload_n 2, 1) := by decide +kernel
theorem dX3_allWait_24 : decode cX3_allWait 24 = .ok (.aload_n 0, 1) := by decide +kernel
theorem dX3_allWait_25 : decode cX3_allWait 25 = .ok (.getfield 18, 3) := by decide +kernel
theorem dX3_allWait_28 : decode cX3_allWait 28 = .ok (.iload_n 2, 1) := by decide +kernel
theorem dX3_allWait_29 : decode cX3_allWait 29 = .ok (.invokestatic 44, 3) := by decide +kernel
theorem dX3_allWait_32 : decode cX3_allWait 32 = .ok (.iconst 1, 1) := by decide +kernel
theorem dX3_allWait_33 : decode cX3_allWait 33 = .ok (.iadd, 1) := by decide +kernel
theorem dX3_allWait_34 : decode cX3_allWait 34 = .ok (.invokestatic 48, 3) := by decide +kernel
theorem dX3_allWait_37 : decode cX3_allWait 37 = .ok (.iinc 1 1, 3) := by decide +kernel
theorem dX3_allWait_40 : decode cX3_allWait 40 = .ok (.goto (-38), 3) := by decide +kernel
theorem dX3_allWait_43 : decode cX3_allWait 43 = .ok (.return_, 1) := by decide +kernel
set_option maxRecDepth 20000 in
theorem ggX3_nextBy_X3_worthOf : GoodIn wsX3_nextBy wsX3_worthOf := goodIn_r _ [6, 7, 8, 9, 10, 11, 21, 22, 23, 24, 25, 26, 27, 28, 29, 30, 12, 13, 14, 15, 16, 17, 18, 19, 20] (by decide +kernel) (by decide +kernel)
set_option maxRecDepth 20000 in
theorem gX3_nextBy_X3_worthOf : GoodIn wsX3_nextBy (wsV RX3 52 RX3 yX3_worthOf wsX3_worthOf) := goodIn_app (goodIn_of _ (by decide +kernel)) ggX3_nextBy_X3_worthOf
theorem dX3_nextBy_0 : decode cX3_nextBy 0 = .ok (.iload_n 1, 1) := by decide +kernel
theorem dX3_nextBy_1 : decode cX3_nextBy 1 = .ok (.ifCond .ne 5, 3) := by decide +kernel
theorem dX3_nextBy_4 : decode cX3_nextBy 4 = .ok (.iconst 0, 1) := by decide +kernel
theorem dX3_nextBy_5 : decode cX3_nextBy 5 = .ok (.ireturn, 1) := by decide +kernel
theorem dX3_nextBy_6 : decode cX3_nextBy 6 = .ok (.iload_n 1, 1) := by decide +kernel
theorem dX3_nextBy_7 : decode cX3_nextBy 7 = .ok (.iconst 1, 1) := by decide +kernel
theorem dX3_nextBy_8 : decode cX3_nextBy 8 = .ok (.if_icmp .ne 10, 3) := by decide +kernel
theorem dX3_nextBy_11 : decode cX3_nextBy 11 = .ok (.aload_n 0, 1) := by decide +kernel
theorem dX3_nextBy_12 : decode cX3_nextBy 12 = .ok (.getfield 34, 3) := by decide +kernel
theorem dX3_nextBy_15 : decode cX3_nextBy 15 = .ok (.iconst 1, 1) := by decide +kernel
theorem dX3_nextBy_16 : decode cX3_nextBy 16 = .ok (.isub, 1) := by decide +kernel
theorem dX3_nextBy_17 : decode cX3_nextBy 17 = .ok (.ireturn, 1) := by decide +kernel
theorem dX3_nextBy_18 : decode cX3_nextBy 18 = .ok (.iconst 0, 1) := by decide +kernel
theorem dX3_nextBy_19 : decode cX3_nextBy 19 = .ok (.istore_n 3, 1) := by decide +kernel
theorem dX3_nextBy_20 : decode cX3_nextBy 20 = .ok (.iconst 1, 1) := by decide +kernel
theorem dX3_nextBy_21 : decode cX3_nextBy 21 = .ok (.istore 4, 2) := by decide +kernel
theorem dX3_nextBy_23 : decode cX3_nextBy 23 = .ok (.iload 4, 2) := by decide +kernel
theorem dX3_nextBy_25 : decode cX3_nextBy 25 = .ok (.aload_n 0, 1) := by decide +kernel
theorem dX3_nextBy_26 : decode cX3_nextBy 26 = .ok (.getfield 34, 3) := by decide +kernel
theorem dX3_nextBy_29 : decode cX3_nextBy 29 = .ok (.if_icmp .ge 28, 3) := by decide +kernel
theorem dX3_nextBy_32 : decode cX3_nextBy 32 = .ok (.aload_n 0, 1) := by decide +kernel
theorem dX3_nextBy_33 : decode cX3_nextBy 33 = .ok (.iload 4, 2) := by decide +kernel
theorem dX3_nextBy_35 : decode cX3_nextBy 35 = .ok (.aload_n 2, 1) := by decide +kernel
theorem dX3_nextBy_36 : decode cX3_nextBy 36 = .ok (.invokevirtual 52, 3) := by decide +kernel
theorem dX3_nextBy_39 : decode cX3_nextBy 39 = .ok (.aload_n 0, 1) := by decide +kernel
theorem dX3_nextBy_40 : decode cX3_nextBy 40 = .ok (.iload_n 3, 1) := by decide +kernel
theorem dX3_nextBy_41 : decode cX3_nextBy 41 = .ok (.aload_n 2, 1) := by decide +kernel
theorem dX3_nextBy_42 : decode cX3_nextBy 42 = .ok (.invokevirtual 52, 3) := by decide +kernel
theorem dX3_nextBy_45 : decode cX3_nextBy 45 = .ok (.if_icmp .le 6, 3) := by decide +kernel
theorem dX3_nextBy_48 : decode cX3_nextBy 48 = .ok (.iload 4, 2) := by decide +kernel
theorem dX3_nextBy_50 : decode cX3_nextBy 50 = .ok (.istore_n 3, 1) := by decide +kernel
theorem dX3_nextBy_51 : decode cX3_nextBy 51 = .ok (.iinc 4 1, 3) := by decide +kernel
theorem dX3_nextBy_54 : decode cX3_nextBy 54 = .ok (.goto (-31), 3) := by decide +kernel
theorem dX3_nextBy_57 : decode cX3_nextBy 57 = .ok (.iload_n 3, 1) := by decide +kernel
theorem dX3_nextBy_58 : decode cX3_nextBy 58 = .ok (.ireturn, 1) := by decide +kernel
set_option maxRecDepth 20000 in
theorem ggX3_worthOf_X6_at : GoodIn wsX3_worthOf wsX6_at := goodIn_r _ [5] (by decide +kernel) (by decide +kernel)
set_option maxRecDepth 20000 in
theorem gX3_worthOf_X6_at_n44 : GoodIn wsX3_worthOf (wsX6_at) := ggX3_worthOf_X6_at
theorem dX3_worthOf_0 : decode cX3_worthOf 0 = .ok (.aload_n 2, 1) := by decide +kernel
theorem dX3_worthOf_1 : decode cX3_worthOf 1 = .ok (.getfield 56, 3) := by decide +kernel
theorem dX3_worthOf_4 : decode cX3_worthOf 4 = .ok (.aload_n 0, 1) := by decide +kernel
theorem dX3_worthOf_5 : decode cX3_worthOf 5 = .ok (.getfield 15, 3) := by decide +kernel
theorem dX3_worthOf_8 : decode cX3_worthOf 8 = .ok (.aload_n 0, 1) := by decide +kernel
theorem dX3_worthOf_9 : decode cX3_worthOf 9 = .ok (.getfield 27, 3) := by decide +kernel
theorem dX3_worthOf_12 : decode cX3_worthOf 12 = .ok (.iload_n 1, 1) := by decide +kernel
theorem dX3_worthOf_13 : decode cX3_worthOf 13 = .ok (.invokestatic 44, 3) := by decide +kernel
theorem dX3_worthOf_16 : decode cX3_worthOf 16 = .ok (.invokestatic 44, 3) := by decide +kernel
theorem dX3_worthOf_19 : decode cX3_worthOf 19 = .ok (.invokestatic 44, 3) := by decide +kernel
theorem dX3_worthOf_22 : decode cX3_worthOf 22 = .ok (.ireturn, 1) := by decide +kernel
set_option maxRecDepth 20000 in
theorem ggX3_serve_X6_at : GoodIn wsX3_serve wsX6_at := goodIn_r _ [7] (by decide +kernel) (by decide +kernel)
set_option maxRecDepth 20000 in
theorem gX3_serve_X6_at_n44 : GoodIn wsX3_serve (wsX6_at) := ggX3_serve_X6_at
set_option maxRecDepth 20000 in
theorem ggX3_serve_X3_takeOut : GoodIn wsX3_serve wsX3_takeOut := goodIn_r _ [12, 13, 1, 5, 6, 7, 14, 15, 16, 17, 18, 19, 20, 21, 22, 23, 24] (by decide +kernel) (by decide +kernel)
set_option maxRecDepth 20000 in
theorem gX3_serve_X3_takeOut : GoodIn wsX3_serve (wsV RX3 61 RX3 yX3_takeOut wsX3_takeOut) := goodIn_app (goodIn_of _ (by decide +kernel)) ggX3_serve_X3_takeOut
set_option maxRecDepth 20000 in
theorem ggX3_serve_X6_set : GoodIn wsX3_serve wsX6_set := goodIn_r _ [15] (by decide +kernel) (by decide +kernel)
set_option maxRecDepth 20000 in
theorem gX3_serve_X6_set_n48 : GoodIn wsX3_serve (wsX6_set) := ggX3_serve_X6_set
theorem dX3_serve_0 : decode cX3_serve 0 = .ok (.aload_n 0, 1) := by decide +kernel
theorem dX3_serve_1 : decode cX3_serve 1 = .ok (.getfield 27, 3) := by decide +kernel
theorem dX3_serve_4 : decode cX3_serve 4 = .ok (.iload_n 1, 1) := by decide +kernel
theorem dX3_serve_5 : decode cX3_serve 5 = .ok (.invokestatic 44, 3) := by decide +kernel
theorem dX3_serve_8 : decode cX3_serve 8 = .ok (.istore_n 2, 1) := by decide +kernel
theorem dX3_serve_9 : decode cX3_serve 9 = .ok (.aload_n 0, 1) := by decide +kernel
theorem dX3_serve_10 : decode cX3_serve 10 = .ok (.iload_n 1, 1) := by decide +kernel
theorem dX3_serve_11 : decode cX3_serve 11 = .ok (.invokevirtual 61, 3) := by decide +kernel
theorem dX3_serve_14 : decode cX3_serve 14 = .ok (.aload_n 0, 1) := by decide +kernel
theorem dX3_serve_15 : decode cX3_serve 15 = .ok (.getfield 9, 3) := by decide +kernel
theorem dX3_serve_18 : decode cX3_serve 18 = .ok (.iload_n 2, 1) := by decide +kernel
theorem dX3_serve_19 : decode cX3_serve 19 = .ok (.iconst 2, 1) := by decide +kernel
theorem dX3_serve_20 : decode cX3_serve 20 = .ok (.invokestatic 48, 3) := by decide +kernel
theorem dX3_serve_23 : decode cX3_serve 23 = .ok (.aload_n 0, 1) := by decide +kernel
theorem dX3_serve_24 : decode cX3_serve 24 = .ok (.getfield 24, 3) := by decide +kernel
theorem dX3_serve_27 : decode cX3_serve 27 = .ok (.iload_n 2, 1) := by decide +kernel
theorem dX3_serve_28 : decode cX3_serve 28 = .ok (.aload_n 0, 1) := by decide +kernel
theorem dX3_serve_29 : decode cX3_serve 29 = .ok (.getfield 37, 3) := by decide +kernel
theorem dX3_serve_32 : decode cX3_serve 32 = .ok (.invokestatic 48, 3) := by decide +kernel
theorem dX3_serve_35 : decode cX3_serve 35 = .ok (.iload_n 2, 1) := by decide +kernel
theorem dX3_serve_36 : decode cX3_serve 36 = .ok (.ireturn, 1) := by decide +kernel
set_option maxRecDepth 20000 in
theorem ggX3_comes_X6_set : GoodIn wsX3_comes wsX6_set := goodIn_r _ [12] (by decide +kernel) (by decide +kernel)
set_option maxRecDepth 20000 in
theorem gX3_comes_X6_set_n48 : GoodIn wsX3_comes (wsX6_set) := ggX3_comes_X6_set
theorem dX3_comes_0 : decode cX3_comes 0 = .ok (.aload_n 0, 1) := by decide +kernel
theorem dX3_comes_1 : decode cX3_comes 1 = .ok (.getfield 34, 3) := by decide +kernel
theorem dX3_comes_4 : decode cX3_comes 4 = .ok (.iload_n 2, 1) := by decide +kernel
theorem dX3_comes_5 : decode cX3_comes 5 = .ok (.if_icmp .ge 15, 3) := by decide +kernel
theorem dX3_comes_8 : decode cX3_comes 8 = .ok (.aload_n 0, 1) := by decide +kernel
theorem dX3_comes_9 : decode cX3_comes 9 = .ok (.getfield 34, 3) := by decide +kernel
theorem dX3_comes_12 : decode cX3_comes 12 = .ok (.iconst 5, 1) := by decide +kernel
theorem dX3_comes_13 : decode cX3_comes 13 = .ok (.if_icmp .ge 7, 3) := by decide +kernel
theorem dX3_comes_16 : decode cX3_comes 16 = .ok (.iconst 1, 1) := by decide +kernel
theorem dX3_comes_17 : decode cX3_comes 17 = .ok (.goto 4, 3) := by decide +kernel
theorem dX3_comes_20 : decode cX3_comes 20 = .ok (.iconst 0, 1) := by decide +kernel
theorem dX3_comes_21 : decode cX3_comes 21 = .ok (.istore_n 3, 1) := by decide +kernel
theorem dX3_comes_22 : decode cX3_comes 22 = .ok (.aload_n 0, 1) := by decide +kernel
theorem dX3_comes_23 : decode cX3_comes 23 = .ok (.getfield 9, 3) := by decide +kernel
theorem dX3_comes_26 : decode cX3_comes 26 = .ok (.aload_n 0, 1) := by decide +kernel
theorem dX3_comes_27 : decode cX3_comes 27 = .ok (.getfield 30, 3) := by decide +kernel
theorem dX3_comes_30 : decode cX3_comes 30 = .ok (.iload_n 3, 1) := by decide +kernel
theorem dX3_comes_31 : decode cX3_comes 31 = .ok (.ifCond .eq 7, 3) := by decide +kernel
theorem dX3_comes_34 : decode cX3_comes 34 = .ok (.iconst 1, 1) := by decide +kernel
theorem dX3_comes_35 : decode cX3_comes 35 = .ok (.goto 4, 3) := by decide +kernel
theorem dX3_comes_38 : decode cX3_comes 38 = .ok (.iconst 0, 1) := by decide +kernel
theorem dX3_comes_39 : decode cX3_comes 39 = .ok (.invokestatic 48, 3) := by decide +kernel
theorem dX3_comes_42 : decode cX3_comes 42 = .ok (.aload_n 0, 1) := by decide +kernel
theorem dX3_comes_43 : decode cX3_comes 43 = .ok (.getfield 15, 3) := by decide +kernel
theorem dX3_comes_46 : decode cX3_comes 46 = .ok (.aload_n 0, 1) := by decide +kernel
theorem dX3_comes_47 : decode cX3_comes 47 = .ok (.getfield 30, 3) := by decide +kernel
theorem dX3_comes_50 : decode cX3_comes 50 = .ok (.iload_n 1, 1) := by decide +kernel
theorem dX3_comes_51 : decode cX3_comes 51 = .ok (.invokestatic 48, 3) := by decide +kernel
theorem dX3_comes_54 : decode cX3_comes 54 = .ok (.aload_n 0, 1) := by decide +kernel
theorem dX3_comes_55 : decode cX3_comes 55 = .ok (.getfield 18, 3) := by decide +kernel
theorem dX3_comes_58 : decode cX3_comes 58 = .ok (.aload_n 0, 1) := by decide +kernel
theorem dX3_comes_59 : decode cX3_comes 59 = .ok (.getfield 30, 3) := by decide +kernel
theorem dX3_comes_62 : decode cX3_comes 62 = .ok (.iconst 0, 1) := by decide +kernel
theorem dX3_comes_63 : decode cX3_comes 63 = .ok (.invokestatic 48, 3) := by decide +kernel
theorem dX3_comes_66 : decode cX3_comes 66 = .ok (.aload_n 0, 1) := by decide +kernel
theorem dX3_comes_67 : decode cX3_comes 67 = .ok (.getfield 21, 3) := by decide +kernel
theorem dX3_comes_70 : decode cX3_comes 70 = .ok (.aload_n 0, 1) := by decide +kernel
theorem dX3_comes_71 : decode cX3_comes 71 = .ok (.getfield 30, 3) := by decide +kernel
theorem dX3_comes_74 : decode cX3_comes 74 = .ok (.aload_n 0, 1) := by decide +kernel
theorem dX3_comes_75 : decode cX3_comes 75 = .ok (.getfield 37, 3) := by decide +kernel
theorem dX3_comes_78 : decode cX3_comes 78 = .ok (.invokestatic 48, 3) := by decide +kernel
theorem dX3_comes_81 : decode cX3_comes 81 = .ok (.aload_n 0, 1) := by decide +kernel
theorem dX3_comes_82 : decode cX3_comes 82 = .ok (.getfield 24, 3) := by decide +kernel
theorem dX3_comes_85 : decode cX3_comes 85 = .ok (.aload_n 0, 1) := by decide +kernel
theorem dX3_comes_86 : decode cX3_comes 86 = .ok (.getfield 30, 3) := by decide +kernel
theorem dX3_comes_89 : decode cX3_comes 89 = .ok (.bipush (-9), 2) := by decide +kernel
theorem dX3_comes_91 : decode cX3_comes 91 = .ok (.invokestatic 48, 3) := by decide +kernel
theorem dX3_comes_94 : decode cX3_comes 94 = .ok (.iload_n 3, 1) := by decide +kernel
theorem dX3_comes_95 : decode cX3_comes 95 = .ok (.ifCond .eq 28, 3) := by decide +kernel
theorem dX3_comes_98 : decode cX3_comes 98 = .ok (.aload_n 0, 1) := by decide +kernel
theorem dX3_comes_99 : decode cX3_comes 99 = .ok (.getfield 27, 3) := by decide +kernel
theorem dX3_comes_102 : decode cX3_comes 102 = .ok (.aload_n 0, 1) := by decide +kernel
theorem dX3_comes_103 : decode cX3_comes 103 = .ok (.getfield 34, 3) := by decide +kernel
theorem dX3_comes_106 : decode cX3_comes 106 = .ok (.aload_n 0, 1) := by decide +kernel
theorem dX3_comes_107 : decode cX3_comes 107 = .ok (.getfield 30, 3) := by decide +kernel
theorem dX3_comes_110 : decode cX3_comes 110 = .ok (.invokestatic 48, 3) := by decide +kernel
theorem dX3_comes_113 : decode cX3_comes 113 = .ok (.aload_n 0, 1) := by decide +kernel
theorem dX3_comes_114 : decode cX3_comes 114 = .ok (.dup, 1) := by decide +kernel
theorem dX3_comes_115 : decode cX3_comes 115 = .ok (.getfield 34, 3) := by decide +kernel
theorem dX3_comes_118 : decode cX3_comes 118 = .ok (.iconst 1, 1) := by decide +kernel
theorem dX3_comes_119 : decode cX3_comes 119 = .ok (.iadd, 1) := by decide +kernel
theorem dX3_comes_120 : decode cX3_comes 120 = .ok (.putfield 34, 3) := by decide +kernel
theorem dX3_comes_123 : decode cX3_comes 123 = .ok (.aload_n 0, 1) := by decide +kernel
theorem dX3_comes_124 : decode cX3_comes 124 = .ok (.dup, 1) := by decide +kernel
theorem dX3_comes_125 : decode cX3_comes 125 = .ok (.getfield 30, 3) := by decide +kernel
theorem dX3_comes_128 : decode cX3_comes 128 = .ok (.iconst 1, 1) := by decide +kernel
theorem dX3_comes_129 : decode cX3_comes 129 = .ok (.iadd, 1) := by decide +kernel
theorem dX3_comes_130 : decode cX3_comes 130 = .ok (.putfield 30, 3) := by decide +kernel
theorem dX3_comes_133 : decode cX3_comes 133 = .ok (.iload_n 3, 1) := by decide +kernel
theorem dX3_comes_134 : decode cX3_comes 134 = .ok (.ireturn, 1) := by decide +kernel
set_option maxRecDepth 20000 in
theorem ggX3_placeOf_X6_at : GoodIn wsX3_placeOf wsX6_at := goodIn_r _ [5] (by decide +kernel) (by decide +kernel)
set_option maxRecDepth 20000 in
theorem gX3_placeOf_X6_at_n44 : GoodIn wsX3_placeOf (wsX6_at) := ggX3_placeOf_X6_at
theorem dX3_placeOf_0 : decode cX3_placeOf 0 = .ok (.iconst 0, 1) := by decide +kernel
theorem dX3_placeOf_1 : decode cX3_placeOf 1 = .ok (.istore_n 2, 1) := by decide +kernel
theorem dX3_placeOf_2 : decode cX3_placeOf 2 = .ok (.iload_n 2, 1) := by decide +kernel
theorem dX3_placeOf_3 : decode cX3_placeOf 3 = .ok (.aload_n 0, 1) := by decide +kernel
theorem dX3_placeOf_4 : decode cX3_placeOf 4 = .ok (.getfield 34, 3) := by decide +kernel
theorem dX3_placeOf_7 : decode cX3_placeOf 7 = .ok (.if_icmp .ge 23, 3) := by decide +kernel
theorem dX3_placeOf_10 : decode cX3_placeOf 10 = .ok (.aload_n 0, 1) := by decide +kernel
theorem dX3_placeOf_11 : decode cX3_placeOf 11 = .ok (.getfield 27, 3) := by decide +kernel
theorem dX3_placeOf_14 : decode cX3_placeOf 14 = .ok (.iload_n 2, 1) := by decide +kernel
theorem dX3_placeOf_15 : decode cX3_placeOf 15 = .ok (.invokestatic 44, 3) := by decide +kernel
theorem dX3_placeOf_18 : decode cX3_placeOf 18 = .ok (.iload_n 1, 1) := by decide +kernel
theorem dX3_placeOf_19 : decode cX3_placeOf 19 = .ok (.if_icmp .ne 5, 3) := by decide +kernel
theorem dX3_placeOf_22 : decode cX3_placeOf 22 = .ok (.iload_n 2, 1) := by decide +kernel
theorem dX3_placeOf_23 : decode cX3_placeOf 23 = .ok (.ireturn, 1) := by decide +kernel
theorem dX3_placeOf_24 : decode cX3_placeOf 24 = .ok (.iinc 2 1, 3) := by decide +kernel
theorem dX3_placeOf_27 : decode cX3_placeOf 27 = .ok (.goto (-25), 3) := by decide +kernel
theorem dX3_placeOf_30 : decode cX3_placeOf 30 = .ok (.bipush (-9), 2) := by decide +kernel
theorem dX3_placeOf_32 : decode cX3_placeOf 32 = .ok (.ireturn, 1) := by decide +kernel
set_option maxRecDepth 20000 in
theorem ggX3_takeOut_X6_at : GoodIn wsX3_takeOut wsX6_at := goodIn_r _ [5] (by decide +kernel) (by decide +kernel)
set_option maxRecDepth 20000 in
theorem gX3_takeOut_X6_at_n44 : GoodIn wsX3_takeOut (wsX6_at) := ggX3_takeOut_X6_at
set_option maxRecDepth 20000 in
theorem ggX3_takeOut_X6_set : GoodIn wsX3_takeOut wsX6_set := goodIn_r _ [7] (by decide +kernel) (by decide +kernel)
set_option maxRecDepth 20000 in
theorem gX3_takeOut_X6_set_n48 : GoodIn wsX3_takeOut (wsX6_set) := ggX3_takeOut_X6_set
theorem dX3_takeOut_0 : decode cX3_takeOut 0 = .ok (.iload_n 1, 1) := by decide +kernel
theorem dX3_takeOut_1 : decode cX3_takeOut 1 = .ok (.iconst 1, 1) := by decide +kernel
theorem dX3_takeOut_2 : decode cX3_takeOut 2 = .ok (.iadd, 1) := by decide +kernel
theorem dX3_takeOut_3 : decode cX3_takeOut 3 = .ok (.istore_n 2, 1) := by decide +kernel
theorem dX3_takeOut_4 : decode cX3_takeOut 4 = .ok (.iload_n 2, 1) := by decide +kernel
theorem dX3_takeOut_5 : decode cX3_takeOut 5 = .ok (.aload_n 0, 1) := by decide +kernel
theorem dX3_takeOut_6 : decode cX3_takeOut 6 = .ok (.getfield 34, 3) := by decide +kernel
theorem dX3_takeOut_9 : decode cX3_takeOut 9 = .ok (.if_icmp .ge 27, 3) := by decide +kernel
theorem dX3_takeOut_12 : decode cX3_takeOut 12 = .ok (.aload_n 0, 1) := by decide +kernel
theorem dX3_takeOut_13 : decode cX3_takeOut 13 = .ok (.getfield 27, 3) := by decide +kernel
theorem dX3_takeOut_16 : decode cX3_takeOut 16 = .ok (.iload_n 2, 1) := by decide +kernel
theorem dX3_takeOut_17 : decode cX3_takeOut 17 = .ok (.iconst 1, 1) := by decide +kernel
theorem dX3_takeOut_18 : decode cX3_takeOut 18 = .ok (.isub, 1) := by decide +kernel
theorem dX3_takeOut_19 : decode cX3_takeOut 19 = .ok (.aload_n 0, 1) := by decide +kernel
theorem dX3_takeOut_20 : decode cX3_takeOut 20 = .ok (.getfield 27, 3) := by decide +kernel
theorem dX3_takeOut_23 : decode cX3_takeOut 23 = .ok (.iload_n 2, 1) := by decide +kernel
theorem dX3_takeOut_24 : decode cX3_takeOut 24 = .ok (.invokestatic 44, 3) := by decide +kernel
theorem dX3_takeOut_27 : decode cX3_takeOut 27 = .ok (.invokestatic 48, 3) := by decide +kernel
theorem dX3_takeOut_30 : decode cX3_takeOut 30 = .ok (.iinc 2 1, 3) := by decide +kernel
theorem dX3_takeOut_33 : decode cX3_takeOut 33 = .ok (.goto (-29), 3) := by decide +kernel
theorem dX3_takeOut_36 : decode cX3_takeOut 36 = .ok (.aload_n 0, 1) := by decide +kernel
theorem dX3_takeOut_37 : decode cX3_takeOut 37 = .ok (.dup, 1) := by decide +kernel
theorem dX3_takeOut_38 : decode cX3_takeOut 38 = .ok (.getfield 34, 3) := by decide +kernel
theorem dX3_takeOut_41 : decode cX3_takeOut 41 = .ok (.iconst 1, 1) := by decide +kernel
theorem dX3_takeOut_42 : decode cX3_takeOut 42 = .ok (.isub, 1) := by decide +kernel
theorem dX3_takeOut_43 : decode cX3_takeOut 43 = .ok (.putfield 34, 3) := by decide +kernel
theorem dX3_takeOut_46 : decode cX3_takeOut 46 = .ok (.return_, 1) := by decide +kernel
set_option maxRecDepth 20000 in
theorem ggX3_done_X6_at : GoodIn wsX3_done wsX6_at := goodIn_r _ [5] (by decide +kernel) (by decide +kernel)
set_option maxRecDepth 20000 in
theorem gX3_done_X6_at_n44 : GoodIn wsX3_done (wsX6_at) := ggX3_done_X6_at
theorem dX3_done_0 : decode cX3_done 0 = .ok (.iconst 0, 1) := by decide +kernel
theorem dX3_done_1 : decode cX3_done 1 = .ok (.istore_n 1, 1) := by decide +kernel
theorem dX3_done_2 : decode cX3_done 2 = .ok (.iconst 0, 1) := by decide +kernel
theorem dX3_done_3 : decode cX3_done 3 = .ok (.istore_n 2, 1) := by decide +kernel
theorem dX3_done_4 : decode cX3_done 4 = .ok (.iload_n 2, 1) := by decide +kernel
theorem dX3_done_5 : decode cX3_done 5 = .ok (.aload_n 0, 1) := by decide +kernel
theorem dX3_done_6 : decode cX3_done 6 = .ok (.getfield 30, 3) := by decide +kernel
theorem dX3_done_9 : decode cX3_done 9 = .ok (.if_icmp .ge 24, 3) := by decide +kernel
theorem dX3_done_12 : decode cX3_done 12 = .ok (.aload_n 0, 1) := by decide +kernel
theorem dX3_done_13 : decode cX3_done 13 = .ok (.getfield 9, 3) := by decide +kernel
theorem dX3_done_16 : decode cX3_done 16 = .ok (.iload_n 2, 1) := by decide +kernel
theorem dX3_done_17 : decode cX3_done 17 = .ok (.invokestatic 44, 3) := by decide +kernel
theorem dX3_done_20 : decode cX3_done 20 = .ok (.iconst 2, 1) := by decide +kernel
theorem dX3_done_21 : decode cX3_done 21 = .ok (.if_icmp .ne 6, 3) := by decide +kernel
theorem dX3_done_24 : decode cX3_done 24 = .ok (.iinc 1 1, 3) := by decide +kernel
theorem dX3_done_27 : decode cX3_done 27 = .ok (.iinc 2 1, 3) := by decide +kernel
theorem dX3_done_30 : decode cX3_done 30 = .ok (.goto (-26), 3) := by decide +kernel
theorem dX3_done_33 : decode cX3_done 33 = .ok (.iload_n 1, 1) := by decide +kernel
theorem dX3_done_34 : decode cX3_done 34 = .ok (.ireturn, 1) := by decide +kernel
set_option maxRecDepth 20000 in
theorem ggX3_envious_X3_envies : GoodIn wsX3_envious wsX3_envies := goodIn_r _ [6, 7, 8, 9, 10, 11, 12, 13, 14, 15, 16, 17, 18, 19, 20] (by decide +kernel) (by decide +kernel)
set_option maxRecDepth 20000 in
theorem gX3_envious_X3_envies : GoodIn wsX3_envious (wsV RX3 65 RX3 yX3_envies wsX3_envies) := goodIn_app (goodIn_of _ (by decide +kernel)) ggX3_envious_X3_envies
theorem dX3_envious_0 : decode cX3_envious 0 = .ok (.iconst 0, 1) := by decide +kernel
theorem dX3_envious_1 : decode cX3_envious 1 = .ok (.istore_n 1, 1) := by decide +kernel
theorem dX3_envious_2 : decode cX3_envious 2 = .ok (.iconst 0, 1) := by decide +kernel
theorem dX3_envious_3 : decode cX3_envious 3 = .ok (.istore_n 2, 1) := by decide +kernel
theorem dX3_envious_4 : decode cX3_envious 4 = .ok (.iload_n 2, 1) := by decide +kernel
theorem dX3_envious_5 : decode cX3_envious 5 = .ok (.aload_n 0, 1) := by decide +kernel
theorem dX3_envious_6 : decode cX3_envious 6 = .ok (.getfield 30, 3) := by decide +kernel
theorem dX3_envious_9 : decode cX3_envious 9 = .ok (.if_icmp .ge 39, 3) := by decide +kernel
theorem dX3_envious_12 : decode cX3_envious 12 = .ok (.iload_n 2, 1) := by decide +kernel
theorem dX3_envious_13 : decode cX3_envious 13 = .ok (.iconst 1, 1) := by decide +kernel
theorem dX3_envious_14 : decode cX3_envious 14 = .ok (.iadd, 1) := by decide +kernel
theorem dX3_envious_15 : decode cX3_envious 15 = .ok (.istore_n 3, 1) := by decide +kernel
theorem dX3_envious_16 : decode cX3_envious 16 = .ok (.iload_n 3, 1) := by decide +kernel
theorem dX3_envious_17 : decode cX3_envious 17 = .ok (.aload_n 0, 1) := by decide +kernel
theorem dX3_envious_18 : decode cX3_envious 18 = .ok (.getfield 30, 3) := by decide +kernel
theorem dX3_envious_21 : decode cX3_envious 21 = .ok (.if_icmp .ge 21, 3) := by decide +kernel
theorem dX3_envious_24 : decode cX3_envious 24 = .ok (.aload_n 0, 1) := by decide +kernel
theorem dX3_envious_25 : decode cX3_envious 25 = .ok (.iload_n 2, 1) := by decide +kernel
theorem dX3_envious_26 : decode cX3_envious 26 = .ok (.iload_n 3, 1) := by decide +kernel
theorem dX3_envious_27 : decode cX3_envious 27 = .ok (.invokevirtual 65, 3) := by decide +kernel
theorem dX3_envious_30 : decode cX3_envious 30 = .ok (.ifCond .eq 6, 3) := by decide +kernel
theorem dX3_envious_33 : decode cX3_envious 33 = .ok (.iinc 1 1, 3) := by decide +kernel
theorem dX3_envious_36 : decode cX3_envious 36 = .ok (.iinc 3 1, 3) := by decide +kernel
theorem dX3_envious_39 : decode cX3_envious 39 = .ok (.goto (-23), 3) := by decide +kernel
theorem dX3_envious_42 : decode cX3_envious 42 = .ok (.iinc 2 1, 3) := by decide +kernel
theorem dX3_envious_45 : decode cX3_envious 45 = .ok (.goto (-41), 3) := by decide +kernel
theorem dX3_envious_48 : decode cX3_envious 48 = .ok (.iload_n 1, 1) := by decide +kernel
theorem dX3_envious_49 : decode cX3_envious 49 = .ok (.ireturn, 1) := by decide +kernel
set_option maxRecDepth 20000 in
theorem ggX3_envies_X6_at : GoodIn wsX3_envies wsX6_at := goodIn_r _ [5] (by decide +kernel) (by decide +kernel)
set_option maxRecDepth 20000 in
theorem gX3_envies_X6_at_n44 : GoodIn wsX3_envies (wsX6_at) := ggX3_envies_X6_at
theorem dX3_envies_0 : decode cX3_envies 0 = .ok (.aload_n 0, 1) := by decide +kernel
theorem dX3_envies_1 : decode cX3_envies 1 = .ok (.getfield 9, 3) := by decide +kernel
theorem dX3_envies_4 : decode cX3_envies 4 = .ok (.iload_n 1, 1) := by decide +kernel
theorem dX3_envies_5 : decode cX3_envies 5 = .ok (.invokestatic 44, 3) := by decide +kernel
theorem dX3_envies_8 : decode cX3_envies 8 = .ok (.iconst 2, 1) := by decide +kernel
theorem dX3_envies_9 : decode cX3_envies 9 = .ok (.if_icmp .ne 38, 3) := by decide +kernel
theorem dX3_envies_12 : decode cX3_envies 12 = .ok (.aload_n 0, 1) := by decide +kernel
theorem dX3_envies_13 : decode cX3_envies 13 = .ok (.getfield 9, 3) := by decide +kernel
theorem dX3_envies_16 : decode cX3_envies 16 = .ok (.iload_n 2, 1) := by decide +kernel
theorem dX3_envies_17 : decode cX3_envies 17 = .ok (.invokestatic 44, 3) := by decide +kernel
theorem dX3_envies_20 : decode cX3_envies 20 = .ok (.iconst 2, 1) := by decide +kernel
theorem dX3_envies_21 : decode cX3_envies 21 = .ok (.if_icmp .ne 26, 3) := by decide +kernel
theorem dX3_envies_24 : decode cX3_envies 24 = .ok (.aload_n 0, 1) := by decide +kernel
theorem dX3_envies_25 : decode cX3_envies 25 = .ok (.getfield 24, 3) := by decide +kernel
theorem dX3_envies_28 : decode cX3_envies 28 = .ok (.iload_n 1, 1) := by decide +kernel
theorem dX3_envies_29 : decode cX3_envies 29 = .ok (.invokestatic 44, 3) := by decide +kernel
theorem dX3_envies_32 : decode cX3_envies 32 = .ok (.aload_n 0, 1) := by decide +kernel
theorem dX3_envies_33 : decode cX3_envies 33 = .ok (.getfield 24, 3) := by decide +kernel
theorem dX3_envies_36 : decode cX3_envies 36 = .ok (.iload_n 2, 1) := by decide +kernel
theorem dX3_envies_37 : decode cX3_envies 37 = .ok (.invokestatic 44, 3) := by decide +kernel
theorem dX3_envies_40 : decode cX3_envies 40 = .ok (.if_icmp .le 7, 3) := by decide +kernel
theorem dX3_envies_43 : decode cX3_envies 43 = .ok (.iconst 1, 1) := by decide +kernel
theorem dX3_envies_44 : decode cX3_envies 44 = .ok (.goto 4, 3) := by decide +kernel
theorem dX3_envies_47 : decode cX3_envies 47 = .ok (.iconst 0, 1) := by decide +kernel
theorem dX3_envies_48 : decode cX3_envies 48 = .ok (.ireturn, 1) := by decide +kernel
set_option maxRecDepth 20000 in
theorem ggX4_init_X6_set : GoodIn wsX4_init wsX6_set := goodIn_r _ [10] (by decide +kernel) (by decide +kernel)
set_option maxRecDepth 20000 in
theorem gX4_init_X6_set_n21 : GoodIn wsX4_init (wsX6_set) := ggX4_init_X6_set
theorem dX4_init_0 : decode cX4_init 0 = .ok (.aload_n 0, 1) := by decide +kernel
theorem dX4_init_1 : decode cX4_init 1 = .ok (.invokespecial 3, 3) := by decide +kernel
theorem dX4_init_4 : decode cX4_init 4 = .ok (.aload_n 0, 1) := by decide +kernel
theorem dX4_init_5 : decode cX4_init 5 = .ok (.iconst 4, 1) := by decide +kernel
theorem dX4_init_6 : decode cX4_init 6 = .ok (.newarray .int, 2) := by decide +kernel
theorem dX4_init_8 : decode cX4_init 8 = .ok (.putfield 9, 3) := by decide +kernel
theorem dX4_init_11 : decode cX4_init 11 = .ok (.aload_n 0, 1) := by decide +kernel
theorem dX4_init_12 : decode cX4_init 12 = .ok (.iconst 4, 1) := by decide +kernel
theorem dX4_init_13 : decode cX4_init 13 = .ok (.newarray .int, 2) := by decide +kernel
theorem dX4_init_15 : decode cX4_init 15 = .ok (.putfield 15, 3) := by decide +kernel
theorem dX4_init_18 : decode cX4_init 18 = .ok (.aload_n 0, 1) := by decide +kernel
theorem dX4_init_19 : decode cX4_init 19 = .ok (.sipush 240, 3) := by decide +kernel
theorem dX4_init_22 : decode cX4_init 22 = .ok (.newarray .int, 2) := by decide +kernel
theorem dX4_init_24 : decode cX4_init 24 = .ok (.putfield 18, 3) := by decide +kernel
theorem dX4_init_27 : decode cX4_init 27 = .ok (.iconst 0, 1) := by decide +kernel
theorem dX4_init_28 : decode cX4_init 28 = .ok (.istore_n 1, 1) := by decide +kernel
theorem dX4_init_29 : decode cX4_init 29 = .ok (.iload_n 1, 1) := by decide +kernel
theorem dX4_init_30 : decode cX4_init 30 = .ok (.iconst 4, 1) := by decide +kernel
theorem dX4_init_31 : decode cX4_init 31 = .ok (.if_icmp .ge 18, 3) := by decide +kernel
theorem dX4_init_34 : decode cX4_init 34 = .ok (.aload_n 0, 1) := by decide +kernel
theorem dX4_init_35 : decode cX4_init 35 = .ok (.getfield 9, 3) := by decide +kernel
theorem dX4_init_38 : decode cX4_init 38 = .ok (.iload_n 1, 1) := by decide +kernel
theorem dX4_init_39 : decode cX4_init 39 = .ok (.iconst (-1), 1) := by decide +kernel
theorem dX4_init_40 : decode cX4_init 40 = .ok (.invokestatic 21, 3) := by decide +kernel
theorem dX4_init_43 : decode cX4_init 43 = .ok (.iinc 1 1, 3) := by decide +kernel
theorem dX4_init_46 : decode cX4_init 46 = .ok (.goto (-17), 3) := by decide +kernel
theorem dX4_init_49 : decode cX4_init 49 = .ok (.return_, 1) := by decide +kernel
set_option maxRecDepth 20000 in
theorem ggX4_has_X6_isWithin : GoodIn wsX4_has wsX6_isWithin := goodIn_r _ [3] (by decide +kernel) (by decide +kernel)
set_option maxRecDepth 20000 in
theorem gX4_has_X6_isWithin_n25 : GoodIn wsX4_has (wsX6_isWithin) := ggX4_has_X6_isWithin
theorem dX4_has_0 : decode cX4_has 0 = .ok (.iload_n 1, 1) := by decide +kernel
theorem dX4_has_1 : decode cX4_has 1 = .ok (.iconst 0, 1) := by decide +kernel
theorem dX4_has_2 : decode cX4_has 2 = .ok (.iconst 3, 1) := by decide +kernel
theorem dX4_has_3 : decode cX4_has 3 = .ok (.invokestatic 25, 3) := by decide +kernel
theorem dX4_has_6 : decode cX4_has 6 = .ok (.ireturn, 1) := by decide +kernel
set_option maxRecDepth 20000 in
theorem ggX4_hasNothing_X6_at : GoodIn wsX4_hasNothing wsX6_at := goodIn_r _ [4] (by decide +kernel) (by decide +kernel)
set_option maxRecDepth 20000 in
theorem gX4_hasNothing_X6_at_n29 : GoodIn wsX4_hasNothing (wsX6_at) := ggX4_hasNothing_X6_at
theorem dX4_hasNothing_0 : decode cX4_hasNothing 0 = .ok (.aload_n 0, 1) := by decide +kernel
theorem dX4_hasNothing_1 : decode cX4_hasNothing 1 = .ok (.getfield 9, 3) := by decide +kernel
theorem dX4_hasNothing_4 : decode cX4_hasNothing 4 = .ok (.iload_n 1, 1) := by decide +kernel
theorem dX4_hasNothing_5 : decode cX4_hasNothing 5 = .ok (.invokestatic 29, 3) := by decide +kernel
theorem dX4_hasNothing_8 : decode cX4_hasNothing 8 = .ok (.iconst (-1), 1) := by decide +kernel
theorem dX4_hasNothing_9 : decode cX4_hasNothing 9 = .ok (.if_icmp .ne 7, 3) := by decide +kernel
theorem dX4_hasNothing_12 : decode cX4_hasNothing 12 = .ok (.iconst 1, 1) := by decide +kernel
theorem dX4_hasNothing_13 : decode cX4_hasNothing 13 = .ok (.goto 4, 3) := by decide +kernel
theorem dX4_hasNothing_16 : decode cX4_hasNothing 16 = .ok (.iconst 0, 1) := by decide +kernel
theorem dX4_hasNothing_17 : decode cX4_hasNothing 17 = .ok (.ireturn, 1) := by decide +kernel
set_option maxRecDepth 20000 in
theorem ggX4_isOfAnotherLane_X4_hasNothing : GoodIn wsX4_isOfAnotherLane wsX4_hasNothing := goodIn_r _ [6, 1, 7, 8, 9, 10, 11, 12] (by decide +kernel) (by decide +kernel)
set_option maxRecDepth 20000 in
theorem gX4_isOfAnotherLane_X4_hasNothing : GoodIn wsX4_isOfAnotherLane (wsV RX4 33 RX4 yX4_hasNothing wsX4_hasNothing) := goodIn_app (goodIn_of _ (by decide +kernel)) ggX4_isOfAnotherLane_X4_hasNothing
set_option maxRecDepth 20000 in
theorem ggX4_isOfAnotherLane_X6_at : GoodIn wsX4_isOfAnotherLane wsX6_at := goodIn_r _ [9] (by decide +kernel) (by decide +kernel)
set_option maxRecDepth 20000 in
theorem gX4_isOfAnotherLane_X6_at_n29 : GoodIn wsX4_isOfAnotherLane (wsX6_at) := ggX4_isOfAnotherLane_X6_at
theorem dX4_isOfAnotherLane_0 : decode cX4_isOfAnotherLane 0 = .ok (.aload_n 0, 1) := by decide +kernel
theorem dX4_isOfAnotherLane_1 : decode cX4_isOfAnotherLane 1 = .ok (.iload_n 1, 1) := by decide +kernel
theorem dX4_isOfAnotherLane_2 : decode cX4_isOfAnotherLane 2 = .ok (.invokevirtual 33, 3) := by decide +kernel
theorem dX4_isOfAnotherLane_5 : decode cX4_isOfAnotherLane 5 = .ok (.ifCond .ne 19, 3) := by decide +kernel
theorem dX4_isOfAnotherLane_8 : decode cX4_isOfAnotherLane 8 = .ok (.aload_n 0, 1) := by decide +kernel
theorem dX4_isOfAnotherLane_9 : decode cX4_isOfAnotherLane 9 = .ok (.getfield 9, 3) := by decide +kernel
theorem dX4_isOfAnotherLane_12 : decode cX4_isOfAnotherLane 12 = .ok (.iload_n 1, 1) := by decide +kernel
theorem dX4_isOfAnotherLane_13 : decode cX4_isOfAnotherLane 13 = .ok (.invokestatic 29, 3) := by decide +kernel
theorem dX4_isOfAnotherLane_16 : decode cX4_isOfAnotherLane 16 = .ok (.iload_n 2, 1) := by decide +kernel
theorem dX4_isOfAnotherLane_17 : decode cX4_isOfAnotherLane 17 = .ok (.if_icmp .eq 7, 3) := by decide +kernel
theorem dX4_isOfAnotherLane_20 : decode cX4_isOfAnotherLane 20 = .ok (.iconst 1, 1) := by decide +kernel
theorem dX4_isOfAnotherLane_21 : decode cX4_isOfAnotherLane 21 = .ok (.goto 4, 3) := by decide +kernel
theorem dX4_isOfAnotherLane_24 : decode cX4_isOfAnotherLane 24 = .ok (.iconst 0, 1) := by decide +kernel
theorem dX4_isOfAnotherLane_25 : decode cX4_isOfAnotherLane 25 = .ok (.ireturn, 1) := by decide +kernel
set_option maxRecDepth 20000 in
theorem ggX4_sizeOf_X6_at : GoodIn wsX4_sizeOf wsX6_at := goodIn_r _ [4] (by decide +kernel) (by decide +kernel)
set_option maxRecDepth 20000 in
theorem gX4_sizeOf_X6_at_n29 : GoodIn wsX4_sizeOf (wsX6_at) := ggX4_sizeOf_X6_at
theorem dX4_sizeOf_0 : decode cX4_sizeOf 0 = .ok (.aload_n 0, 1) := by decide +kernel
theorem dX4_sizeOf_1 : decode cX4_sizeOf 1 = .ok (.getfield 15, 3) := by decide +kernel
theorem dX4_sizeOf_4 : decode cX4_sizeOf 4 = .ok (.iload_n 1, 1) := by decide +kernel
theorem dX4_sizeOf_5 : decode cX4_sizeOf 5 = .ok (.invokestatic 29, 3) := by decide +kernel
theorem dX4_sizeOf_8 : decode cX4_sizeOf 8 = .ok (.ireturn, 1) := by decide +kernel
set_option maxRecDepth 20000 in
theorem ggX4_renew_X6_set : GoodIn wsX4_renew wsX6_set := goodIn_r _ [6] (by decide +kernel) (by decide +kernel)
set_option maxRecDepth 20000 in
theorem gX4_renew_X6_set_n21 : GoodIn wsX4_renew (wsX6_set) := ggX4_renew_X6_set
set_option maxRecDepth 20000 in
theorem ggX4_renew_X4_indexOf : GoodIn wsX4_renew wsX4_indexOf := goodIn_r _ [11] (by decide +kernel) (by decide +kernel)
set_option maxRecDepth 20000 in
theorem gX4_renew_X4_indexOf : GoodIn wsX4_renew (wsV RX4 37 RX4 yX4_indexOf wsX4_indexOf) := goodIn_app (goodIn_of _ (by decide +kernel)) ggX4_renew_X4_indexOf
theorem dX4_renew_0 : decode cX4_renew 0 = .ok (.aload_n 0, 1) := by decide +kernel
theorem dX4_renew_1 : decode cX4_renew 1 = .ok (.getfield 9, 3) := by decide +kernel
theorem dX4_renew_4 : decode cX4_renew 4 = .ok (.iload_n 1, 1) := by decide +kernel
theorem dX4_renew_5 : decode cX4_renew 5 = .ok (.iload_n 2, 1) := by decide +kernel
theorem dX4_renew_6 : decode cX4_renew 6 = .ok (.invokestatic 21, 3) := by decide +kernel
theorem dX4_renew_9 : decode cX4_renew 9 = .ok (.aload_n 0, 1) := by decide +kernel
theorem dX4_renew_10 : decode cX4_renew 10 = .ok (.getfield 15, 3) := by decide +kernel
theorem dX4_renew_13 : decode cX4_renew 13 = .ok (.iload_n 1, 1) := by decide +kernel
theorem dX4_renew_14 : decode cX4_renew 14 = .ok (.iload_n 3, 1) := by decide +kernel
theorem dX4_renew_15 : decode cX4_renew 15 = .ok (.invokestatic 21, 3) := by decide +kernel
theorem dX4_renew_18 : decode cX4_renew 18 = .ok (.iconst 0, 1) := by decide +kernel
theorem dX4_renew_19 : decode cX4_renew 19 = .ok (.istore 4, 2) := by decide +kernel
theorem dX4_renew_21 : decode cX4_renew 21 = .ok (.iload 4, 2) := by decide +kernel
theorem dX4_renew_23 : decode cX4_renew 23 = .ok (.iload_n 3, 1) := by decide +kernel
theorem dX4_renew_24 : decode cX4_renew 24 = .ok (.if_icmp .ge 31, 3) := by decide +kernel
theorem dX4_renew_27 : decode cX4_renew 27 = .ok (.iload 4, 2) := by decide +kernel
theorem dX4_renew_29 : decode cX4_renew 29 = .ok (.bipush 60, 2) := by decide +kernel
theorem dX4_renew_31 : decode cX4_renew 31 = .ok (.if_icmp .ge 24, 3) := by decide +kernel
theorem dX4_renew_34 : decode cX4_renew 34 = .ok (.aload_n 0, 1) := by decide +kernel
theorem dX4_renew_35 : decode cX4_renew 35 = .ok (.getfield 18, 3) := by decide +kernel
theorem dX4_renew_38 : decode cX4_renew 38 = .ok (.aload_n 0, 1) := by decide +kernel
theorem dX4_renew_39 : decode cX4_renew 39 = .ok (.iload_n 1, 1) := by decide +kernel
theorem dX4_renew_40 : decode cX4_renew 40 = .ok (.iload 4, 2) := by decide +kernel
theorem dX4_renew_42 : decode cX4_renew 42 = .ok (.invokevirtual 37, 3) := by decide +kernel
theorem dX4_renew_45 : decode cX4_renew 45 = .ok (.iconst 0, 1) := by decide +kernel
theorem dX4_renew_46 : decode cX4_renew 46 = .ok (.invokestatic 21, 3) := by decide +kernel
theorem dX4_renew_49 : decode cX4_renew 49 = .ok (.iinc 4 1, 3) := by decide +kernel
theorem dX4_renew_52 : decode cX4_renew 52 = .ok (.goto (-31), 3) := by decide +kernel
theorem dX4_renew_55 : decode cX4_renew 55 = .ok (.return_, 1) := by decide +kernel
set_option maxRecDepth 20000 in
theorem ggX4_forget_X6_set : GoodIn wsX4_forget wsX6_set := goodIn_r _ [5] (by decide +kernel) (by decide +kernel)
set_option maxRecDepth 20000 in
theorem gX4_forget_X6_set_n21 : GoodIn wsX4_forget (wsX6_set) := ggX4_forget_X6_set
theorem dX4_forget_0 : decode cX4_forget 0 = .ok (.aload_n 0, 1) := by decide +kernel
theorem dX4_forget_1 : decode cX4_forget 1 = .ok (.getfield 9, 3) := by decide +kernel
theorem dX4_forget_4 : decode cX4_forget 4 = .ok (.iload_n 1, 1) := by decide +kernel
theorem dX4_forget_5 : decode cX4_forget 5 = .ok (.iconst (-1), 1) := by decide +kernel
theorem dX4_forget_6 : decode cX4_forget 6 = .ok (.invokestatic 21, 3) := by decide +kernel
theorem dX4_forget_9 : decode cX4_forget 9 = .ok (.aload_n 0, 1) := by decide +kernel
theorem dX4_forget_10 : decode cX4_forget 10 = .ok (.getfield 15, 3) := by decide +kernel
theorem dX4_forget_13 : decode cX4_forget 13 = .ok (.iload_n 1, 1) := by decide +kernel
theorem dX4_forget_14 : decode cX4_forget 14 = .ok (.iconst 0, 1) := by decide +kernel
theorem dX4_forget_15 : decode cX4_forget 15 = .ok (.invokestatic 21, 3) := by decide +kernel
theorem dX4_forget_18 : decode cX4_forget 18 = .ok (.return_, 1) := by decide +kernel
theorem dX4_indexOf_0 : decode cX4_indexOf 0 = .ok (.iload_n 1, 1) := by decide +kernel
theorem dX4_indexOf_1 : decode cX4_indexOf 1 = .ok (.bipush 60, 2) := by decide +kernel
theorem dX4_indexOf_3 : decode cX4_indexOf 3 = .ok (.imul, 1) := by decide +kernel
theorem dX4_indexOf_4 : decode cX4_indexOf 4 = .ok (.iload_n 2, 1) := by decide +kernel
theorem dX4_indexOf_5 : decode cX4_indexOf 5 = .ok (.iadd, 1) := by decide +kernel
theorem dX4_indexOf_6 : decode cX4_indexOf 6 = .ok (.ireturn, 1) := by decide +kernel
set_option maxRecDepth 20000 in
theorem ggX4_read_X4_indexOf : GoodIn wsX4_read wsX4_indexOf := goodIn_r _ [6] (by decide +kernel) (by decide +kernel)
set_option maxRecDepth 20000 in
theorem gX4_read_X4_indexOf : GoodIn wsX4_read (wsV RX4 37 RX4 yX4_indexOf wsX4_indexOf) := goodIn_app (goodIn_of _ (by decide +kernel)) ggX4_read_X4_indexOf
set_option maxRecDepth 20000 in
theorem ggX4_read_X6_at : GoodIn wsX4_read wsX6_at := goodIn_r _ [9] (by decide +kernel) (by decide +kernel)
set_option maxRecDepth 20000 in
theorem gX4_read_X6_at_n29 : GoodIn wsX4_read (wsX6_at) := ggX4_read_X6_at
theorem dX4_read_0 : decode cX4_read 0 = .ok (.aload_n 0, 1) := by decide +kernel
theorem dX4_read_1 : decode cX4_read 1 = .ok (.getfield 18, 3) := by decide +kernel
theorem dX4_read_4 : decode cX4_read 4 = .ok (.aload_n 0, 1) := by decide +kernel
theorem dX4_read_5 : decode cX4_read 5 = .ok (.iload_n 1, 1) := by decide +kernel
theorem dX4_read_6 : decode cX4_read 6 = .ok (.iload_n 2, 1) := by decide +kernel
theorem dX4_read_7 : decode cX4_read 7 = .ok (.invokevirtual 37, 3) := by decide +kernel
theorem dX4_read_10 : decode cX4_read 10 = .ok (.invokestatic 29, 3) := by decide +kernel
theorem dX4_read_13 : decode cX4_read 13 = .ok (.ireturn, 1) := by decide +kernel
set_option maxRecDepth 20000 in
theorem ggX4_write_X6_at : GoodIn wsX4_write wsX6_at := goodIn_r _ [5] (by decide +kernel) (by decide +kernel)
set_option maxRecDepth 20000 in
theorem gX4_write_X6_at_n29 : GoodIn wsX4_write (wsX6_at) := ggX4_write_X6_at
set_option maxRecDepth 20000 in
theorem ggX4_write_X4_indexOf : GoodIn wsX4_write wsX4_indexOf := goodIn_r _ [10] (by decide +kernel) (by decide +kernel)
set_option maxRecDepth 20000 in
theorem gX4_write_X4_indexOf : GoodIn wsX4_write (wsV RX4 37 RX4 yX4_indexOf wsX4_indexOf) := goodIn_app (goodIn_of _ (by decide +kernel)) ggX4_write_X4_indexOf
set_option maxRecDepth 20000 in
theorem ggX4_write_X6_set : GoodIn wsX4_write wsX6_set := goodIn_r _ [12] (by decide +kernel) (by decide +kernel)
set_option maxRecDepth 20000 in
theorem gX4_write_X6_set_n21 : GoodIn wsX4_write (wsX6_set) := ggX4_write_X6_set
theorem dX4_write_0 : decode cX4_write 0 = .ok (.iload_n 3, 1) := by decide +kernel
theorem dX4_write_1 : decode cX4_write 1 = .ok (.istore 4, 2) := by decide +kernel
theorem dX4_write_3 : decode cX4_write 3 = .ok (.aload_n 0, 1) := by decide +kernel
theorem dX4_write_4 : decode cX4_write 4 = .ok (.getfield 9, 3) := by decide +kernel
theorem dX4_write_7 : decode cX4_write 7 = .ok (.iload_n 1, 1) := by decide +kernel
theorem dX4_write_8 : decode cX4_write 8 = .ok (.invokestatic 29, 3) := by decide +kernel
theorem dX4_write_11 : decode cX4_write 11 = .ok (.ifCond .ne 7, 3) := by decide +kernel
theorem dX4_write_14 : decode cX4_write 14 = .ok (.iload_n 3, 1) := by decide +kernel
theorem dX4_write_15 : decode cX4_write 15 = .ok (.i2b, 1) := by decide +kernel
theorem dX4_write_16 : decode cX4_write 16 = .ok (.istore 4, 2) := by decide +kernel
theorem dX4_write_18 : decode cX4_write 18 = .ok (.aload_n 0, 1) := by decide +kernel
theorem dX4_write_19 : decode cX4_write 19 = .ok (.getfield 9, 3) := by decide +kernel
theorem dX4_write_22 : decode cX4_write 22 = .ok (.iload_n 1, 1) := by decide +kernel
theorem dX4_write_23 : decode cX4_write 23 = .ok (.invokestatic 29, 3) := by decide +kernel
theorem dX4_write_26 : decode cX4_write 26 = .ok (.iconst 1, 1) := by decide +kernel
theorem dX4_write_27 : decode cX4_write 27 = .ok (.if_icmp .ne 7, 3) := by decide +kernel
theorem dX4_write_30 : decode cX4_write 30 = .ok (.iload_n 3, 1) := by decide +kernel
theorem dX4_write_31 : decode cX4_write 31 = .ok (.i2s, 1) := by decide +kernel
theorem dX4_write_32 : decode cX4_write 32 = .ok (.istore 4, 2) := by decide +kernel
theorem dX4_write_34 : decode cX4_write 34 = .ok (.aload_n 0, 1) := by decide +kernel
theorem dX4_write_35 : decode cX4_write 35 = .ok (.getfield 18, 3) := by decide +kernel
theorem dX4_write_38 : decode cX4_write 38 = .ok (.aload_n 0, 1) := by decide +kernel
theorem dX4_write_39 : decode cX4_write 39 = .ok (.iload_n 1, 1) := by decide +kernel
theorem dX4_write_40 : decode cX4_write 40 = .ok (.iload_n 2, 1) := by decide +kernel
theorem dX4_write_41 : decode cX4_write 41 = .ok (.invokevirtual 37, 3) := by decide +kernel
theorem dX4_write_44 : decode cX4_write 44 = .ok (.iload 4, 2) := by decide +kernel
theorem dX4_write_46 : decode cX4_write 46 = .ok (.invokestatic 21, 3) := by decide +kernel
theorem dX4_write_49 : decode cX4_write 49 = .ok (.return_, 1) := by decide +kernel
theorem dX5_init_0 : decode cX5_init 0 = .ok (.aload_n 0, 1) := by decide +kernel
theorem dX5_init_1 : decode cX5_init 1 = .ok (.invokespecial 3, 3) := by decide +kernel
theorem dX5_init_4 : decode cX5_init 4 = .ok (.aload_n 0, 1) := by decide +kernel
theorem dX5_init_5 : decode cX5_init 5 = .ok (.iconst 3, 1) := by decide +kernel
theorem dX5_init_6 : decode cX5_init 6 = .ok (.newarray .int, 2) := by decide +kernel
theorem dX5_init_8 : decode cX5_init 8 = .ok (.putfield 9, 3) := by decide +kernel
theorem dX5_init_11 : decode cX5_init 11 = .ok (.aload_n 0, 1) := by decide +kernel
theorem dX5_init_12 : decode cX5_init 12 = .ok (.iconst 3, 1) := by decide +kernel
theorem dX5_init_13 : decode cX5_init 13 = .ok (.newarray .int, 2) := by decide +kernel
theorem dX5_init_15 : decode cX5_init 15 = .ok (.putfield 15, 3) := by decide +kernel
theorem dX5_init_18 : decode cX5_init 18 = .ok (.aload_n 0, 1) := by decide +kernel
theorem dX5_init_19 : decode cX5_init 19 = .ok (.aload_n 1, 1) := by decide +kernel
theorem dX5_init_20 : decode cX5_init 20 = .ok (.putfield 18, 3) := by decide +kernel
theorem dX5_init_23 : decode cX5_init 23 = .ok (.return_, 1) := by decide +kernel
set_option maxRecDepth 20000 in
theorem ggX5_isTaken_X4_indexOf : GoodIn wsX5_isTaken wsX4_indexOf := goodIn_r _ [14] (by decide +kernel) (by decide +kernel)
set_option maxRecDepth 20000 in
theorem gX5_isTaken_X4_indexOf : GoodIn wsX5_isTaken (wsV RX5 22 RX4 yX4_indexOf wsX4_indexOf) := goodIn_app (goodIn_of _ (by decide +kernel)) ggX5_isTaken_X4_indexOf
set_option maxRecDepth 20000 in
theorem ggX5_isTaken_X5_takes : GoodIn wsX5_isTaken wsX5_takes := goodIn_r _ [19, 4, 3, 20, 21, 22, 18, 23, 1, 2, 24, 25, 26, 45, 46, 47, 48, 49, 50, 51, 52, 53, 54, 55, 56, 57, 58] (by decide +kernel) (by decide +kernel)
set_option maxRecDepth 20000 in
theorem gX5_isTaken_X5_takes : GoodIn wsX5_isTaken (wsV RX5 44 RX5 yX5_takes wsX5_takes) := goodIn_app (goodIn_of _ (by decide +kernel)) ggX5_isTaken_X5_takes
set_option maxRecDepth 20000 in
theorem ggX5_isTaken_X5_takesNumber : GoodIn wsX5_isTaken wsX5_takesNumber := goodIn_r _ [30, 4, 7, 31, 32, 33, 18, 34, 3, 20, 21, 22, 23, 1, 2, 24, 25, 26, 35, 36, 45, 46, 47, 48, 49, 50, 51, 52, 53, 54, 55, 56, 57, 58] (by decide +kernel) (by decide +kernel)
set_option maxRecDepth 20000 in
theorem gX5_isTaken_X5_takesNumber : GoodIn wsX5_isTaken (wsV RX5 48 RX5 yX5_takesNumber wsX5_takesNumber) := goodIn_app (goodIn_of _ (by decide +kernel)) ggX5_isTaken_X5_takesNumber
set_option maxRecDepth 20000 in
theorem ggX5_isTaken_X5_takesSort : GoodIn wsX5_isTaken wsX5_takesSort := goodIn_r _ [40, 6, 7, 41, 42, 5, 15, 16, 17, 18, 19, 4, 3, 20, 21, 22, 23, 1, 2, 24, 25, 26, 27, 28, 29, 30, 31, 32, 33, 34, 35, 36, 43, 44, 45, 46, 47, 48, 49, 50, 51, 52, 53, 54, 55, 56, 57, 58] (by decide +kernel) (by decide +kernel)
set_option maxRecDepth 20000 in
theorem gX5_isTaken_X5_takesSort : GoodIn wsX5_isTaken (wsV RX5 61 RX5 yX5_takesSort wsX5_takesSort) := goodIn_app (goodIn_of _ (by decide +kernel)) ggX5_isTaken_X5_takesSort
theorem dX5_isTaken_0 : decode cX5_isTaken 0 = .ok (.aload_n 0, 1) := by decide +kernel
theorem dX5_isTaken_1 : decode cX5_isTaken 1 = .ok (.aload_n 0, 1) := by decide +kernel
theorem dX5_isTaken_2 : decode cX5_isTaken 2 = .ok (.getfield 18, 3) := by decide +kernel
theorem dX5_isTaken_5 : decode cX5_isTaken 5 = .ok (.iload_n 1, 1) := by decide +kernel
theorem dX5_isTaken_6 : decode cX5_isTaken 6 = .ok (.iload_n 2, 1) := by decide +kernel
theorem dX5_isTaken_7 : decode cX5_isTaken 7 = .ok (.invokevirtual 22, 3) := by decide +kernel
theorem dX5_isTaken_10 : decode cX5_isTaken 10 = .ok (.putfield 28, 3) := by decide +kernel
theorem dX5_isTaken_13 : decode cX5_isTaken 13 = .ok (.aload_n 0, 1) := by decide +kernel
theorem dX5_isTaken_14 : decode cX5_isTaken 14 = .ok (.iload_n 3, 1) := by decide +kernel
theorem dX5_isTaken_15 : decode cX5_isTaken 15 = .ok (.putfield 32, 3) := by decide +kernel
theorem dX5_isTaken_18 : decode cX5_isTaken 18 = .ok (.aload_n 0, 1) := by decide +kernel
theorem dX5_isTaken_19 : decode cX5_isTaken 19 = .ok (.iconst 0, 1) := by decide +kernel
theorem dX5_isTaken_20 : decode cX5_isTaken 20 = .ok (.putfield 35, 3) := by decide +kernel
theorem dX5_isTaken_23 : decode cX5_isTaken 23 = .ok (.aload_n 0, 1) := by decide +kernel
theorem dX5_isTaken_24 : decode cX5_isTaken 24 = .ok (.iconst 0, 1) := by decide +kernel
theorem dX5_isTaken_25 : decode cX5_isTaken 25 = .ok (.putfield 38, 3) := by decide +kernel
theorem dX5_isTaken_28 : decode cX5_isTaken 28 = .ok (.aload_n 0, 1) := by decide +kernel
theorem dX5_isTaken_29 : decode cX5_isTaken 29 = .ok (.bipush 11, 2) := by decide +kernel
theorem dX5_isTaken_31 : decode cX5_isTaken 31 = .ok (.putfield 41, 3) := by decide +kernel
theorem dX5_isTaken_34 : decode cX5_isTaken 34 = .ok (.aload_n 0, 1) := by decide +kernel
theorem dX5_isTaken_35 : decode cX5_isTaken 35 = .ok (.bipush 109, 2) := by decide +kernel
theorem dX5_isTaken_37 : decode cX5_isTaken 37 = .ok (.invokevirtual 44, 3) := by decide +kernel
theorem dX5_isTaken_40 : decode cX5_isTaken 40 = .ok (.ifCond .eq 13, 3) := by decide +kernel
theorem dX5_isTaken_43 : decode cX5_isTaken 43 = .ok (.aload_n 0, 1) := by decide +kernel
theorem dX5_isTaken_44 : decode cX5_isTaken 44 = .ok (.iconst 1, 1) := by decide +kernel
theorem dX5_isTaken_45 : decode cX5_isTaken 45 = .ok (.bipush 11, 2) := by decide +kernel
theorem dX5_isTaken_47 : decode cX5_isTaken 47 = .ok (.invokevirtual 48, 3) := by decide +kernel
theorem dX5_isTaken_50 : decode cX5_isTaken 50 = .ok (.ifCond .ne 5, 3) := by decide +kernel
theorem dX5_isTaken_53 : decode cX5_isTaken 53 = .ok (.iconst 0, 1) := by decide +kernel
theorem dX5_isTaken_54 : decode cX5_isTaken 54 = .ok (.ireturn, 1) := by decide +kernel
theorem dX5_isTaken_55 : decode cX5_isTaken 55 = .ok (.aload_n 0, 1) := by decide +kernel
theorem dX5_isTaken_56 : decode cX5_isTaken 56 = .ok (.aload_n 0, 1) := by decide +kernel
theorem dX5_isTaken_57 : decode cX5_isTaken 57 = .ok (.getfield 52, 3) := by decide +kernel
theorem dX5_isTaken_60 : decode cX5_isTaken 60 = .ok (.putfield 55, 3) := by decide +kernel
theorem dX5_isTaken_63 : decode cX5_isTaken 63 = .ok (.aload_n 0, 1) := by decide +kernel
theorem dX5_isTaken_64 : decode cX5_isTaken 64 = .ok (.bipush 59, 2) := by decide +kernel
theorem dX5_isTaken_66 : decode cX5_isTaken 66 = .ok (.invokevirtual 44, 3) := by decide +kernel
theorem dX5_isTaken_69 : decode cX5_isTaken 69 = .ok (.ifCond .eq 22, 3) := by decide +kernel
theorem dX5_isTaken_72 : decode cX5_isTaken 72 = .ok (.aload_n 0, 1) := by decide +kernel
theorem dX5_isTaken_73 : decode cX5_isTaken 73 = .ok (.bipush 99, 2) := by decide +kernel
theorem dX5_isTaken_75 : decode cX5_isTaken 75 = .ok (.invokevirtual 44, 3) := by decide +kernel
theorem dX5_isTaken_78 : decode cX5_isTaken 78 = .ok (.ifCond .eq 13, 3) := by decide +kernel
theorem dX5_isTaken_81 : decode cX5_isTaken 81 = .ok (.aload_n 0, 1) := by decide +kernel
theorem dX5_isTaken_82 : decode cX5_isTaken 82 = .ok (.iconst 1, 1) := by decide +kernel
theorem dX5_isTaken_83 : decode cX5_isTaken 83 = .ok (.bipush 9, 2) := by decide +kernel
theorem dX5_isTaken_85 : decode cX5_isTaken 85 = .ok (.invokevirtual 48, 3) := by decide +kernel
theorem dX5_isTaken_88 : decode cX5_isTaken 88 = .ok (.ifCond .ne 5, 3) := by decide +kernel
theorem dX5_isTaken_91 : decode cX5_isTaken 91 = .ok (.iconst 0, 1) := by decide +kernel
theorem dX5_isTaken_92 : decode cX5_isTaken 92 = .ok (.ireturn, 1) := by decide +kernel
theorem dX5_isTaken_93 : decode cX5_isTaken 93 = .ok (.aload_n 0, 1) := by decide +kernel
theorem dX5_isTaken_94 : decode cX5_isTaken 94 = .ok (.aload_n 0, 1) := by decide +kernel
theorem dX5_isTaken_95 : decode cX5_isTaken 95 = .ok (.getfield 52, 3) := by decide +kernel
theorem dX5_isTaken_98 : decode cX5_isTaken 98 = .ok (.putfield 58, 3) := by decide +kernel
theorem dX5_isTaken_101 : decode cX5_isTaken 101 = .ok (.iconst 0, 1) := by decide +kernel
theorem dX5_isTaken_102 : decode cX5_isTaken 102 = .ok (.istore 4, 2) := by decide +kernel
theorem dX5_isTaken_104 : decode cX5_isTaken 104 = .ok (.iload 4, 2) := by decide +kernel
theorem dX5_isTaken_106 : decode cX5_isTaken 106 = .ok (.iconst 3, 1) := by decide +kernel
theorem dX5_isTaken_107 : decode cX5_isTaken 107 = .ok (.if_icmp .ge 40, 3) := by decide +kernel
theorem dX5_isTaken_110 : decode cX5_isTaken 110 = .ok (.aload_n 0, 1) := by decide +kernel
theorem dX5_isTaken_111 : decode cX5_isTaken 111 = .ok (.getfield 35, 3) := by decide +kernel
theorem dX5_isTaken_114 : decode cX5_isTaken 114 = .ok (.aload_n 0, 1) := by decide +kernel
theorem dX5_isTaken_115 : decode cX5_isTaken 115 = .ok (.getfield 32, 3) := by decide +kernel
theorem dX5_isTaken_118 : decode cX5_isTaken 118 = .ok (.if_icmp .ge 29, 3) := by decide +kernel
theorem dX5_isTaken_121 : decode cX5_isTaken 121 = .ok (.aload_n 0, 1) := by decide +kernel
theorem dX5_isTaken_122 : decode cX5_isTaken 122 = .ok (.bipush 59, 2) := by decide +kernel
theorem dX5_isTaken_124 : decode cX5_isTaken 124 = .ok (.invokevirtual 44, 3) := by decide +kernel
theorem dX5_isTaken_127 : decode cX5_isTaken 127 = .ok (.ifCond .eq 12, 3) := by decide +kernel
theorem dX5_isTaken_130 : decode cX5_isTaken 130 = .ok (.aload_n 0, 1) := by decide +kernel
theorem dX5_isTaken_131 : decode cX5_isTaken 131 = .ok (.iload 4, 2) := by decide +kernel
theorem dX5_isTaken_133 : decode cX5_isTaken 133 = .ok (.invokevirtual 61, 3) := by decide +kernel
theorem dX5_isTaken_136 : decode cX5_isTaken 136 = .ok (.ifCond .ne 5, 3) := by decide +kernel
theorem dX5_isTaken_139 : decode cX5_isTaken 139 = .ok (.iconst 0, 1) := by decide +kernel
theorem dX5_isTaken_140 : decode cX5_isTaken 140 = .ok (.ireturn, 1) := by decide +kernel
theorem dX5_isTaken_141 : decode cX5_isTaken 141 = .ok (.iinc 4 1, 3) := by decide +kernel
theorem dX5_isTaken_144 : decode cX5_isTaken 144 = .ok (.goto (-40), 3) := by decide +kernel
theorem dX5_isTaken_147 : decode cX5_isTaken 147 = .ok (.aload_n 0, 1) := by decide +kernel
theorem dX5_isTaken_148 : decode cX5_isTaken 148 = .ok (.getfield 35, 3) := by decide +kernel
theorem dX5_isTaken_151 : decode cX5_isTaken 151 = .ok (.aload_n 0, 1) := by decide +kernel
theorem dX5_isTaken_152 : decode cX5_isTaken 152 = .ok (.getfield 32, 3) := by decide +kernel
theorem dX5_isTaken_155 : decode cX5_isTaken 155 = .ok (.if_icmp .ne 7, 3) := by decide +kernel
theorem dX5_isTaken_158 : decode cX5_isTaken 158 = .ok (.iconst 1, 1) := by decide +kernel
theorem dX5_isTaken_159 : decode cX5_isTaken 159 = .ok (.goto 4, 3) := by decide +kernel
theorem dX5_isTaken_162 : decode cX5_isTaken 162 = .ok (.iconst 0, 1) := by decide +kernel
theorem dX5_isTaken_163 : decode cX5_isTaken 163 = .ok (.ireturn, 1) := by decide +kernel
set_option maxRecDepth 20000 in
theorem ggX5_takesSort_X5_takes : GoodIn wsX5_takesSort wsX5_takes := goodIn_r _ [10, 11, 12, 13, 14, 15, 9, 16, 17, 18, 19, 20, 21, 34, 35, 36, 37, 38, 39, 40, 41, 42, 43, 44, 45, 46, 47] (by decide +kernel) (by decide +kernel)
set_option maxRecDepth 20000 in
theorem gX5_takesSort_X5_takes : GoodIn wsX5_takesSort (wsV RX5 44 RX5 yX5_takes wsX5_takes) := goodIn_app (goodIn_of _ (by decide +kernel)) ggX5_takesSort_X5_takes
set_option maxRecDepth 20000 in
theorem ggX5_takesSort_X5_takesNumber : GoodIn wsX5_takesSort wsX5_takesNumber := goodIn_r _ [25, 11, 2, 26, 27, 28, 9, 29, 12, 13, 14, 15, 16, 17, 18, 19, 20, 21, 30, 31, 34, 35, 36, 37, 38, 39, 40, 41, 42, 43, 44, 45, 46, 47] (by decide +kernel) (by decide +kernel)
set_option maxRecDepth 20000 in
theorem gX5_takesSort_X5_takesNumber : GoodIn wsX5_takesSort (wsV RX5 48 RX5 yX5_takesNumber wsX5_takesNumber) := goodIn_app (goodIn_of _ (by decide +kernel)) ggX5_takesSort_X5_takesNumber
set_option maxRecDepth 20000 in
theorem ggX5_takesSort_X6_set : GoodIn wsX5_takesSort wsX6_set := goodIn_r _ [33] (by decide +kernel) (by decide +kernel)
set_option maxRecDepth 20000 in
theorem gX5_takesSort_X6_set_n64 : GoodIn wsX5_takesSort (wsX6_set) := ggX5_takesSort_X6_set
theorem dX5_takesSort_0 : decode cX5_takesSort 0 = .ok (.aload_n 0, 1) := by decide +kernel
theorem dX5_takesSort_1 : decode cX5_takesSort 1 = .ok (.bipush 115, 2) := by decide +kernel
theorem dX5_takesSort_3 : decode cX5_takesSort 3 = .ok (.invokevirtual 44, 3) := by decide +kernel
theorem dX5_takesSort_6 : decode cX5_takesSort 6 = .ok (.ifCond .eq 15, 3) := by decide +kernel
theorem dX5_takesSort_9 : decode cX5_takesSort 9 = .ok (.aload_n 0, 1) := by decide +kernel
theorem dX5_takesSort_10 : decode cX5_takesSort 10 = .ok (.iconst 1, 1) := by decide +kernel
theorem dX5_takesSort_11 : decode cX5_takesSort 11 = .ok (.aload_n 0, 1) := by decide +kernel
theorem dX5_takesSort_12 : decode cX5_takesSort 12 = .ok (.getfield 41, 3) := by decide +kernel
theorem dX5_takesSort_15 : decode cX5_takesSort 15 = .ok (.invokevirtual 48, 3) := by decide +kernel
theorem dX5_takesSort_18 : decode cX5_takesSort 18 = .ok (.ifCond .ne 5, 3) := by decide +kernel
theorem dX5_takesSort_21 : decode cX5_takesSort 21 = .ok (.iconst 0, 1) := by decide +kernel
theorem dX5_takesSort_22 : decode cX5_takesSort 22 = .ok (.ireturn, 1) := by decide +kernel
theorem dX5_takesSort_23 : decode cX5_takesSort 23 = .ok (.aload_n 0, 1) := by decide +kernel
theorem dX5_takesSort_24 : decode cX5_takesSort 24 = .ok (.dup, 1) := by decide +kernel
theorem dX5_takesSort_25 : decode cX5_takesSort 25 = .ok (.getfield 41, 3) := by decide +kernel
theorem dX5_takesSort_28 : decode cX5_takesSort 28 = .ok (.aload_n 0, 1) := by decide +kernel
theorem dX5_takesSort_29 : decode cX5_takesSort 29 = .ok (.getfield 52, 3) := by decide +kernel
theorem dX5_takesSort_32 : decode cX5_takesSort 32 = .ok (.isub, 1) := by decide +kernel
theorem dX5_takesSort_33 : decode cX5_takesSort 33 = .ok (.putfield 41, 3) := by decide +kernel
theorem dX5_takesSort_36 : decode cX5_takesSort 36 = .ok (.aload_n 0, 1) := by decide +kernel
theorem dX5_takesSort_37 : decode cX5_takesSort 37 = .ok (.getfield 9, 3) := by decide +kernel
theorem dX5_takesSort_40 : decode cX5_takesSort 40 = .ok (.iload_n 1, 1) := by decide +kernel
theorem dX5_takesSort_41 : decode cX5_takesSort 41 = .ok (.aload_n 0, 1) := by decide +kernel
theorem dX5_takesSort_42 : decode cX5_takesSort 42 = .ok (.getfield 52, 3) := by decide +kernel
theorem dX5_takesSort_45 : decode cX5_takesSort 45 = .ok (.invokestatic 64, 3) := by decide +kernel
theorem dX5_takesSort_48 : decode cX5_takesSort 48 = .ok (.aload_n 0, 1) := by decide +kernel
theorem dX5_takesSort_49 : decode cX5_takesSort 49 = .ok (.bipush 118, 2) := by decide +kernel
theorem dX5_takesSort_51 : decode cX5_takesSort 51 = .ok (.invokevirtual 44, 3) := by decide +kernel
theorem dX5_takesSort_54 : decode cX5_takesSort 54 = .ok (.ifCond .eq 14, 3) := by decide +kernel
theorem dX5_takesSort_57 : decode cX5_takesSort 57 = .ok (.aload_n 0, 1) := by decide +kernel
theorem dX5_takesSort_58 : decode cX5_takesSort 58 = .ok (.iconst 0, 1) := by decide +kernel
theorem dX5_takesSort_59 : decode cX5_takesSort 59 = .ok (.sipush 999, 3) := by decide +kernel
theorem dX5_takesSort_62 : decode cX5_takesSort 62 = .ok (.invokevirtual 48, 3) := by decide +kernel
theorem dX5_takesSort_65 : decode cX5_takesSort 65 = .ok (.ifCond .ne 5, 3) := by decide +kernel
theorem dX5_takesSort_68 : decode cX5_takesSort 68 = .ok (.iconst 0, 1) := by decide +kernel
theorem dX5_takesSort_69 : decode cX5_takesSort 69 = .ok (.ireturn, 1) := by decide +kernel
theorem dX5_takesSort_70 : decode cX5_takesSort 70 = .ok (.aload_n 0, 1) := by decide +kernel
theorem dX5_takesSort_71 : decode cX5_takesSort 71 = .ok (.getfield 15, 3) := by decide +kernel
theorem dX5_takesSort_74 : decode cX5_takesSort 74 = .ok (.iload_n 1, 1) := by decide +kernel
theorem dX5_takesSort_75 : decode cX5_takesSort 75 = .ok (.aload_n 0, 1) := by decide +kernel
theorem dX5_takesSort_76 : decode cX5_takesSort 76 = .ok (.getfield 52, 3) := by decide +kernel
theorem dX5_takesSort_79 : decode cX5_takesSort 79 = .ok (.invokestatic 64, 3) := by decide +kernel
theorem dX5_takesSort_82 : decode cX5_takesSort 82 = .ok (.aload_n 0, 1) := by decide +kernel
theorem dX5_takesSort_83 : decode cX5_takesSort 83 = .ok (.iload_n 1, 1) := by decide +kernel
theorem dX5_takesSort_84 : decode cX5_takesSort 84 = .ok (.iconst 1, 1) := by decide +kernel
theorem dX5_takesSort_85 : decode cX5_takesSort 85 = .ok (.iadd, 1) := by decide +kernel
theorem dX5_takesSort_86 : decode cX5_takesSort 86 = .ok (.putfield 38, 3) := by decide +kernel
theorem dX5_takesSort_89 : decode cX5_takesSort 89 = .ok (.iconst 1, 1) := by decide +kernel
theorem dX5_takesSort_90 : decode cX5_takesSort 90 = .ok (.ireturn, 1) := by decide +kernel
set_option maxRecDepth 20000 in
theorem ggX5_takes_X5_codeAtNext : GoodIn wsX5_takes wsX5_codeAtNext := goodIn_r _ [7, 8, 9, 1, 10, 11, 12, 13, 14, 15, 16, 17, 18, 19, 20, 21, 22, 23, 24, 25, 26] (by decide +kernel) (by decide +kernel)
set_option maxRecDepth 20000 in
theorem gX5_takes_X5_codeAtNext : GoodIn wsX5_takes (wsV RX5 68 RX5 yX5_codeAtNext wsX5_codeAtNext) := goodIn_app (goodIn_of _ (by decide +kernel)) ggX5_takes_X5_codeAtNext
theorem dX5_takes_0 : decode cX5_takes 0 = .ok (.aload_n 0, 1) := by decide +kernel
theorem dX5_takes_1 : decode cX5_takes 1 = .ok (.getfield 35, 3) := by decide +kernel
theorem dX5_takes_4 : decode cX5_takes 4 = .ok (.aload_n 0, 1) := by decide +kernel
theorem dX5_takes_5 : decode cX5_takes 5 = .ok (.getfield 32, 3) := by decide +kernel
theorem dX5_takes_8 : decode cX5_takes 8 = .ok (.if_icmp .ge 11, 3) := by decide +kernel
theorem dX5_takes_11 : decode cX5_takes 11 = .ok (.aload_n 0, 1) := by decide +kernel
theorem dX5_takes_12 : decode cX5_takes 12 = .ok (.invokevirtual 68, 3) := by decide +kernel
theorem dX5_takes_15 : decode cX5_takes 15 = .ok (.iload_n 1, 1) := by decide +kernel
theorem dX5_takes_16 : decode cX5_takes 16 = .ok (.if_icmp .eq 5, 3) := by decide +kernel
theorem dX5_takes_19 : decode cX5_takes 19 = .ok (.iconst 0, 1) := by decide +kernel
theorem dX5_takes_20 : decode cX5_takes 20 = .ok (.ireturn, 1) := by decide +kernel
theorem dX5_takes_21 : decode cX5_takes 21 = .ok (.aload_n 0, 1) := by decide +kernel
theorem dX5_takes_22 : decode cX5_takes 22 = .ok (.dup, 1) := by decide +kernel
theorem dX5_takes_23 : decode cX5_takes 23 = .ok (.getfield 35, 3) := by decide +kernel
theorem dX5_takes_26 : decode cX5_takes 26 = .ok (.iconst 1, 1) := by decide +kernel
theorem dX5_takes_27 : decode cX5_takes 27 = .ok (.iadd, 1) := by decide +kernel
theorem dX5_takes_28 : decode cX5_takes 28 = .ok (.putfield 35, 3) := by decide +kernel
theorem dX5_takes_31 : decode cX5_takes 31 = .ok (.iconst 1, 1) := by decide +kernel
theorem dX5_takes_32 : decode cX5_takes 32 = .ok (.ireturn, 1) := by decide +kernel
set_option maxRecDepth 20000 in
theorem ggX5_takesNumber_X5_isDigitNext : GoodIn wsX5_takesNumber wsX5_isDigitNext := goodIn_r _ [7, 1, 8, 9, 10, 11, 6, 12, 13, 14, 15, 16, 17, 18, 19, 20, 21, 22, 23, 24, 25, 26, 27, 28, 29, 30, 31, 32, 33] (by decide +kernel) (by decide +kernel)
set_option maxRecDepth 20000 in
theorem gX5_takesNumber_X5_isDigitNext : GoodIn wsX5_takesNumber (wsV RX5 72 RX5 yX5_isDigitNext wsX5_isDigitNext) := goodIn_app (goodIn_of _ (by decide +kernel)) ggX5_takesNumber_X5_isDigitNext
set_option maxRecDepth 20000 in
theorem ggX5_takesNumber_X5_codeAtNext : GoodIn wsX5_takesNumber wsX5_codeAtNext := goodIn_r _ [12, 13, 14, 1, 15, 16, 17, 20, 21, 22, 23, 24, 25, 26, 27, 28, 29, 30, 31, 32, 33] (by decide +kernel) (by decide +kernel)
set_option maxRecDepth 20000 in
theorem gX5_takesNumber_X5_codeAtNext : GoodIn wsX5_takesNumber (wsV RX5 68 RX5 yX5_codeAtNext wsX5_codeAtNext) := goodIn_app (goodIn_of _ (by decide +kernel)) ggX5_takesNumber_X5_codeAtNext
set_option maxRecDepth 20000 in
theorem ggX5_takesNumber_X6_isWithin : GoodIn wsX5_takesNumber wsX6_isWithin := goodIn_r _ [19] (by decide +kernel) (by decide +kernel)
set_option maxRecDepth 20000 in
theorem gX5_takesNumber_X6_isWithin_n76 : GoodIn wsX5_takesNumber (wsX6_isWithin) := ggX5_takesNumber_X6_isWithin
theorem dX5_takesNumber_0 : decode cX5_takesNumber 0 = .ok (.aload_n 0, 1) := by decide +kernel
theorem dX5_takesNumber_1 : decode cX5_takesNumber 1 = .ok (.getfield 35, 3) := by decide +kernel
theorem dX5_takesNumber_4 : decode cX5_takesNumber 4 = .ok (.istore_n 3, 1) := by decide +kernel
theorem dX5_takesNumber_5 : decode cX5_takesNumber 5 = .ok (.aload_n 0, 1) := by decide +kernel
theorem dX5_takesNumber_6 : decode cX5_takesNumber 6 = .ok (.iconst 0, 1) := by decide +kernel
theorem dX5_takesNumber_7 : decode cX5_takesNumber 7 = .ok (.putfield 52, 3) := by decide +kernel
theorem dX5_takesNumber_10 : decode cX5_takesNumber 10 = .ok (.iconst 0, 1) := by decide +kernel
theorem dX5_takesNumber_11 : decode cX5_takesNumber 11 = .ok (.istore 4, 2) := by decide +kernel
theorem dX5_takesNumber_13 : decode cX5_takesNumber 13 = .ok (.iload 4, 2) := by decide +kernel
theorem dX5_takesNumber_15 : decode cX5_takesNumber 15 = .ok (.iconst 3, 1) := by decide +kernel
theorem dX5_takesNumber_16 : decode cX5_takesNumber 16 = .ok (.if_icmp .ge 45, 3) := by decide +kernel
theorem dX5_takesNumber_19 : decode cX5_takesNumber 19 = .ok (.aload_n 0, 1) := by decide +kernel
theorem dX5_takesNumber_20 : decode cX5_takesNumber 20 = .ok (.invokevirtual 72, 3) := by decide +kernel
theorem dX5_takesNumber_23 : decode cX5_takesNumber 23 = .ok (.ifCond .eq 38, 3) := by decide +kernel
theorem dX5_takesNumber_26 : decode cX5_takesNumber 26 = .ok (.aload_n 0, 1) := by decide +kernel
theorem dX5_takesNumber_27 : decode cX5_takesNumber 27 = .ok (.bipush 10, 2) := by decide +kernel
theorem dX5_takesNumber_29 : decode cX5_takesNumber 29 = .ok (.aload_n 0, 1) := by decide +kernel
theorem dX5_takesNumber_30 : decode cX5_takesNumber 30 = .ok (.getfield 52, 3) := by decide +kernel
theorem dX5_takesNumber_33 : decode cX5_takesNumber 33 = .ok (.imul, 1) := by decide +kernel
theorem dX5_takesNumber_34 : decode cX5_takesNumber 34 = .ok (.aload_n 0, 1) := by decide +kernel
theorem dX5_takesNumber_35 : decode cX5_takesNumber 35 = .ok (.invokevirtual 68, 3) := by decide +kernel
theorem dX5_takesNumber_38 : decode cX5_takesNumber 38 = .ok (.iadd, 1) := by decide +kernel
theorem dX5_takesNumber_39 : decode cX5_takesNumber 39 = .ok (.bipush 48, 2) := by decide +kernel
theorem dX5_takesNumber_41 : decode cX5_takesNumber 41 = .ok (.isub, 1) := by decide +kernel
theorem dX5_takesNumber_42 : decode cX5_takesNumber 42 = .ok (.putfield 52, 3) := by decide +kernel
theorem dX5_takesNumber_45 : decode cX5_takesNumber 45 = .ok (.aload_n 0, 1) := by decide +kernel
theorem dX5_takesNumber_46 : decode cX5_takesNumber 46 = .ok (.dup, 1) := by decide +kernel
theorem dX5_takesNumber_47 : decode cX5_takesNumber 47 = .ok (.getfield 35, 3) := by decide +kernel
theorem dX5_takesNumber_50 : decode cX5_takesNumber 50 = .ok (.iconst 1, 1) := by decide +kernel
theorem dX5_takesNumber_51 : decode cX5_takesNumber 51 = .ok (.iadd, 1) := by decide +kernel
theorem dX5_takesNumber_52 : decode cX5_takesNumber 52 = .ok (.putfield 35, 3) := by decide +kernel
theorem dX5_takesNumber_55 : decode cX5_takesNumber 55 = .ok (.iinc 4 1, 3) := by decide +kernel
theorem dX5_takesNumber_58 : decode cX5_takesNumber 58 = .ok (.goto (-45), 3) := by decide +kernel
theorem dX5_takesNumber_61 : decode cX5_takesNumber 61 = .ok (.aload_n 0, 1) := by decide +kernel
theorem dX5_takesNumber_62 : decode cX5_takesNumber 62 = .ok (.getfield 35, 3) := by decide +kernel
theorem dX5_takesNumber_65 : decode cX5_takesNumber 65 = .ok (.iload_n 3, 1) := by decide +kernel
theorem dX5_takesNumber_66 : decode cX5_takesNumber 66 = .ok (.if_icmp .le 17, 3) := by decide +kernel
theorem dX5_takesNumber_69 : decode cX5_takesNumber 69 = .ok (.aload_n 0, 1) := by decide +kernel
theorem dX5_takesNumber_70 : decode cX5_takesNumber 70 = .ok (.getfield 52, 3) := by decide +kernel
theorem dX5_takesNumber_73 : decode cX5_takesNumber 73 = .ok (.iload_n 1, 1) := by decide +kernel
theorem dX5_takesNumber_74 : decode cX5_takesNumber 74 = .ok (.iload_n 2, 1) := by decide +kernel
theorem dX5_takesNumber_75 : decode cX5_takesNumber 75 = .ok (.invokestatic 76, 3) := by decide +kernel
theorem dX5_takesNumber_78 : decode cX5_takesNumber 78 = .ok (.ifCond .eq 5, 3) := by decide +kernel
theorem dX5_takesNumber_81 : decode cX5_takesNumber 81 = .ok (.iconst 1, 1) := by decide +kernel
theorem dX5_takesNumber_82 : decode cX5_takesNumber 82 = .ok (.ireturn, 1) := by decide +kernel
theorem dX5_takesNumber_83 : decode cX5_takesNumber 83 = .ok (.aload_n 0, 1) := by decide +kernel
theorem dX5_takesNumber_84 : decode cX5_takesNumber 84 = .ok (.iload_n 3, 1) := by decide +kernel
theorem dX5_takesNumber_85 : decode cX5_takesNumber 85 = .ok (.putfield 35, 3) := by decide +kernel
theorem dX5_takesNumber_88 : decode cX5_takesNumber 88 = .ok (.iconst 0, 1) := by decide +kernel
theorem dX5_takesNumber_89 : decode cX5_takesNumber 89 = .ok (.ireturn, 1) := by decide +kernel
set_option maxRecDepth 20000 in
theorem ggX5_isDigitNext_X5_codeAtNext : GoodIn wsX5_isDigitNext wsX5_codeAtNext := goodIn_r _ [7, 8, 9, 1, 10, 11, 12, 15, 16, 17, 18, 19, 20, 21, 22, 23, 24, 25, 26, 27, 28] (by decide +kernel) (by decide +kernel)
set_option maxRecDepth 20000 in
theorem gX5_isDigitNext_X5_codeAtNext : GoodIn wsX5_isDigitNext (wsV RX5 68 RX5 yX5_codeAtNext wsX5_codeAtNext) := goodIn_app (goodIn_of _ (by decide +kernel)) ggX5_isDigitNext_X5_codeAtNext
set_option maxRecDepth 20000 in
theorem ggX5_isDigitNext_X6_isWithin : GoodIn wsX5_isDigitNext wsX6_isWithin := goodIn_r _ [14] (by decide +kernel) (by decide +kernel)
set_option maxRecDepth 20000 in
theorem gX5_isDigitNext_X6_isWithin_n76 : GoodIn wsX5_isDigitNext (wsX6_isWithin) := ggX5_isDigitNext_X6_isWithin
theorem dX5_isDigitNext_0 : decode cX5_isDigitNext 0 = .ok (.aload_n 0, 1) := by decide +kernel
theorem dX5_isDigitNext_1 : decode cX5_isDigitNext 1 = .ok (.getfield 35, 3) := by decide +kernel
theorem dX5_isDigitNext_4 : decode cX5_isDigitNext 4 = .ok (.aload_n 0, 1) := by decide +kernel
theorem dX5_isDigitNext_5 : decode cX5_isDigitNext 5 = .ok (.getfield 32, 3) := by decide +kernel
theorem dX5_isDigitNext_8 : decode cX5_isDigitNext 8 = .ok (.if_icmp .ge 21, 3) := by decide +kernel
theorem dX5_isDigitNext_11 : decode cX5_isDigitNext 11 = .ok (.aload_n 0, 1) := by decide +kernel
theorem dX5_isDigitNext_12 : decode cX5_isDigitNext 12 = .ok (.invokevirtual 68, 3) := by decide +kernel
theorem dX5_isDigitNext_15 : decode cX5_isDigitNext 15 = .ok (.bipush 48, 2) := by decide +kernel
theorem dX5_isDigitNext_17 : decode cX5_isDigitNext 17 = .ok (.bipush 57, 2) := by decide +kernel
theorem dX5_isDigitNext_19 : decode cX5_isDigitNext 19 = .ok (.invokestatic 76, 3) := by decide +kernel
theorem dX5_isDigitNext_22 : decode cX5_isDigitNext 22 = .ok (.ifCond .eq 7, 3) := by decide +kernel
theorem dX5_isDigitNext_25 : decode cX5_isDigitNext 25 = .ok (.iconst 1, 1) := by decide +kernel
theorem dX5_isDigitNext_26 : decode cX5_isDigitNext 26 = .ok (.goto 4, 3) := by decide +kernel
theorem dX5_isDigitNext_29 : decode cX5_isDigitNext 29 = .ok (.iconst 0, 1) := by decide +kernel
theorem dX5_isDigitNext_30 : decode cX5_isDigitNext 30 = .ok (.ireturn, 1) := by decide +kernel
set_option maxRecDepth 20000 in
theorem ggX5_codeAtNext_X6_at : GoodIn wsX5_codeAtNext wsX6_at := goodIn_r _ [6] (by decide +kernel) (by decide +kernel)
set_option maxRecDepth 20000 in
theorem gX5_codeAtNext_X6_at_n83 : GoodIn wsX5_codeAtNext (wsX6_at) := ggX5_codeAtNext_X6_at
theorem dX5_codeAtNext_0 : decode cX5_codeAtNext 0 = .ok (.aload_n 0, 1) := by decide +kernel
theorem dX5_codeAtNext_1 : decode cX5_codeAtNext 1 = .ok (.getfield 18, 3) := by decide +kernel
theorem dX5_codeAtNext_4 : decode cX5_codeAtNext 4 = .ok (.getfield 80, 3) := by decide +kernel
theorem dX5_codeAtNext_7 : decode cX5_codeAtNext 7 = .ok (.aload_n 0, 1) := by decide +kernel
theorem dX5_codeAtNext_8 : decode cX5_codeAtNext 8 = .ok (.getfield 28, 3) := by decide +kernel
theorem dX5_codeAtNext_11 : decode cX5_codeAtNext 11 = .ok (.aload_n 0, 1) := by decide +kernel
theorem dX5_codeAtNext_12 : decode cX5_codeAtNext 12 = .ok (.getfield 35, 3) := by decide +kernel
theorem dX5_codeAtNext_15 : decode cX5_codeAtNext 15 = .ok (.iadd, 1) := by decide +kernel
theorem dX5_codeAtNext_16 : decode cX5_codeAtNext 16 = .ok (.invokestatic 83, 3) := by decide +kernel
theorem dX5_codeAtNext_19 : decode cX5_codeAtNext 19 = .ok (.ireturn, 1) := by decide +kernel
set_option maxRecDepth 20000 in
theorem ggX6_init_X4_init : GoodIn wsX6_init wsX4_init := goodIn_r _ [30, 31, 2, 3, 32, 33, 34, 35, 36, 37, 38, 76, 77, 78] (by decide +kernel) (by decide +kernel)
set_option maxRecDepth 20000 in
theorem gX6_init_X4_init : GoodIn wsX6_init (wsX4_init) := ggX6_init_X4_init
set_option maxRecDepth 20000 in
theorem ggX6_init_X5_init : GoodIn wsX6_init wsX5_init := goodIn_r _ [41, 42, 2, 3, 32, 43, 44, 45, 88, 89, 90, 91, 92, 93, 94, 95, 96, 97, 98] (by decide +kernel) (by decide +kernel)
set_option maxRecDepth 20000 in
theorem gX6_init_X5_init : GoodIn wsX6_init (wsX5_init) := ggX6_init_X5_init
set_option maxRecDepth 20000 in
theorem ggX6_init_X2_init : GoodIn wsX6_init wsX2_init := goodIn_r _ [47, 48, 2, 3, 32, 49, 50, 51, 99, 100, 101, 102, 103, 104, 105, 106, 107, 108] (by decide +kernel) (by decide +kernel)
set_option maxRecDepth 20000 in
theorem gX6_init_X2_init_n29 : GoodIn wsX6_init (wsX2_init) := ggX6_init_X2_init
set_option maxRecDepth 20000 in
theorem ggX6_init_X1_init : GoodIn wsX6_init wsX1_init := goodIn_r _ [53, 54, 2, 3, 32, 55, 56, 57, 58, 59, 109, 110, 111, 112, 113, 114, 115] (by decide +kernel) (by decide +kernel)
set_option maxRecDepth 20000 in
theorem gX6_init_X1_init_n36 : GoodIn wsX6_init (wsX1_init) := ggX6_init_X1_init
set_option maxRecDepth 20000 in
theorem ggX6_init_X0_init : GoodIn wsX6_init wsX0_init := goodIn_r _ [61, 62, 2, 3, 63, 17, 18, 64, 32, 65, 66, 52, 53, 54, 55, 56, 57, 58, 59, 109, 110, 111, 112, 113, 114, 115, 116, 117, 118, 119, 120, 121] (by decide +kernel) (by decide +kernel)
set_option maxRecDepth 20000 in
theorem gX6_init_X0_init_n43 : GoodIn wsX6_init (wsX0_init) := ggX6_init_X0_init
set_option maxRecDepth 20000 in
theorem ggX6_init_X3_init : GoodIn wsX6_init wsX3_init := goodIn_r _ [68, 69, 2, 3, 32, 70, 71, 72, 73, 74, 75, 122, 123, 124, 125, 126, 127, 128, 129, 130] (by decide +kernel) (by decide +kernel)
set_option maxRecDepth 20000 in
theorem gX6_init_X3_init_n50 : GoodIn wsX6_init (wsX3_init) := ggX6_init_X3_init
theorem dX6_init_0 : decode cX6_init 0 = .ok (.aload_n 0, 1) := by decide +kernel
theorem dX6_init_1 : decode cX6_init 1 = .ok (.invokespecial 3, 3) := by decide +kernel
theorem dX6_init_4 : decode cX6_init 4 = .ok (.aload_n 0, 1) := by decide +kernel
theorem dX6_init_5 : decode cX6_init 5 = .ok (.new 9, 3) := by decide +kernel
theorem dX6_init_8 : decode cX6_init 8 = .ok (.dup, 1) := by decide +kernel
theorem dX6_init_9 : decode cX6_init 9 = .ok (.invokespecial 11, 3) := by decide +kernel
theorem dX6_init_12 : decode cX6_init 12 = .ok (.putfield 12, 3) := by decide +kernel
theorem dX6_init_15 : decode cX6_init 15 = .ok (.aload_n 0, 1) := by decide +kernel
theorem dX6_init_16 : decode cX6_init 16 = .ok (.new 18, 3) := by decide +kernel
theorem dX6_init_19 : decode cX6_init 19 = .ok (.dup, 1) := by decide +kernel
theorem dX6_init_20 : decode cX6_init 20 = .ok (.aload_n 0, 1) := by decide +kernel
theorem dX6_init_21 : decode cX6_init 21 = .ok (.getfield 12, 3) := by decide +kernel
theorem dX6_init_24 : decode cX6_init 24 = .ok (.invokespecial 20, 3) := by decide +kernel
theorem dX6_init_27 : decode cX6_init 27 = .ok (.putfield 23, 3) := by decide +kernel
theorem dX6_init_30 : decode cX6_init 30 = .ok (.aload_n 0, 1) := by decide +kernel
theorem dX6_init_31 : decode cX6_init 31 = .ok (.new 27, 3) := by decide +kernel
theorem dX6_init_34 : decode cX6_init 34 = .ok (.dup, 1) := by decide +kernel
theorem dX6_init_35 : decode cX6_init 35 = .ok (.invokespecial 29, 3) := by decide +kernel
theorem dX6_init_38 : decode cX6_init 38 = .ok (.putfield 30, 3) := by decide +kernel
theorem dX6_init_41 : decode cX6_init 41 = .ok (.aload_n 0, 1) := by decide +kernel
theorem dX6_init_42 : decode cX6_init 42 = .ok (.new 34, 3) := by decide +kernel
theorem dX6_init_45 : decode cX6_init 45 = .ok (.dup, 1) := by decide +kernel
theorem dX6_init_46 : decode cX6_init 46 = .ok (.invokespecial 36, 3) := by decide +kernel
theorem dX6_init_49 : decode cX6_init 49 = .ok (.putfield 37, 3) := by decide +kernel
theorem dX6_init_52 : decode cX6_init 52 = .ok (.aload_n 0, 1) := by decide +kernel
theorem dX6_init_53 : decode cX6_init 53 = .ok (.new 41, 3) := by decide +kernel
theorem dX6_init_56 : decode cX6_init 56 = .ok (.dup, 1) := by decide +kernel
theorem dX6_init_57 : decode cX6_init 57 = .ok (.invokespecial 43, 3) := by decide +kernel
theorem dX6_init_60 : decode cX6_init 60 = .ok (.putfield 44, 3) := by decide +kernel
theorem dX6_init_63 : decode cX6_init 63 = .ok (.aload_n 0, 1) := by decide +kernel
theorem dX6_init_64 : decode cX6_init 64 = .ok (.new 48, 3) := by decide +kernel
theorem dX6_init_67 : decode cX6_init 67 = .ok (.dup, 1) := by decide +kernel
theorem dX6_init_68 : decode cX6_init 68 = .ok (.invokespecial 50, 3) := by decide +kernel
theorem dX6_init_71 : decode cX6_init 71 = .ok (.putfield 51, 3) := by decide +kernel
theorem dX6_init_74 : decode cX6_init 74 = .ok (.return_, 1) := by decide +kernel
set_option maxRecDepth 20000 in
theorem ggX6_place_X4_has : GoodIn wsX6_place wsX4_has := goodIn_r _ [11, 12, 13, 14] (by decide +kernel) (by decide +kernel)
set_option maxRecDepth 20000 in
theorem gX6_place_X4_has : GoodIn wsX6_place (wsV RX6 59 RX4 yX4_has wsX4_has) := goodIn_app (goodIn_of _ (by decide +kernel)) ggX6_place_X4_has
set_option maxRecDepth 20000 in
theorem ggX6_place_X6_isWithin : GoodIn wsX6_place wsX6_isWithin := goodIn_r _ [14] (by decide +kernel) (by decide +kernel)
set_option maxRecDepth 20000 in
theorem gX6_place_X6_isWithin : GoodIn wsX6_place (va_wsS RX6 63 yX6_isWithin wsX6_isWithin) := goodIn_app (goodIn_of _ (by decide +kernel)) ggX6_place_X6_isWithin
set_option maxRecDepth 20000 in
theorem ggX6_place_X4_isOfAnotherLane : GoodIn wsX6_place wsX4_isOfAnotherLane := goodIn_r _ [19, 20, 21, 22, 23, 10, 24, 25, 13, 26, 138, 139, 140] (by decide +kernel) (by decide +kernel)
set_option maxRecDepth 20000 in
theorem gX6_place_X4_isOfAnotherLane : GoodIn wsX6_place (wsV RX6 67 RX4 yX4_isOfAnotherLane wsX4_isOfAnotherLane) := goodIn_app (goodIn_of _ (by decide +kernel)) ggX6_place_X4_isOfAnotherLane
set_option maxRecDepth 20000 in
theorem ggX6_place_X6_faulted : GoodIn wsX6_place wsX6_faulted := goodIn_r _ [30, 1, 108, 109, 110, 111, 112, 113, 114, 115, 116] (by decide +kernel) (by decide +kernel)
set_option maxRecDepth 20000 in
theorem gX6_place_X6_faulted : GoodIn wsX6_place (wsV RX6 71 RX6 yX6_faulted wsX6_faulted) := goodIn_app (goodIn_of _ (by decide +kernel)) ggX6_place_X6_faulted
set_option maxRecDepth 20000 in
theorem ggX6_place_X4_hasNothing : GoodIn wsX6_place wsX4_hasNothing := goodIn_r _ [24, 20, 25, 13, 26, 138, 139, 140] (by decide +kernel) (by decide +kernel)
set_option maxRecDepth 20000 in
theorem gX6_place_X4_hasNothing : GoodIn wsX6_place (wsV RX6 75 RX4 yX4_hasNothing wsX4_hasNothing) := goodIn_app (goodIn_of _ (by decide +kernel)) ggX6_place_X4_hasNothing
set_option maxRecDepth 20000 in
theorem ggX6_place_X4_sizeOf : GoodIn wsX6_place wsX4_sizeOf := goodIn_r _ [35, 36, 25, 13, 26, 138, 139, 140] (by decide +kernel) (by decide +kernel)
set_option maxRecDepth 20000 in
theorem gX6_place_X4_sizeOf : GoodIn wsX6_place (wsV RX6 78 RX4 yX4_sizeOf wsX4_sizeOf) := goodIn_app (goodIn_of _ (by decide +kernel)) ggX6_place_X4_sizeOf
set_option maxRecDepth 20000 in
theorem ggX6_place_X5_isTaken : GoodIn wsX6_place wsX5_isTaken := goodIn_r _ [41, 42, 43, 44, 45, 46, 47, 48, 49, 50, 51, 52, 53, 10, 54, 55, 56, 57, 40, 58, 59, 60, 61, 62, 25, 13, 26, 63, 64, 65, 66, 67, 68, 69, 70, 12, 14, 71, 72, 73, 74, 75, 76, 77, 78, 117, 118, 119, 120, 121, 122, 123, 124, 125, 126, 127, 138, 139, 140] (by decide +kernel) (by decide +kernel)
set_option maxRecDepth 20000 in
theorem gX6_place_X5_isTaken : GoodIn wsX6_place (wsV RX6 81 RX5 yX5_isTaken wsX5_isTaken) := goodIn_app (goodIn_of _ (by decide +kernel)) ggX6_place_X5_isTaken
set_option maxRecDepth 20000 in
theorem ggX6_place_X2_becomes : GoodIn wsX6_place wsX2_becomes := goodIn_r _ [83, 84, 85, 86, 87, 88, 89, 90, 91, 92, 93, 25, 13, 26, 77, 78, 128, 129, 130, 131, 132, 133, 134, 135, 136, 137, 117, 118, 119, 120, 121, 122, 123, 124, 125, 126, 127] (by decide +kernel) (by decide +kernel)
set_option maxRecDepth 20000 in
theorem gX6_place_X2_becomes : GoodIn wsX6_place (wsV RX6 87 RX2 yX2_becomes wsX2_becomes) := goodIn_app (goodIn_of _ (by decide +kernel)) ggX6_place_X2_becomes
set_option maxRecDepth 20000 in
theorem ggX6_place_X3_empties : GoodIn wsX6_place wsX3_empties := goodIn_r _ [98, 99, 100, 101, 141, 142, 143, 144, 145, 146, 147, 148, 149] (by decide +kernel) (by decide +kernel)
set_option maxRecDepth 20000 in
theorem gX6_place_X3_empties : GoodIn wsX6_place (wsV RX6 91 RX3 yX3_empties wsX3_empties) := goodIn_app (goodIn_of _ (by decide +kernel)) ggX6_place_X3_empties
set_option maxRecDepth 20000 in
theorem ggX6_place_X0_forgets : GoodIn wsX6_place wsX0_forgets := goodIn_r _ [106, 107, 150, 151, 152, 153, 154, 155] (by decide +kernel) (by decide +kernel)
set_option maxRecDepth 20000 in
theorem gX6_place_X0_forgets : GoodIn wsX6_place (wsV RX6 94 RX0 yX0_forgets wsX0_forgets) := goodIn_app (goodIn_of _ (by decide +kernel)) ggX6_place_X0_forgets
theorem dX6_place_0 : decode cX6_place 0 = .ok (.aload_n 0, 1) := by decide +kernel
theorem dX6_place_1 : decode cX6_place 1 = .ok (.iconst 0, 1) := by decide +kernel
theorem dX6_place_2 : decode cX6_place 2 = .ok (.putfield 55, 3) := by decide +kernel
theorem dX6_place_5 : decode cX6_place 5 = .ok (.aload_n 0, 1) := by decide +kernel
theorem dX6_place_6 : decode cX6_place 6 = .ok (.getfield 12, 3) := by decide +kernel
theorem dX6_place_9 : decode cX6_place 9 = .ok (.iload_n 1, 1) := by decide +kernel
theorem dX6_place_10 : decode cX6_place 10 = .ok (.invokevirtual 59, 3) := by decide +kernel
theorem dX6_place_13 : decode cX6_place 13 = .ok (.ifCond .ne 5, 3) := by decide +kernel
theorem dX6_place_16 : decode cX6_place 16 = .ok (.iconst (-1), 1) := by decide +kernel
theorem dX6_place_17 : decode cX6_place 17 = .ok (.ireturn, 1) := by decide +kernel
theorem dX6_place_18 : decode cX6_place 18 = .ok (.iload_n 2, 1) := by decide +kernel
theorem dX6_place_19 : decode cX6_place 19 = .ok (.iconst 0, 1) := by decide +kernel
theorem dX6_place_20 : decode cX6_place 20 = .ok (.iconst 2, 1) := by decide +kernel
theorem dX6_place_21 : decode cX6_place 21 = .ok (.invokestatic 63, 3) := by decide +kernel
theorem dX6_place_24 : decode cX6_place 24 = .ok (.ifCond .ne 6, 3) := by decide +kernel
theorem dX6_place_27 : decode cX6_place 27 = .ok (.bipush (-2), 2) := by decide +kernel
theorem dX6_place_29 : decode cX6_place 29 = .ok (.ireturn, 1) := by decide +kernel
theorem dX6_place_30 : decode cX6_place 30 = .ok (.aload_n 0, 1) := by decide +kernel
theorem dX6_place_31 : decode cX6_place 31 = .ok (.getfield 12, 3) := by decide +kernel
theorem dX6_place_34 : decode cX6_place 34 = .ok (.iload_n 1, 1) := by decide +kernel
theorem dX6_place_35 : decode cX6_place 35 = .ok (.iload_n 2, 1) := by decide +kernel
theorem dX6_place_36 : decode cX6_place 36 = .ok (.invokevirtual 67, 3) := by decide +kernel
theorem dX6_place_39 : decode cX6_place 39 = .ok (.ifCond .eq 9, 3) := by decide +kernel
theorem dX6_place_42 : decode cX6_place 42 = .ok (.aload_n 0, 1) := by decide +kernel
theorem dX6_place_43 : decode cX6_place 43 = .ok (.iconst 2, 1) := by decide +kernel
theorem dX6_place_44 : decode cX6_place 44 = .ok (.invokevirtual 71, 3) := by decide +kernel
theorem dX6_place_47 : decode cX6_place 47 = .ok (.ireturn, 1) := by decide +kernel
theorem dX6_place_48 : decode cX6_place 48 = .ok (.aload_n 0, 1) := by decide +kernel
theorem dX6_place_49 : decode cX6_place 49 = .ok (.getfield 12, 3) := by decide +kernel
theorem dX6_place_52 : decode cX6_place 52 = .ok (.iload_n 1, 1) := by decide +kernel
theorem dX6_place_53 : decode cX6_place 53 = .ok (.invokevirtual 75, 3) := by decide +kernel
theorem dX6_place_56 : decode cX6_place 56 = .ok (.ifCond .eq 9, 3) := by decide +kernel
theorem dX6_place_59 : decode cX6_place 59 = .ok (.aload_n 0, 1) := by decide +kernel
theorem dX6_place_60 : decode cX6_place 60 = .ok (.iconst 1, 1) := by decide +kernel
theorem dX6_place_61 : decode cX6_place 61 = .ok (.invokevirtual 71, 3) := by decide +kernel
theorem dX6_place_64 : decode cX6_place 64 = .ok (.ireturn, 1) := by decide +kernel
theorem dX6_place_65 : decode cX6_place 65 = .ok (.iload 4, 2) := by decide +kernel
theorem dX6_place_67 : decode cX6_place 67 = .ok (.ifCond .ge 9, 3) := by decide +kernel
theorem dX6_place_70 : decode cX6_place 70 = .ok (.aload_n 0, 1) := by decide +kernel
theorem dX6_place_71 : decode cX6_place 71 = .ok (.iconst 4, 1) := by decide +kernel
theorem dX6_place_72 : decode cX6_place 72 = .ok (.invokevirtual 71, 3) := by decide +kernel
theorem dX6_place_75 : decode cX6_place 75 = .ok (.ireturn, 1) := by decide +kernel
theorem dX6_place_76 : decode cX6_place 76 = .ok (.aload_n 0, 1) := by decide +kernel
theorem dX6_place_77 : decode cX6_place 77 = .ok (.getfield 12, 3) := by decide +kernel
theorem dX6_place_80 : decode cX6_place 80 = .ok (.iload_n 1, 1) := by decide +kernel
theorem dX6_place_81 : decode cX6_place 81 = .ok (.invokevirtual 78, 3) := by decide +kernel
theorem dX6_place_84 : decode cX6_place 84 = .ok (.istore 5, 2) := by decide +kernel
theorem dX6_place_86 : decode cX6_place 86 = .ok (.iload_n 3, 1) := by decide +kernel
theorem dX6_place_87 : decode cX6_place 87 = .ok (.iconst 0, 1) := by decide +kernel
theorem dX6_place_88 : decode cX6_place 88 = .ok (.iload 5, 2) := by decide +kernel
theorem dX6_place_90 : decode cX6_place 90 = .ok (.invokestatic 63, 3) := by decide +kernel
theorem dX6_place_93 : decode cX6_place 93 = .ok (.ifCond .eq 12, 3) := by decide +kernel
theorem dX6_place_96 : decode cX6_place 96 = .ok (.iload 4, 2) := by decide +kernel
theorem dX6_place_98 : decode cX6_place 98 = .ok (.iload 5, 2) := by decide +kernel
theorem dX6_place_100 : decode cX6_place 100 = .ok (.iload_n 3, 1) := by decide +kernel
theorem dX6_place_101 : decode cX6_place 101 = .ok (.isub, 1) := by decide +kernel
theorem dX6_place_102 : decode cX6_place 102 = .ok (.if_icmp .le 9, 3) := by decide +kernel
theorem dX6_place_105 : decode cX6_place 105 = .ok (.aload_n 0, 1) := by decide +kernel
theorem dX6_place_106 : decode cX6_place 106 = .ok (.iconst 3, 1) := by decide +kernel
theorem dX6_place_107 : decode cX6_place 107 = .ok (.invokevirtual 71, 3) := by decide +kernel
theorem dX6_place_110 : decode cX6_place 110 = .ok (.ireturn, 1) := by decide +kernel
theorem dX6_place_111 : decode cX6_place 111 = .ok (.aload_n 0, 1) := by decide +kernel
theorem dX6_place_112 : decode cX6_place 112 = .ok (.getfield 23, 3) := by decide +kernel
theorem dX6_place_115 : decode cX6_place 115 = .ok (.iload_n 1, 1) := by decide +kernel
theorem dX6_place_116 : decode cX6_place 116 = .ok (.iload_n 3, 1) := by decide +kernel
theorem dX6_place_117 : decode cX6_place 117 = .ok (.iload 4, 2) := by decide +kernel
theorem dX6_place_119 : decode cX6_place 119 = .ok (.invokevirtual 81, 3) := by decide +kernel
theorem dX6_place_122 : decode cX6_place 122 = .ok (.ifCond .ne 14, 3) := by decide +kernel
theorem dX6_place_125 : decode cX6_place 125 = .ok (.bipush (-100), 2) := by decide +kernel
theorem dX6_place_127 : decode cX6_place 127 = .ok (.aload_n 0, 1) := by decide +kernel
theorem dX6_place_128 : decode cX6_place 128 = .ok (.getfield 23, 3) := by decide +kernel
theorem dX6_place_131 : decode cX6_place 131 = .ok (.getfield 84, 3) := by decide +kernel
theorem dX6_place_134 : decode cX6_place 134 = .ok (.isub, 1) := by decide +kernel
theorem dX6_place_135 : decode cX6_place 135 = .ok (.ireturn, 1) := by decide +kernel
theorem dX6_place_136 : decode cX6_place 136 = .ok (.aload_n 0, 1) := by decide +kernel
theorem dX6_place_137 : decode cX6_place 137 = .ok (.getfield 30, 3) := by decide +kernel
theorem dX6_place_140 : decode cX6_place 140 = .ok (.aload_n 0, 1) := by decide +kernel
theorem dX6_place_141 : decode cX6_place 141 = .ok (.getfield 23, 3) := by decide +kernel
theorem dX6_place_144 : decode cX6_place 144 = .ok (.invokevirtual 87, 3) := by decide +kernel
theorem dX6_place_147 : decode cX6_place 147 = .ok (.aload_n 0, 1) := by decide +kernel
theorem dX6_place_148 : decode cX6_place 148 = .ok (.getfield 51, 3) := by decide +kernel
theorem dX6_place_151 : decode cX6_place 151 = .ok (.invokevirtual 91, 3) := by decide +kernel
theorem dX6_place_154 : decode cX6_place 154 = .ok (.aload_n 0, 1) := by decide +kernel
theorem dX6_place_155 : decode cX6_place 155 = .ok (.getfield 44, 3) := by decide +kernel
theorem dX6_place_158 : decode cX6_place 158 = .ok (.invokevirtual 94, 3) := by decide +kernel
theorem dX6_place_161 : decode cX6_place 161 = .ok (.aload_n 0, 1) := by decide +kernel
theorem dX6_place_162 : decode cX6_place 162 = .ok (.getfield 30, 3) := by decide +kernel
theorem dX6_place_165 : decode cX6_place 165 = .ok (.getfield 97, 3) := by decide +kernel
theorem dX6_place_168 : decode cX6_place 168 = .ok (.ireturn, 1) := by decide +kernel
set_option maxRecDepth 20000 in
theorem ggX6_about_X6_isWithin : GoodIn wsX6_about wsX6_isWithin := goodIn_r _ [5] (by decide +kernel) (by decide +kernel)
set_option maxRecDepth 20000 in
theorem gX6_about_X6_isWithin : GoodIn wsX6_about (va_wsS RX6 63 yX6_isWithin wsX6_isWithin) := goodIn_app (goodIn_of _ (by decide +kernel)) ggX6_about_X6_isWithin
set_option maxRecDepth 20000 in
theorem ggX6_about_X2_twelfthsTogether : GoodIn wsX6_about wsX2_twelfthsTogether := goodIn_r _ [10, 11, 12, 13, 4, 14, 24, 25, 26, 27, 28, 29, 30, 31, 32, 33] (by decide +kernel) (by decide +kernel)
set_option maxRecDepth 20000 in
theorem gX6_about_X2_twelfthsTogether : GoodIn wsX6_about (wsV RX6 110 RX2 yX2_twelfthsTogether wsX2_twelfthsTogether) := goodIn_app (goodIn_of _ (by decide +kernel)) ggX6_about_X2_twelfthsTogether
theorem dX6_about_0 : decode cX6_about 0 = .ok (.iload_n 1, 1) := by decide +kernel
theorem dX6_about_1 : decode cX6_about 1 = .ok (.iconst 0, 1) := by decide +kernel
theorem dX6_about_2 : decode cX6_about 2 = .ok (.iconst 5, 1) := by decide +kernel
theorem dX6_about_3 : decode cX6_about 3 = .ok (.invokestatic 63, 3) := by decide +kernel
theorem dX6_about_6 : decode cX6_about 6 = .ok (.ifCond .ne 6, 3) := by decide +kernel
theorem dX6_about_9 : decode cX6_about 9 = .ok (.bipush (-2), 2) := by decide +kernel
theorem dX6_about_11 : decode cX6_about 11 = .ok (.ireturn, 1) := by decide +kernel
theorem dX6_about_12 : decode cX6_about 12 = .ok (.aload_n 0, 1) := by decide +kernel
theorem dX6_about_13 : decode cX6_about 13 = .ok (.getfield 30, 3) := by decide +kernel
theorem dX6_about_16 : decode cX6_about 16 = .ok (.getfield 100, 3) := by decide +kernel
theorem dX6_about_19 : decode cX6_about 19 = .ok (.ifCond .ne 6, 3) := by decide +kernel
theorem dX6_about_22 : decode cX6_about 22 = .ok (.bipush (-3), 2) := by decide +kernel
theorem dX6_about_24 : decode cX6_about 24 = .ok (.ireturn, 1) := by decide +kernel
theorem dX6_about_25 : decode cX6_about 25 = .ok (.iload_n 1, 1) := by decide +kernel
theorem dX6_about_26 : decode cX6_about 26 = .ok (.tableswitch 74 0 4 #[34, 42, 50, 58, 66], 34) := by decide +kernel
theorem dX6_about_60 : decode cX6_about 60 = .ok (.aload_n 0, 1) := by decide +kernel
theorem dX6_about_61 : decode cX6_about 61 = .ok (.getfield 30, 3) := by decide +kernel
theorem dX6_about_64 : decode cX6_about 64 = .ok (.getfield 104, 3) := by decide +kernel
theorem dX6_about_67 : decode cX6_about 67 = .ok (.ireturn, 1) := by decide +kernel
theorem dX6_about_68 : decode cX6_about 68 = .ok (.aload_n 0, 1) := by decide +kernel
theorem dX6_about_69 : decode cX6_about 69 = .ok (.getfield 30, 3) := by decide +kernel
theorem dX6_about_72 : decode cX6_about 72 = .ok (.getfield 107, 3) := by decide +kernel
theorem dX6_about_75 : decode cX6_about 75 = .ok (.ireturn, 1) := by decide +kernel
theorem dX6_about_76 : decode cX6_about 76 = .ok (.aload_n 0, 1) := by decide +kernel
theorem dX6_about_77 : decode cX6_about 77 = .ok (.getfield 30, 3) := by decide +kernel
theorem dX6_about_80 : decode cX6_about 80 = .ok (.invokevirtual 110, 3) := by decide +kernel
theorem dX6_about_83 : decode cX6_about 83 = .ok (.ireturn, 1) := by decide +kernel
theorem dX6_about_84 : decode cX6_about 84 = .ok (.aload_n 0, 1) := by decide +kernel
theorem dX6_about_85 : decode cX6_about 85 = .ok (.getfield 30, 3) := by decide +kernel
theorem dX6_about_88 : decode cX6_about 88 = .ok (.getfield 114, 3) := by decide +kernel
theorem dX6_about_91 : decode cX6_about 91 = .ok (.ireturn, 1) := by decide +kernel
theorem dX6_about_92 : decode cX6_about 92 = .ok (.aload_n 0, 1) := by decide +kernel
theorem dX6_about_93 : decode cX6_about 93 = .ok (.getfield 30, 3) := by decide +kernel
theorem dX6_about_96 : decode cX6_about 96 = .ok (.getfield 117, 3) := by decide +kernel
theorem dX6_about_99 : decode cX6_about 99 = .ok (.ireturn, 1) := by decide +kernel
theorem dX6_about_100 : decode cX6_about 100 = .ok (.aload_n 0, 1) := by decide +kernel
theorem dX6_about_101 : decode cX6_about 101 = .ok (.getfield 30, 3) := by decide +kernel
theorem dX6_about_104 : decode cX6_about 104 = .ok (.getfield 120, 3) := by decide +kernel
theorem dX6_about_107 : decode cX6_about 107 = .ok (.ireturn, 1) := by decide +kernel
set_option maxRecDepth 20000 in
theorem ggX6_ofSort_X2_has : GoodIn wsX6_ofSort wsX2_has := goodIn_r _ [6, 7, 8, 9, 10, 45, 46, 47, 48, 49, 50, 51, 52, 53, 54] (by decide +kernel) (by decide +kernel)
set_option maxRecDepth 20000 in
theorem gX6_ofSort_X2_has : GoodIn wsX6_ofSort (wsV RX6 123 RX2 yX2_has wsX2_has) := goodIn_app (goodIn_of _ (by decide +kernel)) ggX6_ofSort_X2_has
set_option maxRecDepth 20000 in
theorem ggX6_ofSort_X6_at : GoodIn wsX6_ofSort wsX6_at := goodIn_r _ [13] (by decide +kernel) (by decide +kernel)
set_option maxRecDepth 20000 in
theorem gX6_ofSort_X6_at : GoodIn wsX6_ofSort (va_wsS RX6 128 yX6_at wsX6_at) := goodIn_app (goodIn_of _ (by decide +kernel)) ggX6_ofSort_X6_at
set_option maxRecDepth 20000 in
theorem ggX6_ofSort_X2_hisBar : GoodIn wsX6_ofSort wsX2_hisBar := goodIn_r _ [17, 18, 19, 20, 21, 22, 23, 24, 5, 25, 26, 12, 9, 13, 27, 28, 29, 30, 31, 32, 33, 34, 35, 45, 46, 47, 48, 49, 50, 51, 52, 53, 54] (by decide +kernel) (by decide +kernel)
set_option maxRecDepth 20000 in
theorem gX6_ofSort_X2_hisBar : GoodIn wsX6_ofSort (wsV RX6 138 RX2 yX2_hisBar wsX2_hisBar) := goodIn_app (goodIn_of _ (by decide +kernel)) ggX6_ofSort_X2_hisBar
theorem dX6_ofSort_0 : decode cX6_ofSort 0 = .ok (.aload_n 0, 1) := by decide +kernel
theorem dX6_ofSort_1 : decode cX6_ofSort 1 = .ok (.getfield 30, 3) := by decide +kernel
theorem dX6_ofSort_4 : decode cX6_ofSort 4 = .ok (.iload_n 1, 1) := by decide +kernel
theorem dX6_ofSort_5 : decode cX6_ofSort 5 = .ok (.invokevirtual 123, 3) := by decide +kernel
theorem dX6_ofSort_8 : decode cX6_ofSort 8 = .ok (.ifCond .ne 5, 3) := by decide +kernel
theorem dX6_ofSort_11 : decode cX6_ofSort 11 = .ok (.iconst (-1), 1) := by decide +kernel
theorem dX6_ofSort_12 : decode cX6_ofSort 12 = .ok (.ireturn, 1) := by decide +kernel
theorem dX6_ofSort_13 : decode cX6_ofSort 13 = .ok (.iload_n 2, 1) := by decide +kernel
theorem dX6_ofSort_14 : decode cX6_ofSort 14 = .ok (.tableswitch 75 0 3 #[30, 42, 54, 66], 30) := by decide +kernel
theorem dX6_ofSort_44 : decode cX6_ofSort 44 = .ok (.aload_n 0, 1) := by decide +kernel
theorem dX6_ofSort_45 : decode cX6_ofSort 45 = .ok (.getfield 30, 3) := by decide +kernel
theorem dX6_ofSort_48 : decode cX6_ofSort 48 = .ok (.getfield 124, 3) := by decide +kernel
theorem dX6_ofSort_51 : decode cX6_ofSort 51 = .ok (.iload_n 1, 1) := by decide +kernel
theorem dX6_ofSort_52 : decode cX6_ofSort 52 = .ok (.invokestatic 128, 3) := by decide +kernel
theorem dX6_ofSort_55 : decode cX6_ofSort 55 = .ok (.ireturn, 1) := by decide +kernel
theorem dX6_ofSort_56 : decode cX6_ofSort 56 = .ok (.aload_n 0, 1) := by decide +kernel
theorem dX6_ofSort_57 : decode cX6_ofSort 57 = .ok (.getfield 30, 3) := by decide +kernel
theorem dX6_ofSort_60 : decode cX6_ofSort 60 = .ok (.getfield 132, 3) := by decide +kernel
theorem dX6_ofSort_63 : decode cX6_ofSort 63 = .ok (.iload_n 1, 1) := by decide +kernel
theorem dX6_ofSort_64 : decode cX6_ofSort 64 = .ok (.invokestatic 128, 3) := by decide +kernel
theorem dX6_ofSort_67 : decode cX6_ofSort 67 = .ok (.ireturn, 1) := by decide +kernel
theorem dX6_ofSort_68 : decode cX6_ofSort 68 = .ok (.aload_n 0, 1) := by decide +kernel
theorem dX6_ofSort_69 : decode cX6_ofSort 69 = .ok (.getfield 30, 3) := by decide +kernel
theorem dX6_ofSort_72 : decode cX6_ofSort 72 = .ok (.getfield 135, 3) := by decide +kernel
theorem dX6_ofSort_75 : decode cX6_ofSort 75 = .ok (.iload_n 1, 1) := by decide +kernel
theorem dX6_ofSort_76 : decode cX6_ofSort 76 = .ok (.invokestatic 128, 3) := by decide +kernel
theorem dX6_ofSort_79 : decode cX6_ofSort 79 = .ok (.ireturn, 1) := by decide +kernel
theorem dX6_ofSort_80 : decode cX6_ofSort 80 = .ok (.aload_n 0, 1) := by decide +kernel
theorem dX6_ofSort_81 : decode cX6_ofSort 81 = .ok (.getfield 30, 3) := by decide +kernel
theorem dX6_ofSort_84 : decode cX6_ofSort 84 = .ok (.iload_n 1, 1) := by decide +kernel
theorem dX6_ofSort_85 : decode cX6_ofSort 85 = .ok (.invokevirtual 138, 3) := by decide +kernel
theorem dX6_ofSort_88 : decode cX6_ofSort 88 = .ok (.ireturn, 1) := by decide +kernel
theorem dX6_ofSort_89 : decode cX6_ofSort 89 = .ok (.bipush (-2), 2) := by decide +kernel
theorem dX6_ofSort_91 : decode cX6_ofSort 91 = .ok (.ireturn, 1) := by decide +kernel
set_option maxRecDepth 20000 in
theorem ggX6_bar_X2_has : GoodIn wsX6_bar wsX2_has := goodIn_r _ [6, 7, 8, 9, 10, 27, 28, 29, 30, 31, 32, 33, 34, 35, 36] (by decide +kernel) (by decide +kernel)
set_option maxRecDepth 20000 in
theorem gX6_bar_X2_has : GoodIn wsX6_bar (wsV RX6 123 RX2 yX2_has wsX2_has) := goodIn_app (goodIn_of _ (by decide +kernel)) ggX6_bar_X2_has
set_option maxRecDepth 20000 in
theorem ggX6_bar_X6_isWithin : GoodIn wsX6_bar wsX6_isWithin := goodIn_r _ [10] (by decide +kernel) (by decide +kernel)
set_option maxRecDepth 20000 in
theorem gX6_bar_X6_isWithin : GoodIn wsX6_bar (va_wsS RX6 63 yX6_isWithin wsX6_isWithin) := goodIn_app (goodIn_of _ (by decide +kernel)) ggX6_bar_X6_isWithin
set_option maxRecDepth 20000 in
theorem ggX6_bar_X6_at : GoodIn wsX6_bar wsX6_at := goodIn_r _ [14] (by decide +kernel) (by decide +kernel)
set_option maxRecDepth 20000 in
theorem gX6_bar_X6_at : GoodIn wsX6_bar (va_wsS RX6 128 yX6_at wsX6_at) := goodIn_app (goodIn_of _ (by decide +kernel)) ggX6_bar_X6_at
set_option maxRecDepth 20000 in
theorem ggX6_bar_X6_set : GoodIn wsX6_bar wsX6_set := goodIn_r _ [17] (by decide +kernel) (by decide +kernel)
set_option maxRecDepth 20000 in
theorem gX6_bar_X6_set : GoodIn wsX6_bar (va_wsS RX6 141 yX6_set wsX6_set) := goodIn_app (goodIn_of _ (by decide +kernel)) ggX6_bar_X6_set
theorem dX6_bar_0 : decode cX6_bar 0 = .ok (.aload_n 0, 1) := by decide +kernel
theorem dX6_bar_1 : decode cX6_bar 1 = .ok (.getfield 30, 3) := by decide +kernel
theorem dX6_bar_4 : decode cX6_bar 4 = .ok (.iload_n 1, 1) := by decide +kernel
theorem dX6_bar_5 : decode cX6_bar 5 = .ok (.invokevirtual 123, 3) := by decide +kernel
theorem dX6_bar_8 : decode cX6_bar 8 = .ok (.ifCond .ne 5, 3) := by decide +kernel
theorem dX6_bar_11 : decode cX6_bar 11 = .ok (.iconst (-1), 1) := by decide +kernel
theorem dX6_bar_12 : decode cX6_bar 12 = .ok (.ireturn, 1) := by decide +kernel
theorem dX6_bar_13 : decode cX6_bar 13 = .ok (.iload_n 2, 1) := by decide +kernel
theorem dX6_bar_14 : decode cX6_bar 14 = .ok (.iconst 0, 1) := by decide +kernel
theorem dX6_bar_15 : decode cX6_bar 15 = .ok (.iconst 5, 1) := by decide +kernel
theorem dX6_bar_16 : decode cX6_bar 16 = .ok (.invokestatic 63, 3) := by decide +kernel
theorem dX6_bar_19 : decode cX6_bar 19 = .ok (.ifCond .ne 6, 3) := by decide +kernel
theorem dX6_bar_22 : decode cX6_bar 22 = .ok (.bipush (-2), 2) := by decide +kernel
theorem dX6_bar_24 : decode cX6_bar 24 = .ok (.ireturn, 1) := by decide +kernel
theorem dX6_bar_25 : decode cX6_bar 25 = .ok (.aload_n 0, 1) := by decide +kernel
theorem dX6_bar_26 : decode cX6_bar 26 = .ok (.getfield 30, 3) := by decide +kernel
theorem dX6_bar_29 : decode cX6_bar 29 = .ok (.getfield 135, 3) := by decide +kernel
theorem dX6_bar_32 : decode cX6_bar 32 = .ok (.iload_n 1, 1) := by decide +kernel
theorem dX6_bar_33 : decode cX6_bar 33 = .ok (.invokestatic 128, 3) := by decide +kernel
theorem dX6_bar_36 : decode cX6_bar 36 = .ok (.istore_n 3, 1) := by decide +kernel
theorem dX6_bar_37 : decode cX6_bar 37 = .ok (.aload_n 0, 1) := by decide +kernel
theorem dX6_bar_38 : decode cX6_bar 38 = .ok (.getfield 30, 3) := by decide +kernel
theorem dX6_bar_41 : decode cX6_bar 41 = .ok (.getfield 135, 3) := by decide +kernel
theorem dX6_bar_44 : decode cX6_bar 44 = .ok (.iload_n 1, 1) := by decide +kernel
theorem dX6_bar_45 : decode cX6_bar 45 = .ok (.iload_n 2, 1) := by decide +kernel
theorem dX6_bar_46 : decode cX6_bar 46 = .ok (.invokestatic 141, 3) := by decide +kernel
theorem dX6_bar_49 : decode cX6_bar 49 = .ok (.iload_n 3, 1) := by decide +kernel
theorem dX6_bar_50 : decode cX6_bar 50 = .ok (.ireturn, 1) := by decide +kernel
set_option maxRecDepth 20000 in
theorem ggX6_toll_X6_isWithin : GoodIn wsX6_toll wsX6_isWithin := goodIn_r _ [5] (by decide +kernel) (by decide +kernel)
set_option maxRecDepth 20000 in
theorem gX6_toll_X6_isWithin : GoodIn wsX6_toll (va_wsS RX6 63 yX6_isWithin wsX6_isWithin) := goodIn_app (goodIn_of _ (by decide +kernel)) ggX6_toll_X6_isWithin
theorem dX6_toll_0 : decode cX6_toll 0 = .ok (.iload_n 1, 1) := by decide +kernel
theorem dX6_toll_1 : decode cX6_toll 1 = .ok (.iconst 0, 1) := by decide +kernel
theorem dX6_toll_2 : decode cX6_toll 2 = .ok (.sipush 999, 3) := by decide +kernel
theorem dX6_toll_5 : decode cX6_toll 5 = .ok (.invokestatic 63, 3) := by decide +kernel
theorem dX6_toll_8 : decode cX6_toll 8 = .ok (.ifCond .ne 6, 3) := by decide +kernel
theorem dX6_toll_11 : decode cX6_toll 11 = .ok (.bipush (-2), 2) := by decide +kernel
theorem dX6_toll_13 : decode cX6_toll 13 = .ok (.ireturn, 1) := by decide +kernel
theorem dX6_toll_14 : decode cX6_toll 14 = .ok (.aload_n 0, 1) := by decide +kernel
theorem dX6_toll_15 : decode cX6_toll 15 = .ok (.getfield 30, 3) := by decide +kernel
theorem dX6_toll_18 : decode cX6_toll 18 = .ok (.getfield 100, 3) := by decide +kernel
theorem dX6_toll_21 : decode cX6_toll 21 = .ok (.ifCond .ne 6, 3) := by decide +kernel
theorem dX6_toll_24 : decode cX6_toll 24 = .ok (.bipush (-3), 2) := by decide +kernel
theorem dX6_toll_26 : decode cX6_toll 26 = .ok (.ireturn, 1) := by decide +kernel
theorem dX6_toll_27 : decode cX6_toll 27 = .ok (.aload_n 0, 1) := by decide +kernel
theorem dX6_toll_28 : decode cX6_toll 28 = .ok (.getfield 30, 3) := by decide +kernel
theorem dX6_toll_31 : decode cX6_toll 31 = .ok (.getfield 114, 3) := by decide +kernel
theorem dX6_toll_34 : decode cX6_toll 34 = .ok (.istore_n 2, 1) := by decide +kernel
theorem dX6_toll_35 : decode cX6_toll 35 = .ok (.aload_n 0, 1) := by decide +kernel
theorem dX6_toll_36 : decode cX6_toll 36 = .ok (.getfield 30, 3) := by decide +kernel
theorem dX6_toll_39 : decode cX6_toll 39 = .ok (.iload_n 1, 1) := by decide +kernel
theorem dX6_toll_40 : decode cX6_toll 40 = .ok (.putfield 114, 3) := by decide +kernel
theorem dX6_toll_43 : decode cX6_toll 43 = .ok (.iload_n 2, 1) := by decide +kernel
theorem dX6_toll_44 : decode cX6_toll 44 = .ok (.ireturn, 1) := by decide +kernel
set_option maxRecDepth 20000 in
theorem ggX6_board_X6_isWithin : GoodIn wsX6_board wsX6_isWithin := goodIn_r _ [5] (by decide +kernel) (by decide +kernel)
set_option maxRecDepth 20000 in
theorem gX6_board_X6_isWithin : GoodIn wsX6_board (va_wsS RX6 63 yX6_isWithin wsX6_isWithin) := goodIn_app (goodIn_of _ (by decide +kernel)) ggX6_board_X6_isWithin
theorem dX6_board_0 : decode cX6_board 0 = .ok (.iload_n 1, 1) := by decide +kernel
theorem dX6_board_1 : decode cX6_board 1 = .ok (.iconst 0, 1) := by decide +kernel
theorem dX6_board_2 : decode cX6_board 2 = .ok (.bipush 20, 2) := by decide +kernel
theorem dX6_board_4 : decode cX6_board 4 = .ok (.invokestatic 63, 3) := by decide +kernel
theorem dX6_board_7 : decode cX6_board 7 = .ok (.ifCond .eq 14, 3) := by decide +kernel
theorem dX6_board_10 : decode cX6_board 10 = .ok (.iload_n 2, 1) := by decide +kernel
theorem dX6_board_11 : decode cX6_board 11 = .ok (.bipush (-20), 2) := by decide +kernel
theorem dX6_board_13 : decode cX6_board 13 = .ok (.bipush 20, 2) := by decide +kernel
theorem dX6_board_15 : decode cX6_board 15 = .ok (.invokestatic 63, 3) := by decide +kernel
theorem dX6_board_18 : decode cX6_board 18 = .ok (.ifCond .ne 6, 3) := by decide +kernel
theorem dX6_board_21 : decode cX6_board 21 = .ok (.bipush (-2), 2) := by decide +kernel
theorem dX6_board_23 : decode cX6_board 23 = .ok (.ireturn, 1) := by decide +kernel
theorem dX6_board_24 : decode cX6_board 24 = .ok (.aload_n 0, 1) := by decide +kernel
theorem dX6_board_25 : decode cX6_board 25 = .ok (.getfield 30, 3) := by decide +kernel
theorem dX6_board_28 : decode cX6_board 28 = .ok (.getfield 100, 3) := by decide +kernel
theorem dX6_board_31 : decode cX6_board 31 = .ok (.ifCond .ne 6, 3) := by decide +kernel
theorem dX6_board_34 : decode cX6_board 34 = .ok (.bipush (-3), 2) := by decide +kernel
theorem dX6_board_36 : decode cX6_board 36 = .ok (.ireturn, 1) := by decide +kernel
theorem dX6_board_37 : decode cX6_board 37 = .ok (.iload_n 1, 1) := by decide +kernel
theorem dX6_board_38 : decode cX6_board 38 = .ok (.ifCond .ne 7, 3) := by decide +kernel
theorem dX6_board_41 : decode cX6_board 41 = .ok (.iconst 0, 1) := by decide +kernel
theorem dX6_board_42 : decode cX6_board 42 = .ok (.goto 4, 3) := by decide +kernel
theorem dX6_board_45 : decode cX6_board 45 = .ok (.iload_n 2, 1) := by decide +kernel
theorem dX6_board_46 : decode cX6_board 46 = .ok (.istore_n 3, 1) := by decide +kernel
theorem dX6_board_47 : decode cX6_board 47 = .ok (.aload_n 0, 1) := by decide +kernel
theorem dX6_board_48 : decode cX6_board 48 = .ok (.getfield 30, 3) := by decide +kernel
theorem dX6_board_51 : decode cX6_board 51 = .ok (.getfield 117, 3) := by decide +kernel
theorem dX6_board_54 : decode cX6_board 54 = .ok (.iload_n 1, 1) := by decide +kernel
theorem dX6_board_55 : decode cX6_board 55 = .ok (.if_icmp .ne 16, 3) := by decide +kernel
theorem dX6_board_58 : decode cX6_board 58 = .ok (.aload_n 0, 1) := by decide +kernel
theorem dX6_board_59 : decode cX6_board 59 = .ok (.getfield 30, 3) := by decide +kernel
theorem dX6_board_62 : decode cX6_board 62 = .ok (.getfield 120, 3) := by decide +kernel
theorem dX6_board_65 : decode cX6_board 65 = .ok (.iload_n 3, 1) := by decide +kernel
theorem dX6_board_66 : decode cX6_board 66 = .ok (.if_icmp .ne 5, 3) := by decide +kernel
theorem dX6_board_69 : decode cX6_board 69 = .ok (.iconst 0, 1) := by decide +kernel
theorem dX6_board_70 : decode cX6_board 70 = .ok (.ireturn, 1) := by decide +kernel
theorem dX6_board_71 : decode cX6_board 71 = .ok (.aload_n 0, 1) := by decide +kernel
theorem dX6_board_72 : decode cX6_board 72 = .ok (.getfield 30, 3) := by decide +kernel
theorem dX6_board_75 : decode cX6_board 75 = .ok (.iload_n 1, 1) := by decide +kernel
theorem dX6_board_76 : decode cX6_board 76 = .ok (.putfield 117, 3) := by decide +kernel
theorem dX6_board_79 : decode cX6_board 79 = .ok (.aload_n 0, 1) := by decide +kernel
theorem dX6_board_80 : decode cX6_board 80 = .ok (.getfield 30, 3) := by decide +kernel
theorem dX6_board_83 : decode cX6_board 83 = .ok (.iload_n 3, 1) := by decide +kernel
theorem dX6_board_84 : decode cX6_board 84 = .ok (.putfield 120, 3) := by decide +kernel
theorem dX6_board_87 : decode cX6_board 87 = .ok (.iconst 1, 1) := by decide +kernel
theorem dX6_board_88 : decode cX6_board 88 = .ok (.ireturn, 1) := by decide +kernel
set_option maxRecDepth 20000 in
theorem ggX6_bars_X6_isWithin : GoodIn wsX6_bars wsX6_isWithin := goodIn_r _ [6] (by decide +kernel) (by decide +kernel)
set_option maxRecDepth 20000 in
theorem gX6_bars_X6_isWithin : GoodIn wsX6_bars (va_wsS RX6 63 yX6_isWithin wsX6_isWithin) := goodIn_app (goodIn_of _ (by decide +kernel)) ggX6_bars_X6_isWithin
set_option maxRecDepth 20000 in
theorem ggX6_bars_X0_knowBest : GoodIn wsX6_bars wsX0_knowBest := goodIn_r _ [11, 12, 13, 14, 15, 16, 17, 5, 18, 19, 20, 21, 10, 22, 23, 24, 25, 26, 27, 28, 29, 30, 31, 32, 33, 34, 35, 36, 37, 38, 39, 40, 41, 42, 43, 44, 45, 46, 47, 48, 49, 50, 51, 52, 53, 54, 55, 56, 57, 58, 59, 60, 61, 62, 63, 64, 65, 66, 67, 68, 69, 70, 71, 72, 73, 74, 75, 76, 77, 78, 79, 80, 81, 82, 83, 131, 132, 133, 134, 135, 136, 121, 122, 123, 124, 125, 126, 127, 128, 129, 130, 137, 138, 139, 140, 141, 142, 143] (by decide +kernel) (by decide +kernel)
set_option maxRecDepth 20000 in
theorem gX6_bars_X0_knowBest : GoodIn wsX6_bars (wsV RX6 145 RX0 yX0_knowBest wsX0_knowBest) := goodIn_app (goodIn_of _ (by decide +kernel)) ggX6_bars_X0_knowBest
set_option maxRecDepth 20000 in
theorem ggX6_bars_X6_barFor : GoodIn wsX6_bars wsX6_barFor := goodIn_r _ [87, 1, 2, 88, 89, 90, 42, 91, 92, 93, 94, 95, 96, 97, 98, 99, 100, 46, 5, 47, 101, 102, 103, 104, 105, 106, 107, 108, 109, 110, 112, 113, 114, 115, 116, 117, 118, 119, 120, 131, 132, 133, 134, 135, 136, 121, 122, 123, 124, 125, 126, 127, 128, 129, 130] (by decide +kernel) (by decide +kernel)
set_option maxRecDepth 20000 in
theorem gX6_bars_X6_barFor : GoodIn wsX6_bars (wsV RX6 149 RX6 yX6_barFor wsX6_barFor) := goodIn_app (goodIn_of _ (by decide +kernel)) ggX6_bars_X6_barFor
set_option maxRecDepth 20000 in
theorem ggX6_bars_X6_at : GoodIn wsX6_bars wsX6_at := goodIn_r _ [47] (by decide +kernel) (by decide +kernel)
set_option maxRecDepth 20000 in
theorem gX6_bars_X6_at : GoodIn wsX6_bars (va_wsS RX6 128 yX6_at wsX6_at) := goodIn_app (goodIn_of _ (by decide +kernel)) ggX6_bars_X6_at
set_option maxRecDepth 20000 in
theorem ggX6_bars_X6_set : GoodIn wsX6_bars wsX6_set := goodIn_r _ [24] (by decide +kernel) (by decide +kernel)
set_option maxRecDepth 20000 in
theorem gX6_bars_X6_set : GoodIn wsX6_bars (va_wsS RX6 141 yX6_set wsX6_set) := goodIn_app (goodIn_of _ (by decide +kernel)) ggX6_bars_X6_set
theorem dX6_bars_0 : decode cX6_bars 0 = .ok (.iload_n 1, 1) := by decide +kernel
theorem dX6_bars_1 : decode cX6_bars 1 = .ok (.iconst 0, 1) := by decide +kernel
theorem dX6_bars_2 : decode cX6_bars 2 = .ok (.iconst 2, 1) := by decide +kernel
theorem dX6_bars_3 : decode cX6_bars 3 = .ok (.invokestatic 63, 3) := by decide +kernel
theorem dX6_bars_6 : decode cX6_bars 6 = .ok (.ifCond .ne 6, 3) := by decide +kernel
theorem dX6_bars_9 : decode cX6_bars 9 = .ok (.bipush (-2), 2) := by decide +kernel
theorem dX6_bars_11 : decode cX6_bars 11 = .ok (.ireturn, 1) := by decide +kernel
theorem dX6_bars_12 : decode cX6_bars 12 = .ok (.aload_n 0, 1) := by decide +kernel
theorem dX6_bars_13 : decode cX6_bars 13 = .ok (.getfield 30, 3) := by decide +kernel
theorem dX6_bars_16 : decode cX6_bars 16 = .ok (.getfield 100, 3) := by decide +kernel
theorem dX6_bars_19 : decode cX6_bars 19 = .ok (.ifCond .ne 6, 3) := by decide +kernel
theorem dX6_bars_22 : decode cX6_bars 22 = .ok (.bipush (-3), 2) := by decide +kernel
theorem dX6_bars_24 : decode cX6_bars 24 = .ok (.ireturn, 1) := by decide +kernel
theorem dX6_bars_25 : decode cX6_bars 25 = .ok (.iload_n 1, 1) := by decide +kernel
theorem dX6_bars_26 : decode cX6_bars 26 = .ok (.iconst 1, 1) := by decide +kernel
theorem dX6_bars_27 : decode cX6_bars 27 = .ok (.if_icmp .ne 14, 3) := by decide +kernel
theorem dX6_bars_30 : decode cX6_bars 30 = .ok (.aload_n 0, 1) := by decide +kernel
theorem dX6_bars_31 : decode cX6_bars 31 = .ok (.getfield 44, 3) := by decide +kernel
theorem dX6_bars_34 : decode cX6_bars 34 = .ok (.aload_n 0, 1) := by decide +kernel
theorem dX6_bars_35 : decode cX6_bars 35 = .ok (.getfield 30, 3) := by decide +kernel
theorem dX6_bars_38 : decode cX6_bars 38 = .ok (.invokevirtual 145, 3) := by decide +kernel
theorem dX6_bars_41 : decode cX6_bars 41 = .ok (.iconst 0, 1) := by decide +kernel
theorem dX6_bars_42 : decode cX6_bars 42 = .ok (.istore_n 2, 1) := by decide +kernel
theorem dX6_bars_43 : decode cX6_bars 43 = .ok (.iconst 0, 1) := by decide +kernel
theorem dX6_bars_44 : decode cX6_bars 44 = .ok (.istore_n 3, 1) := by decide +kernel
theorem dX6_bars_45 : decode cX6_bars 45 = .ok (.iload_n 3, 1) := by decide +kernel
theorem dX6_bars_46 : decode cX6_bars 46 = .ok (.aload_n 0, 1) := by decide +kernel
theorem dX6_bars_47 : decode cX6_bars 47 = .ok (.getfield 30, 3) := by decide +kernel
theorem dX6_bars_50 : decode cX6_bars 50 = .ok (.getfield 97, 3) := by decide +kernel
theorem dX6_bars_53 : decode cX6_bars 53 = .ok (.if_icmp .ge 49, 3) := by decide +kernel
theorem dX6_bars_56 : decode cX6_bars 56 = .ok (.aload_n 0, 1) := by decide +kernel
theorem dX6_bars_57 : decode cX6_bars 57 = .ok (.iload_n 3, 1) := by decide +kernel
theorem dX6_bars_58 : decode cX6_bars 58 = .ok (.iload_n 1, 1) := by decide +kernel
theorem dX6_bars_59 : decode cX6_bars 59 = .ok (.invokevirtual 149, 3) := by decide +kernel
theorem dX6_bars_62 : decode cX6_bars 62 = .ok (.istore 4, 2) := by decide +kernel
theorem dX6_bars_64 : decode cX6_bars 64 = .ok (.aload_n 0, 1) := by decide +kernel
theorem dX6_bars_65 : decode cX6_bars 65 = .ok (.getfield 30, 3) := by decide +kernel
theorem dX6_bars_68 : decode cX6_bars 68 = .ok (.getfield 135, 3) := by decide +kernel
theorem dX6_bars_71 : decode cX6_bars 71 = .ok (.iload_n 3, 1) := by decide +kernel
theorem dX6_bars_72 : decode cX6_bars 72 = .ok (.invokestatic 128, 3) := by decide +kernel
theorem dX6_bars_75 : decode cX6_bars 75 = .ok (.iload 4, 2) := by decide +kernel
theorem dX6_bars_77 : decode cX6_bars 77 = .ok (.if_icmp .eq 6, 3) := by decide +kernel
theorem dX6_bars_80 : decode cX6_bars 80 = .ok (.iinc 2 1, 3) := by decide +kernel
theorem dX6_bars_83 : decode cX6_bars 83 = .ok (.aload_n 0, 1) := by decide +kernel
theorem dX6_bars_84 : decode cX6_bars 84 = .ok (.getfield 30, 3) := by decide +kernel
theorem dX6_bars_87 : decode cX6_bars 87 = .ok (.getfield 135, 3) := by decide +kernel
theorem dX6_bars_90 : decode cX6_bars 90 = .ok (.iload_n 3, 1) := by decide +kernel
theorem dX6_bars_91 : decode cX6_bars 91 = .ok (.iload 4, 2) := by decide +kernel
theorem dX6_bars_93 : decode cX6_bars 93 = .ok (.invokestatic 141, 3) := by decide +kernel
theorem dX6_bars_96 : decode cX6_bars 96 = .ok (.iinc 3 1, 3) := by decide +kernel
theorem dX6_bars_99 : decode cX6_bars 99 = .ok (.goto (-54), 3) := by decide +kernel
theorem dX6_bars_102 : decode cX6_bars 102 = .ok (.iload_n 2, 1) := by decide +kernel
theorem dX6_bars_103 : decode cX6_bars 103 = .ok (.ireturn, 1) := by decide +kernel
set_option maxRecDepth 20000 in
theorem ggX6_barFor_X2_hisBar : GoodIn wsX6_barFor wsX2_hisBar := goodIn_r _ [7, 8, 9, 10, 11, 12, 13, 14, 6, 15, 16, 17, 18, 19, 20, 21, 22, 23, 24, 25, 26, 27, 28, 45, 46, 47, 48, 49, 50, 51, 52, 53, 54] (by decide +kernel) (by decide +kernel)
set_option maxRecDepth 20000 in
theorem gX6_barFor_X2_hisBar : GoodIn wsX6_barFor (wsV RX6 138 RX2 yX2_hisBar wsX2_hisBar) := goodIn_app (goodIn_of _ (by decide +kernel)) ggX6_barFor_X2_hisBar
set_option maxRecDepth 20000 in
theorem ggX6_barFor_X6_at : GoodIn wsX6_barFor wsX6_at := goodIn_r _ [19] (by decide +kernel) (by decide +kernel)
set_option maxRecDepth 20000 in
theorem gX6_barFor_X6_at : GoodIn wsX6_barFor (va_wsS RX6 128 yX6_at wsX6_at) := goodIn_app (goodIn_of _ (by decide +kernel)) ggX6_barFor_X6_at
theorem dX6_barFor_0 : decode cX6_barFor 0 = .ok (.iload_n 2, 1) := by decide +kernel
theorem dX6_barFor_1 : decode cX6_barFor 1 = .ok (.lookupswitch 48 #[(0, 27), (1, 36)], 27) := by decide +kernel
theorem dX6_barFor_28 : decode cX6_barFor 28 = .ok (.aload_n 0, 1) := by decide +kernel
theorem dX6_barFor_29 : decode cX6_barFor 29 = .ok (.getfield 30, 3) := by decide +kernel
theorem dX6_barFor_32 : decode cX6_barFor 32 = .ok (.iload_n 1, 1) := by decide +kernel
theorem dX6_barFor_33 : decode cX6_barFor 33 = .ok (.invokevirtual 138, 3) := by decide +kernel
theorem dX6_barFor_36 : decode cX6_barFor 36 = .ok (.ireturn, 1) := by decide +kernel
theorem dX6_barFor_37 : decode cX6_barFor 37 = .ok (.aload_n 0, 1) := by decide +kernel
theorem dX6_barFor_38 : decode cX6_barFor 38 = .ok (.getfield 44, 3) := by decide +kernel
theorem dX6_barFor_41 : decode cX6_barFor 41 = .ok (.getfield 153, 3) := by decide +kernel
theorem dX6_barFor_44 : decode cX6_barFor 44 = .ok (.iload_n 1, 1) := by decide +kernel
theorem dX6_barFor_45 : decode cX6_barFor 45 = .ok (.invokestatic 128, 3) := by decide +kernel
theorem dX6_barFor_48 : decode cX6_barFor 48 = .ok (.ireturn, 1) := by decide +kernel
theorem dX6_barFor_49 : decode cX6_barFor 49 = .ok (.iconst 5, 1) := by decide +kernel
theorem dX6_barFor_50 : decode cX6_barFor 50 = .ok (.ireturn, 1) := by decide +kernel
set_option maxRecDepth 20000 in
theorem ggX6_often_X6_isWithin : GoodIn wsX6_often wsX6_isWithin := goodIn_r _ [7] (by decide +kernel) (by decide +kernel)
set_option maxRecDepth 20000 in
theorem gX6_often_X6_isWithin : GoodIn wsX6_often (va_wsS RX6 63 yX6_isWithin wsX6_isWithin) := goodIn_app (goodIn_of _ (by decide +kernel)) ggX6_often_X6_isWithin
set_option maxRecDepth 20000 in
theorem ggX6_often_X1_comeByBars : GoodIn wsX6_often wsX1_comeByBars := goodIn_r _ [12, 13, 14, 15, 16, 17, 18, 19, 20, 21, 22, 23, 6, 24, 25, 26, 27, 28, 29, 11, 30, 31, 32, 33, 34, 35, 36, 37, 38, 39, 40, 41, 42, 43, 44, 65, 66, 67, 68, 69, 70, 71, 72, 73, 74, 75, 76, 77, 78, 79, 80, 81] (by decide +kernel) (by decide +kernel)
set_option maxRecDepth 20000 in
theorem gX6_often_X1_comeByBars : GoodIn wsX6_often (wsV RX6 158 RX1 yX1_comeByBars wsX1_comeByBars) := goodIn_app (goodIn_of _ (by decide +kernel)) ggX6_often_X1_comeByBars
set_option maxRecDepth 20000 in
theorem ggX6_often_X6_at_ : GoodIn wsX6_often wsX6_at_ := goodIn_r _ [40] (by decide +kernel) (by decide +kernel)
set_option maxRecDepth 20000 in
theorem gX6_often_X6_at_ : GoodIn wsX6_often (va_wsS RX6 166 yX6_at_ wsX6_at_) := goodIn_app (goodIn_of _ (by decide +kernel)) ggX6_often_X6_at_
set_option maxRecDepth 20000 in
theorem ggX6_often_X6_share : GoodIn wsX6_often wsX6_share := goodIn_r _ [48, 49, 50, 51, 52, 2, 53, 54, 6, 55] (by decide +kernel) (by decide +kernel)
set_option maxRecDepth 20000 in
theorem gX6_often_X6_share : GoodIn wsX6_often (va_wsS RX6 173 yX6_share wsX6_share) := goodIn_app (goodIn_of _ (by decide +kernel)) ggX6_often_X6_share
theorem dX6_often_0 : decode cX6_often 0 = .ok (.iload_n 1, 1) := by decide +kernel
theorem dX6_often_1 : decode cX6_often 1 = .ok (.iconst 0, 1) := by decide +kernel
theorem dX6_often_2 : decode cX6_often 2 = .ok (.iconst 5, 1) := by decide +kernel
theorem dX6_often_3 : decode cX6_often 3 = .ok (.invokestatic 63, 3) := by decide +kernel
theorem dX6_often_6 : decode cX6_often 6 = .ok (.ifCond .eq 22, 3) := by decide +kernel
theorem dX6_often_9 : decode cX6_often 9 = .ok (.iload_n 2, 1) := by decide +kernel
theorem dX6_often_10 : decode cX6_often 10 = .ok (.iconst 0, 1) := by decide +kernel
theorem dX6_often_11 : decode cX6_often 11 = .ok (.iconst 1, 1) := by decide +kernel
theorem dX6_often_12 : decode cX6_often 12 = .ok (.invokestatic 63, 3) := by decide +kernel
theorem dX6_often_15 : decode cX6_often 15 = .ok (.ifCond .eq 13, 3) := by decide +kernel
theorem dX6_often_18 : decode cX6_often 18 = .ok (.aload_n 0, 1) := by decide +kernel
theorem dX6_often_19 : decode cX6_often 19 = .ok (.getfield 30, 3) := by decide +kernel
theorem dX6_often_22 : decode cX6_often 22 = .ok (.getfield 100, 3) := by decide +kernel
theorem dX6_often_25 : decode cX6_often 25 = .ok (.ifCond .ne 7, 3) := by decide +kernel
theorem dX6_often_28 : decode cX6_often 28 = .ok (.ldc2_w 156, 3) := by decide +kernel
theorem dX6_often_31 : decode cX6_often 31 = .ok (.lreturn, 1) := by decide +kernel
theorem dX6_often_32 : decode cX6_often 32 = .ok (.aload_n 0, 1) := by decide +kernel
theorem dX6_often_33 : decode cX6_often 33 = .ok (.getfield 37, 3) := by decide +kernel
theorem dX6_often_36 : decode cX6_often 36 = .ok (.aload_n 0, 1) := by decide +kernel
theorem dX6_often_37 : decode cX6_often 37 = .ok (.getfield 30, 3) := by decide +kernel
theorem dX6_often_40 : decode cX6_often 40 = .ok (.aload_n 0, 1) := by decide +kernel
theorem dX6_often_41 : decode cX6_often 41 = .ok (.getfield 30, 3) := by decide +kernel
theorem dX6_often_44 : decode cX6_often 44 = .ok (.getfield 135, 3) := by decide +kernel
theorem dX6_often_47 : decode cX6_often 47 = .ok (.invokevirtual 158, 3) := by decide +kernel
theorem dX6_often_50 : decode cX6_often 50 = .ok (.aload_n 0, 1) := by decide +kernel
theorem dX6_often_51 : decode cX6_often 51 = .ok (.getfield 37, 3) := by decide +kernel
theorem dX6_often_54 : decode cX6_often 54 = .ok (.getfield 162, 3) := by decide +kernel
theorem dX6_often_57 : decode cX6_often 57 = .ok (.iload_n 1, 1) := by decide +kernel
theorem dX6_often_58 : decode cX6_often 58 = .ok (.invokestatic 166, 3) := by decide +kernel
theorem dX6_often_61 : decode cX6_often 61 = .ok (.aload_n 0, 1) := by decide +kernel
theorem dX6_often_62 : decode cX6_often 62 = .ok (.getfield 37, 3) := by decide +kernel
theorem dX6_often_65 : decode cX6_often 65 = .ok (.getfield 169, 3) := by decide +kernel
theorem dX6_often_68 : decode cX6_often 68 = .ok (.iload_n 2, 1) := by decide +kernel
theorem dX6_often_69 : decode cX6_often 69 = .ok (.invokestatic 173, 3) := by decide +kernel
theorem dX6_often_72 : decode cX6_often 72 = .ok (.lreturn, 1) := by decide +kernel
set_option maxRecDepth 20000 in
theorem ggX6_mean_X6_isWithin : GoodIn wsX6_mean wsX6_isWithin := goodIn_r _ [7] (by decide +kernel) (by decide +kernel)
set_option maxRecDepth 20000 in
theorem gX6_mean_X6_isWithin : GoodIn wsX6_mean (va_wsS RX6 63 yX6_isWithin wsX6_isWithin) := goodIn_app (goodIn_of _ (by decide +kernel)) ggX6_mean_X6_isWithin
set_option maxRecDepth 20000 in
theorem ggX6_mean_X1_comeByBars : GoodIn wsX6_mean wsX1_comeByBars := goodIn_r _ [12, 13, 14, 15, 16, 17, 18, 19, 20, 21, 22, 23, 6, 24, 25, 26, 27, 28, 29, 11, 30, 31, 32, 33, 34, 35, 36, 37, 38, 39, 40, 41, 42, 43, 44, 68, 69, 70, 71, 72, 73, 74, 75, 76, 77, 78, 79, 80, 81, 82, 83, 84] (by decide +kernel) (by decide +kernel)
set_option maxRecDepth 20000 in
theorem gX6_mean_X1_comeByBars : GoodIn wsX6_mean (wsV RX6 158 RX1 yX1_comeByBars wsX1_comeByBars) := goodIn_app (goodIn_of _ (by decide +kernel)) ggX6_mean_X1_comeByBars
set_option maxRecDepth 20000 in
theorem ggX6_mean_X1_lengthsByWeight : GoodIn wsX6_mean wsX1_lengthsByWeight := goodIn_r _ [48, 31, 39, 6, 40, 78, 79, 80, 81, 82, 83, 84] (by decide +kernel) (by decide +kernel)
set_option maxRecDepth 20000 in
theorem gX6_mean_X1_lengthsByWeight : GoodIn wsX6_mean (wsV RX6 177 RX1 yX1_lengthsByWeight wsX1_lengthsByWeight) := goodIn_app (goodIn_of _ (by decide +kernel)) ggX6_mean_X1_lengthsByWeight
set_option maxRecDepth 20000 in
theorem ggX6_mean_X6_share : GoodIn wsX6_mean wsX6_share := goodIn_r _ [51, 52, 53, 54, 55, 2, 56, 57, 6, 58] (by decide +kernel) (by decide +kernel)
set_option maxRecDepth 20000 in
theorem gX6_mean_X6_share : GoodIn wsX6_mean (va_wsS RX6 173 yX6_share wsX6_share) := goodIn_app (goodIn_of _ (by decide +kernel)) ggX6_mean_X6_share
theorem dX6_mean_0 : decode cX6_mean 0 = .ok (.iload_n 1, 1) := by decide +kernel
theorem dX6_mean_1 : decode cX6_mean 1 = .ok (.iconst 0, 1) := by decide +kernel
theorem dX6_mean_2 : decode cX6_mean 2 = .ok (.iconst 1, 1) := by decide +kernel
theorem dX6_mean_3 : decode cX6_mean 3 = .ok (.invokestatic 63, 3) := by decide +kernel
theorem dX6_mean_6 : decode cX6_mean 6 = .ok (.ifCond .eq 13, 3) := by decide +kernel
theorem dX6_mean_9 : decode cX6_mean 9 = .ok (.aload_n 0, 1) := by decide +kernel
theorem dX6_mean_10 : decode cX6_mean 10 = .ok (.getfield 30, 3) := by decide +kernel
theorem dX6_mean_13 : decode cX6_mean 13 = .ok (.getfield 100, 3) := by decide +kernel
theorem dX6_mean_16 : decode cX6_mean 16 = .ok (.ifCond .ne 7, 3) := by decide +kernel
theorem dX6_mean_19 : decode cX6_mean 19 = .ok (.ldc2_w 156, 3) := by decide +kernel
theorem dX6_mean_22 : decode cX6_mean 22 = .ok (.lreturn, 1) := by decide +kernel
theorem dX6_mean_23 : decode cX6_mean 23 = .ok (.aload_n 0, 1) := by decide +kernel
theorem dX6_mean_24 : decode cX6_mean 24 = .ok (.getfield 37, 3) := by decide +kernel
theorem dX6_mean_27 : decode cX6_mean 27 = .ok (.aload_n 0, 1) := by decide +kernel
theorem dX6_mean_28 : decode cX6_mean 28 = .ok (.getfield 30, 3) := by decide +kernel
theorem dX6_mean_31 : decode cX6_mean 31 = .ok (.aload_n 0, 1) := by decide +kernel
theorem dX6_mean_32 : decode cX6_mean 32 = .ok (.getfield 30, 3) := by decide +kernel
theorem dX6_mean_35 : decode cX6_mean 35 = .ok (.getfield 135, 3) := by decide +kernel
theorem dX6_mean_38 : decode cX6_mean 38 = .ok (.invokevirtual 158, 3) := by decide +kernel
theorem dX6_mean_41 : decode cX6_mean 41 = .ok (.aload_n 0, 1) := by decide +kernel
theorem dX6_mean_42 : decode cX6_mean 42 = .ok (.getfield 37, 3) := by decide +kernel
theorem dX6_mean_45 : decode cX6_mean 45 = .ok (.invokevirtual 177, 3) := by decide +kernel
theorem dX6_mean_48 : decode cX6_mean 48 = .ok (.aload_n 0, 1) := by decide +kernel
theorem dX6_mean_49 : decode cX6_mean 49 = .ok (.getfield 37, 3) := by decide +kernel
theorem dX6_mean_52 : decode cX6_mean 52 = .ok (.getfield 169, 3) := by decide +kernel
theorem dX6_mean_55 : decode cX6_mean 55 = .ok (.iload_n 1, 1) := by decide +kernel
theorem dX6_mean_56 : decode cX6_mean 56 = .ok (.invokestatic 173, 3) := by decide +kernel
theorem dX6_mean_59 : decode cX6_mean 59 = .ok (.lreturn, 1) := by decide +kernel
set_option maxRecDepth 20000 in
theorem ggX6_on_X2_has : GoodIn wsX6_on wsX2_has := goodIn_r _ [9, 10, 11, 12, 13, 78, 79, 80, 81, 82, 83, 84, 85, 86, 87] (by decide +kernel) (by decide +kernel)
set_option maxRecDepth 20000 in
theorem gX6_on_X2_has : GoodIn wsX6_on (wsV RX6 123 RX2 yX2_has wsX2_has) := goodIn_app (goodIn_of _ (by decide +kernel)) ggX6_on_X2_has
set_option maxRecDepth 20000 in
theorem ggX6_on_X6_isWithin : GoodIn wsX6_on wsX6_isWithin := goodIn_r _ [13] (by decide +kernel) (by decide +kernel)
set_option maxRecDepth 20000 in
theorem gX6_on_X6_isWithin : GoodIn wsX6_on (va_wsS RX6 63 yX6_isWithin wsX6_isWithin) := goodIn_app (goodIn_of _ (by decide +kernel)) ggX6_on_X6_isWithin
set_option maxRecDepth 20000 in
theorem ggX6_on_X1_comeByBars : GoodIn wsX6_on wsX1_comeByBars := goodIn_r _ [19, 20, 21, 22, 23, 24, 25, 8, 26, 10, 27, 28, 12, 29, 30, 31, 32, 33, 34, 18, 35, 36, 37, 38, 39, 40, 41, 42, 43, 44, 45, 46, 47, 48, 49, 78, 79, 80, 81, 82, 83, 84, 85, 86, 87, 88, 89, 90, 91, 92, 93, 94] (by decide +kernel) (by decide +kernel)
set_option maxRecDepth 20000 in
theorem gX6_on_X1_comeByBars : GoodIn wsX6_on (wsV RX6 158 RX1 yX1_comeByBars wsX1_comeByBars) := goodIn_app (goodIn_of _ (by decide +kernel)) ggX6_on_X1_comeByBars
set_option maxRecDepth 20000 in
theorem ggX6_on_X6_at : GoodIn wsX6_on wsX6_at := goodIn_r _ [29] (by decide +kernel) (by decide +kernel)
set_option maxRecDepth 20000 in
theorem gX6_on_X6_at : GoodIn wsX6_on (va_wsS RX6 128 yX6_at wsX6_at) := goodIn_app (goodIn_of _ (by decide +kernel)) ggX6_on_X6_at
set_option maxRecDepth 20000 in
theorem ggX6_on_X1_foundBelow : GoodIn wsX6_on wsX1_foundBelow := goodIn_r _ [54, 55, 56, 57, 18, 58, 20, 36, 44, 12, 45, 88, 89, 90, 91, 92, 93, 94] (by decide +kernel) (by decide +kernel)
set_option maxRecDepth 20000 in
theorem gX6_on_X1_foundBelow : GoodIn wsX6_on (wsV RX6 183 RX1 yX1_foundBelow wsX1_foundBelow) := goodIn_app (goodIn_of _ (by decide +kernel)) ggX6_on_X1_foundBelow
set_option maxRecDepth 20000 in
theorem ggX6_on_X6_share : GoodIn wsX6_on wsX6_share := goodIn_r _ [61, 62, 63, 64, 65, 2, 66, 67, 12, 68] (by decide +kernel) (by decide +kernel)
set_option maxRecDepth 20000 in
theorem gX6_on_X6_share : GoodIn wsX6_on (va_wsS RX6 173 yX6_share wsX6_share) := goodIn_app (goodIn_of _ (by decide +kernel)) ggX6_on_X6_share
theorem dX6_on_0 : decode cX6_on 0 = .ok (.aload_n 0, 1) := by decide +kernel
theorem dX6_on_1 : decode cX6_on 1 = .ok (.getfield 30, 3) := by decide +kernel
theorem dX6_on_4 : decode cX6_on 4 = .ok (.iload_n 1, 1) := by decide +kernel
theorem dX6_on_5 : decode cX6_on 5 = .ok (.invokevirtual 123, 3) := by decide +kernel
theorem dX6_on_8 : decode cX6_on 8 = .ok (.ifCond .eq 12, 3) := by decide +kernel
theorem dX6_on_11 : decode cX6_on 11 = .ok (.iload_n 2, 1) := by decide +kernel
theorem dX6_on_12 : decode cX6_on 12 = .ok (.iconst 0, 1) := by decide +kernel
theorem dX6_on_13 : decode cX6_on 13 = .ok (.iconst 1, 1) := by decide +kernel
theorem dX6_on_14 : decode cX6_on 14 = .ok (.invokestatic 63, 3) := by decide +kernel
theorem dX6_on_17 : decode cX6_on 17 = .ok (.ifCond .ne 7, 3) := by decide +kernel
theorem dX6_on_20 : decode cX6_on 20 = .ok (.ldc2_w 156, 3) := by decide +kernel
theorem dX6_on_23 : decode cX6_on 23 = .ok (.lreturn, 1) := by decide +kernel
theorem dX6_on_24 : decode cX6_on 24 = .ok (.aload_n 0, 1) := by decide +kernel
theorem dX6_on_25 : decode cX6_on 25 = .ok (.getfield 37, 3) := by decide +kernel
theorem dX6_on_28 : decode cX6_on 28 = .ok (.aload_n 0, 1) := by decide +kernel
theorem dX6_on_29 : decode cX6_on 29 = .ok (.getfield 30, 3) := by decide +kernel
theorem dX6_on_32 : decode cX6_on 32 = .ok (.aload_n 0, 1) := by decide +kernel
theorem dX6_on_33 : decode cX6_on 33 = .ok (.getfield 30, 3) := by decide +kernel
theorem dX6_on_36 : decode cX6_on 36 = .ok (.getfield 135, 3) := by decide +kernel
theorem dX6_on_39 : decode cX6_on 39 = .ok (.invokevirtual 158, 3) := by decide +kernel
theorem dX6_on_42 : decode cX6_on 42 = .ok (.ldc2_w 181, 3) := by decide +kernel
theorem dX6_on_45 : decode cX6_on 45 = .ok (.aload_n 0, 1) := by decide +kernel
theorem dX6_on_46 : decode cX6_on 46 = .ok (.getfield 37, 3) := by decide +kernel
theorem dX6_on_49 : decode cX6_on 49 = .ok (.getfield 169, 3) := by decide +kernel
theorem dX6_on_52 : decode cX6_on 52 = .ok (.lmul, 1) := by decide +kernel
theorem dX6_on_53 : decode cX6_on 53 = .ok (.lstore_n 3, 1) := by decide +kernel
theorem dX6_on_54 : decode cX6_on 54 = .ok (.lload_n 3, 1) := by decide +kernel
theorem dX6_on_55 : decode cX6_on 55 = .ok (.aload_n 0, 1) := by decide +kernel
theorem dX6_on_56 : decode cX6_on 56 = .ok (.getfield 37, 3) := by decide +kernel
theorem dX6_on_59 : decode cX6_on 59 = .ok (.aload_n 0, 1) := by decide +kernel
theorem dX6_on_60 : decode cX6_on 60 = .ok (.getfield 30, 3) := by decide +kernel
theorem dX6_on_63 : decode cX6_on 63 = .ok (.getfield 135, 3) := by decide +kernel
theorem dX6_on_66 : decode cX6_on 66 = .ok (.iload_n 1, 1) := by decide +kernel
theorem dX6_on_67 : decode cX6_on 67 = .ok (.invokestatic 128, 3) := by decide +kernel
theorem dX6_on_70 : decode cX6_on 70 = .ok (.invokevirtual 183, 3) := by decide +kernel
theorem dX6_on_73 : decode cX6_on 73 = .ok (.lsub, 1) := by decide +kernel
theorem dX6_on_74 : decode cX6_on 74 = .ok (.lload_n 3, 1) := by decide +kernel
theorem dX6_on_75 : decode cX6_on 75 = .ok (.iload_n 2, 1) := by decide +kernel
theorem dX6_on_76 : decode cX6_on 76 = .ok (.invokestatic 173, 3) := by decide +kernel
theorem dX6_on_79 : decode cX6_on 79 = .ok (.lreturn, 1) := by decide +kernel
set_option maxRecDepth 20000 in
theorem ggX6_less_X6_isWithin : GoodIn wsX6_less wsX6_isWithin := goodIn_r _ [7] (by decide +kernel) (by decide +kernel)
set_option maxRecDepth 20000 in
theorem gX6_less_X6_isWithin : GoodIn wsX6_less (va_wsS RX6 63 yX6_isWithin wsX6_isWithin) := goodIn_app (goodIn_of _ (by decide +kernel)) ggX6_less_X6_isWithin
set_option maxRecDepth 20000 in
theorem ggX6_less_X1_comeByBars : GoodIn wsX6_less wsX1_comeByBars := goodIn_r _ [12, 13, 14, 15, 16, 17, 18, 19, 20, 21, 22, 23, 6, 24, 25, 26, 27, 28, 29, 11, 30, 31, 32, 33, 34, 35, 36, 37, 38, 39, 40, 41, 42, 43, 44, 68, 69, 70, 71, 72, 73, 74, 75, 76, 77, 78, 79, 80, 81, 82, 83, 84] (by decide +kernel) (by decide +kernel)
set_option maxRecDepth 20000 in
theorem gX6_less_X1_comeByBars : GoodIn wsX6_less (wsV RX6 158 RX1 yX1_comeByBars wsX1_comeByBars) := goodIn_app (goodIn_of _ (by decide +kernel)) ggX6_less_X1_comeByBars
set_option maxRecDepth 20000 in
theorem ggX6_less_X6_at_ : GoodIn wsX6_less wsX6_at_ := goodIn_r _ [40] (by decide +kernel) (by decide +kernel)
set_option maxRecDepth 20000 in
theorem gX6_less_X6_at_ : GoodIn wsX6_less (va_wsS RX6 166 yX6_at_ wsX6_at_) := goodIn_app (goodIn_of _ (by decide +kernel)) ggX6_less_X6_at_
set_option maxRecDepth 20000 in
theorem ggX6_less_X1_tillLess : GoodIn wsX6_less wsX1_tillLess := goodIn_r _ [49, 14, 35, 36, 37, 11, 38, 13, 15, 23, 6, 24, 41, 42, 43, 44, 50, 51, 52, 53, 54, 55, 2, 56, 57, 58, 78, 79, 80, 81, 82, 83, 84] (by decide +kernel) (by decide +kernel)
set_option maxRecDepth 20000 in
theorem gX6_less_X1_tillLess : GoodIn wsX6_less (wsV RX6 187 RX1 yX1_tillLess wsX1_tillLess) := goodIn_app (goodIn_of _ (by decide +kernel)) ggX6_less_X1_tillLess
theorem dX6_less_0 : decode cX6_less 0 = .ok (.iload_n 1, 1) := by decide +kernel
theorem dX6_less_1 : decode cX6_less 1 = .ok (.iconst 1, 1) := by decide +kernel
theorem dX6_less_2 : decode cX6_less 2 = .ok (.iconst 5, 1) := by decide +kernel
theorem dX6_less_3 : decode cX6_less 3 = .ok (.invokestatic 63, 3) := by decide +kernel
theorem dX6_less_6 : decode cX6_less 6 = .ok (.ifCond .eq 22, 3) := by decide +kernel
theorem dX6_less_9 : decode cX6_less 9 = .ok (.iload_n 2, 1) := by decide +kernel
theorem dX6_less_10 : decode cX6_less 10 = .ok (.iconst 0, 1) := by decide +kernel
theorem dX6_less_11 : decode cX6_less 11 = .ok (.iconst 1, 1) := by decide +kernel
theorem dX6_less_12 : decode cX6_less 12 = .ok (.invokestatic 63, 3) := by decide +kernel
theorem dX6_less_15 : decode cX6_less 15 = .ok (.ifCond .eq 13, 3) := by decide +kernel
theorem dX6_less_18 : decode cX6_less 18 = .ok (.aload_n 0, 1) := by decide +kernel
theorem dX6_less_19 : decode cX6_less 19 = .ok (.getfield 30, 3) := by decide +kernel
theorem dX6_less_22 : decode cX6_less 22 = .ok (.getfield 100, 3) := by decide +kernel
theorem dX6_less_25 : decode cX6_less 25 = .ok (.ifCond .ne 7, 3) := by decide +kernel
theorem dX6_less_28 : decode cX6_less 28 = .ok (.ldc2_w 156, 3) := by decide +kernel
theorem dX6_less_31 : decode cX6_less 31 = .ok (.lreturn, 1) := by decide +kernel
theorem dX6_less_32 : decode cX6_less 32 = .ok (.aload_n 0, 1) := by decide +kernel
theorem dX6_less_33 : decode cX6_less 33 = .ok (.getfield 37, 3) := by decide +kernel
theorem dX6_less_36 : decode cX6_less 36 = .ok (.aload_n 0, 1) := by decide +kernel
theorem dX6_less_37 : decode cX6_less 37 = .ok (.getfield 30, 3) := by decide +kernel
theorem dX6_less_40 : decode cX6_less 40 = .ok (.aload_n 0, 1) := by decide +kernel
theorem dX6_less_41 : decode cX6_less 41 = .ok (.getfield 30, 3) := by decide +kernel
theorem dX6_less_44 : decode cX6_less 44 = .ok (.getfield 135, 3) := by decide +kernel
theorem dX6_less_47 : decode cX6_less 47 = .ok (.invokevirtual 158, 3) := by decide +kernel
theorem dX6_less_50 : decode cX6_less 50 = .ok (.aload_n 0, 1) := by decide +kernel
theorem dX6_less_51 : decode cX6_less 51 = .ok (.getfield 37, 3) := by decide +kernel
theorem dX6_less_54 : decode cX6_less 54 = .ok (.getfield 162, 3) := by decide +kernel
theorem dX6_less_57 : decode cX6_less 57 = .ok (.iload_n 1, 1) := by decide +kernel
theorem dX6_less_58 : decode cX6_less 58 = .ok (.invokestatic 166, 3) := by decide +kernel
theorem dX6_less_61 : decode cX6_less 61 = .ok (.lconst 0, 1) := by decide +kernel
theorem dX6_less_62 : decode cX6_less 62 = .ok (.lcmp, 1) := by decide +kernel
theorem dX6_less_63 : decode cX6_less 63 = .ok (.ifCond .ne 7, 3) := by decide +kernel
theorem dX6_less_66 : decode cX6_less 66 = .ok (.ldc2_w 156, 3) := by decide +kernel
theorem dX6_less_69 : decode cX6_less 69 = .ok (.lreturn, 1) := by decide +kernel
theorem dX6_less_70 : decode cX6_less 70 = .ok (.aload_n 0, 1) := by decide +kernel
theorem dX6_less_71 : decode cX6_less 71 = .ok (.getfield 37, 3) := by decide +kernel
theorem dX6_less_74 : decode cX6_less 74 = .ok (.iload_n 1, 1) := by decide +kernel
theorem dX6_less_75 : decode cX6_less 75 = .ok (.iload_n 2, 1) := by decide +kernel
theorem dX6_less_76 : decode cX6_less 76 = .ok (.invokevirtual 187, 3) := by decide +kernel
theorem dX6_less_79 : decode cX6_less 79 = .ok (.lreturn, 1) := by decide +kernel
set_option maxRecDepth 20000 in
theorem ggX6_after_X6_isWithin : GoodIn wsX6_after wsX6_isWithin := goodIn_r _ [7] (by decide +kernel) (by decide +kernel)
set_option maxRecDepth 20000 in
theorem gX6_after_X6_isWithin : GoodIn wsX6_after (va_wsS RX6 63 yX6_isWithin wsX6_isWithin) := goodIn_app (goodIn_of _ (by decide +kernel)) ggX6_after_X6_isWithin
set_option maxRecDepth 20000 in
theorem ggX6_after_X1_comeByBars : GoodIn wsX6_after wsX1_comeByBars := goodIn_r _ [12, 13, 14, 15, 16, 17, 18, 19, 20, 21, 22, 23, 6, 24, 25, 26, 27, 28, 29, 11, 30, 31, 32, 33, 34, 35, 36, 37, 38, 39, 40, 41, 42, 43, 44, 73, 74, 75, 76, 77, 78, 79, 80, 81, 82, 83, 84, 85, 86, 87, 88, 89] (by decide +kernel) (by decide +kernel)
set_option maxRecDepth 20000 in
theorem gX6_after_X1_comeByBars : GoodIn wsX6_after (wsV RX6 158 RX1 yX1_comeByBars wsX1_comeByBars) := goodIn_app (goodIn_of _ (by decide +kernel)) ggX6_after_X1_comeByBars
set_option maxRecDepth 20000 in
theorem ggX6_after_X1_afterMinutes : GoodIn wsX6_after wsX1_afterMinutes := goodIn_r _ [48, 49, 14, 33, 6, 34, 50, 51, 52, 11, 53, 54, 35, 36, 37, 38, 13, 15, 23, 24, 41, 42, 43, 44, 39, 40, 55, 56, 57, 58, 59, 60, 1, 61, 62, 63, 83, 84, 85, 86, 87, 88, 89] (by decide +kernel) (by decide +kernel)
set_option maxRecDepth 20000 in
theorem gX6_after_X1_afterMinutes : GoodIn wsX6_after (wsV RX6 191 RX1 yX1_afterMinutes wsX1_afterMinutes) := goodIn_app (goodIn_of _ (by decide +kernel)) ggX6_after_X1_afterMinutes
theorem dX6_after_0 : decode cX6_after 0 = .ok (.iload_n 1, 1) := by decide +kernel
theorem dX6_after_1 : decode cX6_after 1 = .ok (.iconst 0, 1) := by decide +kernel
theorem dX6_after_2 : decode cX6_after 2 = .ok (.bipush 8, 2) := by decide +kernel
theorem dX6_after_4 : decode cX6_after 4 = .ok (.invokestatic 63, 3) := by decide +kernel
theorem dX6_after_7 : decode cX6_after 7 = .ok (.ifCond .eq 21, 3) := by decide +kernel
theorem dX6_after_10 : decode cX6_after 10 = .ok (.iload_n 2, 1) := by decide +kernel
theorem dX6_after_11 : decode cX6_after 11 = .ok (.iconst 0, 1) := by decide +kernel
theorem dX6_after_12 : decode cX6_after 12 = .ok (.iconst 5, 1) := by decide +kernel
theorem dX6_after_13 : decode cX6_after 13 = .ok (.invokestatic 63, 3) := by decide +kernel
theorem dX6_after_16 : decode cX6_after 16 = .ok (.ifCond .eq 12, 3) := by decide +kernel
theorem dX6_after_19 : decode cX6_after 19 = .ok (.iload_n 3, 1) := by decide +kernel
theorem dX6_after_20 : decode cX6_after 20 = .ok (.iconst 0, 1) := by decide +kernel
theorem dX6_after_21 : decode cX6_after 21 = .ok (.iconst 5, 1) := by decide +kernel
theorem dX6_after_22 : decode cX6_after 22 = .ok (.invokestatic 63, 3) := by decide +kernel
theorem dX6_after_25 : decode cX6_after 25 = .ok (.ifCond .ne 7, 3) := by decide +kernel
theorem dX6_after_28 : decode cX6_after 28 = .ok (.ldc2_w 156, 3) := by decide +kernel
theorem dX6_after_31 : decode cX6_after 31 = .ok (.lreturn, 1) := by decide +kernel
theorem dX6_after_32 : decode cX6_after 32 = .ok (.iload 4, 2) := by decide +kernel
theorem dX6_after_34 : decode cX6_after 34 = .ok (.iconst 0, 1) := by decide +kernel
theorem dX6_after_35 : decode cX6_after 35 = .ok (.iconst 1, 1) := by decide +kernel
theorem dX6_after_36 : decode cX6_after 36 = .ok (.invokestatic 63, 3) := by decide +kernel
theorem dX6_after_39 : decode cX6_after 39 = .ok (.ifCond .eq 13, 3) := by decide +kernel
theorem dX6_after_42 : decode cX6_after 42 = .ok (.aload_n 0, 1) := by decide +kernel
theorem dX6_after_43 : decode cX6_after 43 = .ok (.getfield 30, 3) := by decide +kernel
theorem dX6_after_46 : decode cX6_after 46 = .ok (.getfield 100, 3) := by decide +kernel
theorem dX6_after_49 : decode cX6_after 49 = .ok (.ifCond .ne 7, 3) := by decide +kernel
theorem dX6_after_52 : decode cX6_after 52 = .ok (.ldc2_w 156, 3) := by decide +kernel
theorem dX6_after_55 : decode cX6_after 55 = .ok (.lreturn, 1) := by decide +kernel
theorem dX6_after_56 : decode cX6_after 56 = .ok (.aload_n 0, 1) := by decide +kernel
theorem dX6_after_57 : decode cX6_after 57 = .ok (.getfield 37, 3) := by decide +kernel
theorem dX6_after_60 : decode cX6_after 60 = .ok (.aload_n 0, 1) := by decide +kernel
theorem dX6_after_61 : decode cX6_after 61 = .ok (.getfield 30, 3) := by decide +kernel
theorem dX6_after_64 : decode cX6_after 64 = .ok (.aload_n 0, 1) := by decide +kernel
theorem dX6_after_65 : decode cX6_after 65 = .ok (.getfield 30, 3) := by decide +kernel
theorem dX6_after_68 : decode cX6_after 68 = .ok (.getfield 135, 3) := by decide +kernel
theorem dX6_after_71 : decode cX6_after 71 = .ok (.invokevirtual 158, 3) := by decide +kernel
theorem dX6_after_74 : decode cX6_after 74 = .ok (.aload_n 0, 1) := by decide +kernel
theorem dX6_after_75 : decode cX6_after 75 = .ok (.getfield 37, 3) := by decide +kernel
theorem dX6_after_78 : decode cX6_after 78 = .ok (.iload_n 1, 1) := by decide +kernel
theorem dX6_after_79 : decode cX6_after 79 = .ok (.iload_n 2, 1) := by decide +kernel
theorem dX6_after_80 : decode cX6_after 80 = .ok (.iload_n 3, 1) := by decide +kernel
theorem dX6_after_81 : decode cX6_after 81 = .ok (.iload 4, 2) := by decide +kernel
theorem dX6_after_83 : decode cX6_after 83 = .ok (.invokevirtual 191, 3) := by decide +kernel
theorem dX6_after_86 : decode cX6_after 86 = .ok (.lreturn, 1) := by decide +kernel
set_option maxRecDepth 20000 in
theorem ggX6_minutes_X6_isWithin : GoodIn wsX6_minutes wsX6_isWithin := goodIn_r _ [6] (by decide +kernel) (by decide +kernel)
set_option maxRecDepth 20000 in
theorem gX6_minutes_X6_isWithin : GoodIn wsX6_minutes (va_wsS RX6 63 yX6_isWithin wsX6_isWithin) := goodIn_app (goodIn_of _ (by decide +kernel)) ggX6_minutes_X6_isWithin
set_option maxRecDepth 20000 in
theorem ggX6_minutes_X2_minutesAsTold : GoodIn wsX6_minutes wsX2_minutesAsTold := goodIn_r _ [11, 12, 13, 14, 15, 16, 17, 18, 37, 38, 39, 40, 41, 42, 43, 44, 45, 46] (by decide +kernel) (by decide +kernel)
set_option maxRecDepth 20000 in
theorem gX6_minutes_X2_minutesAsTold : GoodIn wsX6_minutes (wsV RX6 195 RX2 yX2_minutesAsTold wsX2_minutesAsTold) := goodIn_app (goodIn_of _ (by decide +kernel)) ggX6_minutes_X2_minutesAsTold
set_option maxRecDepth 20000 in
theorem ggX6_minutes_X6_share : GoodIn wsX6_minutes wsX6_share := goodIn_r _ [21, 22, 23, 17, 24, 2, 25, 26, 5, 27] (by decide +kernel) (by decide +kernel)
set_option maxRecDepth 20000 in
theorem gX6_minutes_X6_share : GoodIn wsX6_minutes (va_wsS RX6 173 yX6_share wsX6_share) := goodIn_app (goodIn_of _ (by decide +kernel)) ggX6_minutes_X6_share
theorem dX6_minutes_0 : decode cX6_minutes 0 = .ok (.iload_n 1, 1) := by decide +kernel
theorem dX6_minutes_1 : decode cX6_minutes 1 = .ok (.iconst 0, 1) := by decide +kernel
theorem dX6_minutes_2 : decode cX6_minutes 2 = .ok (.iconst 5, 1) := by decide +kernel
theorem dX6_minutes_3 : decode cX6_minutes 3 = .ok (.invokestatic 63, 3) := by decide +kernel
theorem dX6_minutes_6 : decode cX6_minutes 6 = .ok (.ifCond .eq 22, 3) := by decide +kernel
theorem dX6_minutes_9 : decode cX6_minutes 9 = .ok (.iload_n 2, 1) := by decide +kernel
theorem dX6_minutes_10 : decode cX6_minutes 10 = .ok (.iconst 0, 1) := by decide +kernel
theorem dX6_minutes_11 : decode cX6_minutes 11 = .ok (.iconst 2, 1) := by decide +kernel
theorem dX6_minutes_12 : decode cX6_minutes 12 = .ok (.invokestatic 63, 3) := by decide +kernel
theorem dX6_minutes_15 : decode cX6_minutes 15 = .ok (.ifCond .eq 13, 3) := by decide +kernel
theorem dX6_minutes_18 : decode cX6_minutes 18 = .ok (.aload_n 0, 1) := by decide +kernel
theorem dX6_minutes_19 : decode cX6_minutes 19 = .ok (.getfield 30, 3) := by decide +kernel
theorem dX6_minutes_22 : decode cX6_minutes 22 = .ok (.getfield 100, 3) := by decide +kernel
theorem dX6_minutes_25 : decode cX6_minutes 25 = .ok (.ifCond .ne 7, 3) := by decide +kernel
theorem dX6_minutes_28 : decode cX6_minutes 28 = .ok (.ldc2_w 156, 3) := by decide +kernel
theorem dX6_minutes_31 : decode cX6_minutes 31 = .ok (.lreturn, 1) := by decide +kernel
theorem dX6_minutes_32 : decode cX6_minutes 32 = .ok (.iload_n 2, 1) := by decide +kernel
theorem dX6_minutes_33 : decode cX6_minutes 33 = .ok (.iconst 2, 1) := by decide +kernel
theorem dX6_minutes_34 : decode cX6_minutes 34 = .ok (.if_icmp .ne 13, 3) := by decide +kernel
theorem dX6_minutes_37 : decode cX6_minutes 37 = .ok (.aload_n 0, 1) := by decide +kernel
theorem dX6_minutes_38 : decode cX6_minutes 38 = .ok (.getfield 30, 3) := by decide +kernel
theorem dX6_minutes_41 : decode cX6_minutes 41 = .ok (.iload_n 1, 1) := by decide +kernel
theorem dX6_minutes_42 : decode cX6_minutes 42 = .ok (.invokevirtual 195, 3) := by decide +kernel
theorem dX6_minutes_45 : decode cX6_minutes 45 = .ok (.i2l, 1) := by decide +kernel
theorem dX6_minutes_46 : decode cX6_minutes 46 = .ok (.lreturn, 1) := by decide +kernel
theorem dX6_minutes_47 : decode cX6_minutes 47 = .ok (.bipush 12, 2) := by decide +kernel
theorem dX6_minutes_49 : decode cX6_minutes 49 = .ok (.iload_n 1, 1) := by decide +kernel
theorem dX6_minutes_50 : decode cX6_minutes 50 = .ok (.iconst 1, 1) := by decide +kernel
theorem dX6_minutes_51 : decode cX6_minutes 51 = .ok (.iadd, 1) := by decide +kernel
theorem dX6_minutes_52 : decode cX6_minutes 52 = .ok (.imul, 1) := by decide +kernel
theorem dX6_minutes_53 : decode cX6_minutes 53 = .ok (.i2l, 1) := by decide +kernel
theorem dX6_minutes_54 : decode cX6_minutes 54 = .ok (.aload_n 0, 1) := by decide +kernel
theorem dX6_minutes_55 : decode cX6_minutes 55 = .ok (.getfield 30, 3) := by decide +kernel
theorem dX6_minutes_58 : decode cX6_minutes 58 = .ok (.getfield 104, 3) := by decide +kernel
theorem dX6_minutes_61 : decode cX6_minutes 61 = .ok (.i2l, 1) := by decide +kernel
theorem dX6_minutes_62 : decode cX6_minutes 62 = .ok (.iload_n 2, 1) := by decide +kernel
theorem dX6_minutes_63 : decode cX6_minutes 63 = .ok (.invokestatic 173, 3) := by decide +kernel
theorem dX6_minutes_66 : decode cX6_minutes 66 = .ok (.lreturn, 1) := by decide +kernel
set_option maxRecDepth 20000 in
theorem ggX6_gain_X6_isWithin : GoodIn wsX6_gain wsX6_isWithin := goodIn_r _ [7] (by decide +kernel) (by decide +kernel)
set_option maxRecDepth 20000 in
theorem gX6_gain_X6_isWithin : GoodIn wsX6_gain (va_wsS RX6 63 yX6_isWithin wsX6_isWithin) := goodIn_app (goodIn_of _ (by decide +kernel)) ggX6_gain_X6_isWithin
set_option maxRecDepth 20000 in
theorem ggX6_gain_X0_reckon : GoodIn wsX6_gain wsX0_reckon := goodIn_r _ [12, 13, 14, 15, 16, 17, 18, 19, 20, 21, 22, 23, 24, 25, 26, 27, 28, 29, 30, 31, 32, 6, 33, 34, 35, 36, 37, 38, 39, 40, 41, 42, 43, 44, 45, 46, 47, 48, 49, 50, 51, 52, 53, 54, 55, 56, 57, 58, 59, 60, 61, 62, 63, 64, 65, 95, 96, 97, 98, 99, 100, 85, 86, 87, 88, 89, 90, 91, 92, 93, 94, 101, 102, 103, 104, 105, 106, 107] (by decide +kernel) (by decide +kernel)
set_option maxRecDepth 20000 in
theorem gX6_gain_X0_reckon : GoodIn wsX6_gain (wsV RX6 198 RX0 yX0_reckon wsX0_reckon) := goodIn_app (goodIn_of _ (by decide +kernel)) ggX6_gain_X0_reckon
set_option maxRecDepth 20000 in
theorem ggX6_gain_X6_share : GoodIn wsX6_gain wsX6_share := goodIn_r _ [68, 69, 70, 71, 72, 2, 73, 74, 6, 75] (by decide +kernel) (by decide +kernel)
set_option maxRecDepth 20000 in
theorem gX6_gain_X6_share : GoodIn wsX6_gain (va_wsS RX6 173 yX6_share wsX6_share) := goodIn_app (goodIn_of _ (by decide +kernel)) ggX6_gain_X6_share
theorem dX6_gain_0 : decode cX6_gain 0 = .ok (.iload_n 1, 1) := by decide +kernel
theorem dX6_gain_1 : decode cX6_gain 1 = .ok (.iconst 0, 1) := by decide +kernel
theorem dX6_gain_2 : decode cX6_gain 2 = .ok (.iconst 1, 1) := by decide +kernel
theorem dX6_gain_3 : decode cX6_gain 3 = .ok (.invokestatic 63, 3) := by decide +kernel
theorem dX6_gain_6 : decode cX6_gain 6 = .ok (.ifCond .eq 13, 3) := by decide +kernel
theorem dX6_gain_9 : decode cX6_gain 9 = .ok (.aload_n 0, 1) := by decide +kernel
theorem dX6_gain_10 : decode cX6_gain 10 = .ok (.getfield 30, 3) := by decide +kernel
theorem dX6_gain_13 : decode cX6_gain 13 = .ok (.getfield 100, 3) := by decide +kernel
theorem dX6_gain_16 : decode cX6_gain 16 = .ok (.ifCond .ne 7, 3) := by decide +kernel
theorem dX6_gain_19 : decode cX6_gain 19 = .ok (.ldc2_w 156, 3) := by decide +kernel
theorem dX6_gain_22 : decode cX6_gain 22 = .ok (.lreturn, 1) := by decide +kernel
theorem dX6_gain_23 : decode cX6_gain 23 = .ok (.aload_n 0, 1) := by decide +kernel
theorem dX6_gain_24 : decode cX6_gain 24 = .ok (.getfield 44, 3) := by decide +kernel
theorem dX6_gain_27 : decode cX6_gain 27 = .ok (.aload_n 0, 1) := by decide +kernel
theorem dX6_gain_28 : decode cX6_gain 28 = .ok (.getfield 30, 3) := by decide +kernel
theorem dX6_gain_31 : decode cX6_gain 31 = .ok (.aload_n 0, 1) := by decide +kernel
theorem dX6_gain_32 : decode cX6_gain 32 = .ok (.getfield 30, 3) := by decide +kernel
theorem dX6_gain_35 : decode cX6_gain 35 = .ok (.getfield 135, 3) := by decide +kernel
theorem dX6_gain_38 : decode cX6_gain 38 = .ok (.invokevirtual 198, 3) := by decide +kernel
theorem dX6_gain_41 : decode cX6_gain 41 = .ok (.aload_n 0, 1) := by decide +kernel
theorem dX6_gain_42 : decode cX6_gain 42 = .ok (.getfield 44, 3) := by decide +kernel
theorem dX6_gain_45 : decode cX6_gain 45 = .ok (.getfield 201, 3) := by decide +kernel
theorem dX6_gain_48 : decode cX6_gain 48 = .ok (.aload_n 0, 1) := by decide +kernel
theorem dX6_gain_49 : decode cX6_gain 49 = .ok (.getfield 44, 3) := by decide +kernel
theorem dX6_gain_52 : decode cX6_gain 52 = .ok (.getfield 204, 3) := by decide +kernel
theorem dX6_gain_55 : decode cX6_gain 55 = .ok (.iload_n 1, 1) := by decide +kernel
theorem dX6_gain_56 : decode cX6_gain 56 = .ok (.invokestatic 173, 3) := by decide +kernel
theorem dX6_gain_59 : decode cX6_gain 59 = .ok (.lreturn, 1) := by decide +kernel
set_option maxRecDepth 20000 in
theorem ggX6_best_X2_has : GoodIn wsX6_best wsX2_has := goodIn_r _ [7, 8, 9, 10, 11, 103, 104, 105, 106, 107, 108, 109, 110, 111, 112] (by decide +kernel) (by decide +kernel)
set_option maxRecDepth 20000 in
theorem gX6_best_X2_has : GoodIn wsX6_best (wsV RX6 123 RX2 yX2_has wsX2_has) := goodIn_app (goodIn_of _ (by decide +kernel)) ggX6_best_X2_has
set_option maxRecDepth 20000 in
theorem ggX6_best_X0_knowBest : GoodIn wsX6_best wsX0_knowBest := goodIn_r _ [16, 17, 18, 19, 20, 21, 22, 10, 23, 24, 25, 26, 15, 27, 28, 29, 30, 31, 32, 33, 34, 35, 36, 37, 38, 39, 40, 41, 42, 43, 44, 45, 46, 6, 47, 8, 48, 49, 50, 51, 52, 53, 54, 55, 56, 57, 58, 59, 60, 61, 62, 63, 64, 65, 66, 67, 68, 69, 70, 71, 72, 73, 74, 75, 76, 77, 78, 79, 80, 81, 82, 83, 84, 85, 86, 97, 98, 99, 100, 101, 102, 103, 104, 105, 106, 107, 108, 109, 110, 111, 112, 113, 114, 115, 116, 117, 118, 119] (by decide +kernel) (by decide +kernel)
set_option maxRecDepth 20000 in
theorem gX6_best_X0_knowBest : GoodIn wsX6_best (wsV RX6 145 RX0 yX0_knowBest wsX0_knowBest) := goodIn_app (goodIn_of _ (by decide +kernel)) ggX6_best_X0_knowBest
set_option maxRecDepth 20000 in
theorem ggX6_best_X6_at : GoodIn wsX6_best wsX6_at := goodIn_r _ [50] (by decide +kernel) (by decide +kernel)
set_option maxRecDepth 20000 in
theorem gX6_best_X6_at : GoodIn wsX6_best (va_wsS RX6 128 yX6_at wsX6_at) := goodIn_app (goodIn_of _ (by decide +kernel)) ggX6_best_X6_at
theorem dX6_best_0 : decode cX6_best 0 = .ok (.aload_n 0, 1) := by decide +kernel
theorem dX6_best_1 : decode cX6_best 1 = .ok (.getfield 30, 3) := by decide +kernel
theorem dX6_best_4 : decode cX6_best 4 = .ok (.iload_n 1, 1) := by decide +kernel
theorem dX6_best_5 : decode cX6_best 5 = .ok (.invokevirtual 123, 3) := by decide +kernel
theorem dX6_best_8 : decode cX6_best 8 = .ok (.ifCond .ne 5, 3) := by decide +kernel
theorem dX6_best_11 : decode cX6_best 11 = .ok (.iconst (-1), 1) := by decide +kernel
theorem dX6_best_12 : decode cX6_best 12 = .ok (.ireturn, 1) := by decide +kernel
theorem dX6_best_13 : decode cX6_best 13 = .ok (.aload_n 0, 1) := by decide +kernel
theorem dX6_best_14 : decode cX6_best 14 = .ok (.getfield 44, 3) := by decide +kernel
theorem dX6_best_17 : decode cX6_best 17 = .ok (.aload_n 0, 1) := by decide +kernel
theorem dX6_best_18 : decode cX6_best 18 = .ok (.getfield 30, 3) := by decide +kernel
theorem dX6_best_21 : decode cX6_best 21 = .ok (.invokevirtual 145, 3) := by decide +kernel
theorem dX6_best_24 : decode cX6_best 24 = .ok (.aload_n 0, 1) := by decide +kernel
theorem dX6_best_25 : decode cX6_best 25 = .ok (.getfield 44, 3) := by decide +kernel
theorem dX6_best_28 : decode cX6_best 28 = .ok (.getfield 153, 3) := by decide +kernel
theorem dX6_best_31 : decode cX6_best 31 = .ok (.iload_n 1, 1) := by decide +kernel
theorem dX6_best_32 : decode cX6_best 32 = .ok (.invokestatic 128, 3) := by decide +kernel
theorem dX6_best_35 : decode cX6_best 35 = .ok (.ireturn, 1) := by decide +kernel
set_option maxRecDepth 20000 in
theorem ggX6_against_X6_rowsOf : GoodIn wsX6_against wsX6_rowsOf := goodIn_r _ [6] (by decide +kernel) (by decide +kernel)
set_option maxRecDepth 20000 in
theorem gX6_against_X6_rowsOf : GoodIn wsX6_against (va_wsS RX6 207 yX6_rowsOf wsX6_rowsOf) := goodIn_app (goodIn_of _ (by decide +kernel)) ggX6_against_X6_rowsOf
set_option maxRecDepth 20000 in
theorem ggX6_against_X6_isWithin : GoodIn wsX6_against wsX6_isWithin := goodIn_r _ [9] (by decide +kernel) (by decide +kernel)
set_option maxRecDepth 20000 in
theorem gX6_against_X6_isWithin : GoodIn wsX6_against (va_wsS RX6 63 yX6_isWithin wsX6_isWithin) := goodIn_app (goodIn_of _ (by decide +kernel)) ggX6_against_X6_isWithin
set_option maxRecDepth 20000 in
theorem ggX6_against_X0_rowBecomes : GoodIn wsX6_against wsX0_rowBecomes := goodIn_r _ [14, 15, 16, 5, 17, 89, 90, 91, 92, 93, 94, 95, 96, 97, 98, 99, 100, 101, 102, 103, 104] (by decide +kernel) (by decide +kernel)
set_option maxRecDepth 20000 in
theorem gX6_against_X0_rowBecomes : GoodIn wsX6_against (wsV RX6 210 RX0 yX0_rowBecomes wsX0_rowBecomes) := goodIn_app (goodIn_of _ (by decide +kernel)) ggX6_against_X0_rowBecomes
set_option maxRecDepth 20000 in
theorem ggX6_against_X0_reckon : GoodIn wsX6_against wsX0_reckon := goodIn_r _ [21, 22, 23, 24, 25, 26, 27, 28, 29, 30, 31, 32, 33, 34, 35, 36, 37, 38, 39, 40, 41, 5, 42, 16, 17, 43, 44, 45, 46, 47, 48, 49, 50, 51, 52, 53, 54, 55, 56, 57, 58, 59, 60, 61, 62, 63, 64, 65, 66, 67, 68, 69, 70, 71, 72, 99, 100, 101, 102, 103, 104, 89, 90, 91, 92, 93, 94, 95, 96, 97, 98, 105, 106, 107, 108, 109, 110, 111] (by decide +kernel) (by decide +kernel)
set_option maxRecDepth 20000 in
theorem gX6_against_X0_reckon : GoodIn wsX6_against (wsV RX6 198 RX0 yX0_reckon wsX0_reckon) := goodIn_app (goodIn_of _ (by decide +kernel)) ggX6_against_X0_reckon
set_option maxRecDepth 20000 in
theorem ggX6_against_X6_compareShares : GoodIn wsX6_against wsX6_compareShares := goodIn_r _ [75, 76, 77, 78, 79] (by decide +kernel) (by decide +kernel)
set_option maxRecDepth 20000 in
theorem gX6_against_X6_compareShares : GoodIn wsX6_against (va_wsS RX6 217 yX6_compareShares wsX6_compareShares) := goodIn_app (goodIn_of _ (by decide +kernel)) ggX6_against_X6_compareShares
theorem dX6_against_0 : decode cX6_against 0 = .ok (.aload_n 0, 1) := by decide +kernel
theorem dX6_against_1 : decode cX6_against 1 = .ok (.getfield 30, 3) := by decide +kernel
theorem dX6_against_4 : decode cX6_against 4 = .ok (.getfield 97, 3) := by decide +kernel
theorem dX6_against_7 : decode cX6_against 7 = .ok (.invokestatic 207, 3) := by decide +kernel
theorem dX6_against_10 : decode cX6_against 10 = .ok (.iconst 1, 1) := by decide +kernel
theorem dX6_against_11 : decode cX6_against 11 = .ok (.isub, 1) := by decide +kernel
theorem dX6_against_12 : decode cX6_against 12 = .ok (.istore_n 3, 1) := by decide +kernel
theorem dX6_against_13 : decode cX6_against 13 = .ok (.iload_n 1, 1) := by decide +kernel
theorem dX6_against_14 : decode cX6_against 14 = .ok (.iconst 0, 1) := by decide +kernel
theorem dX6_against_15 : decode cX6_against 15 = .ok (.iload_n 3, 1) := by decide +kernel
theorem dX6_against_16 : decode cX6_against 16 = .ok (.invokestatic 63, 3) := by decide +kernel
theorem dX6_against_19 : decode cX6_against 19 = .ok (.ifCond .eq 12, 3) := by decide +kernel
theorem dX6_against_22 : decode cX6_against 22 = .ok (.iload_n 2, 1) := by decide +kernel
theorem dX6_against_23 : decode cX6_against 23 = .ok (.iconst 0, 1) := by decide +kernel
theorem dX6_against_24 : decode cX6_against 24 = .ok (.iload_n 3, 1) := by decide +kernel
theorem dX6_against_25 : decode cX6_against 25 = .ok (.invokestatic 63, 3) := by decide +kernel
theorem dX6_against_28 : decode cX6_against 28 = .ok (.ifCond .ne 6, 3) := by decide +kernel
theorem dX6_against_31 : decode cX6_against 31 = .ok (.bipush (-2), 2) := by decide +kernel
theorem dX6_against_33 : decode cX6_against 33 = .ok (.ireturn, 1) := by decide +kernel
theorem dX6_against_34 : decode cX6_against 34 = .ok (.aload_n 0, 1) := by decide +kernel
theorem dX6_against_35 : decode cX6_against 35 = .ok (.getfield 30, 3) := by decide +kernel
theorem dX6_against_38 : decode cX6_against 38 = .ok (.getfield 100, 3) := by decide +kernel
theorem dX6_against_41 : decode cX6_against 41 = .ok (.ifCond .ne 6, 3) := by decide +kernel
theorem dX6_against_44 : decode cX6_against 44 = .ok (.bipush (-3), 2) := by decide +kernel
theorem dX6_against_46 : decode cX6_against 46 = .ok (.ireturn, 1) := by decide +kernel
theorem dX6_against_47 : decode cX6_against 47 = .ok (.aload_n 0, 1) := by decide +kernel
theorem dX6_against_48 : decode cX6_against 48 = .ok (.getfield 44, 3) := by decide +kernel
theorem dX6_against_51 : decode cX6_against 51 = .ok (.aload_n 0, 1) := by decide +kernel
theorem dX6_against_52 : decode cX6_against 52 = .ok (.getfield 30, 3) := by decide +kernel
theorem dX6_against_55 : decode cX6_against 55 = .ok (.iload_n 1, 1) := by decide +kernel
theorem dX6_against_56 : decode cX6_against 56 = .ok (.invokevirtual 210, 3) := by decide +kernel
theorem dX6_against_59 : decode cX6_against 59 = .ok (.aload_n 0, 1) := by decide +kernel
theorem dX6_against_60 : decode cX6_against 60 = .ok (.getfield 44, 3) := by decide +kernel
theorem dX6_against_63 : decode cX6_against 63 = .ok (.aload_n 0, 1) := by decide +kernel
theorem dX6_against_64 : decode cX6_against 64 = .ok (.getfield 30, 3) := by decide +kernel
theorem dX6_against_67 : decode cX6_against 67 = .ok (.aload_n 0, 1) := by decide +kernel
theorem dX6_against_68 : decode cX6_against 68 = .ok (.getfield 44, 3) := by decide +kernel
theorem dX6_against_71 : decode cX6_against 71 = .ok (.getfield 214, 3) := by decide +kernel
theorem dX6_against_74 : decode cX6_against 74 = .ok (.invokevirtual 198, 3) := by decide +kernel
theorem dX6_against_77 : decode cX6_against 77 = .ok (.aload_n 0, 1) := by decide +kernel
theorem dX6_against_78 : decode cX6_against 78 = .ok (.getfield 44, 3) := by decide +kernel
theorem dX6_against_81 : decode cX6_against 81 = .ok (.getfield 201, 3) := by decide +kernel
theorem dX6_against_84 : decode cX6_against 84 = .ok (.lstore 4, 2) := by decide +kernel
theorem dX6_against_86 : decode cX6_against 86 = .ok (.aload_n 0, 1) := by decide +kernel
theorem dX6_against_87 : decode cX6_against 87 = .ok (.getfield 44, 3) := by decide +kernel
theorem dX6_against_90 : decode cX6_against 90 = .ok (.getfield 204, 3) := by decide +kernel
theorem dX6_against_93 : decode cX6_against 93 = .ok (.lstore 6, 2) := by decide +kernel
theorem dX6_against_95 : decode cX6_against 95 = .ok (.aload_n 0, 1) := by decide +kernel
theorem dX6_against_96 : decode cX6_against 96 = .ok (.getfield 44, 3) := by decide +kernel
theorem dX6_against_99 : decode cX6_against 99 = .ok (.aload_n 0, 1) := by decide +kernel
theorem dX6_against_100 : decode cX6_against 100 = .ok (.getfield 30, 3) := by decide +kernel
theorem dX6_against_103 : decode cX6_against 103 = .ok (.iload_n 2, 1) := by decide +kernel
theorem dX6_against_104 : decode cX6_against 104 = .ok (.invokevirtual 210, 3) := by decide +kernel
theorem dX6_against_107 : decode cX6_against 107 = .ok (.aload_n 0, 1) := by decide +kernel
theorem dX6_against_108 : decode cX6_against 108 = .ok (.getfield 44, 3) := by decide +kernel
theorem dX6_against_111 : decode cX6_against 111 = .ok (.aload_n 0, 1) := by decide +kernel
theorem dX6_against_112 : decode cX6_against 112 = .ok (.getfield 30, 3) := by decide +kernel
theorem dX6_against_115 : decode cX6_against 115 = .ok (.aload_n 0, 1) := by decide +kernel
theorem dX6_against_116 : decode cX6_against 116 = .ok (.getfield 44, 3) := by decide +kernel
theorem dX6_against_119 : decode cX6_against 119 = .ok (.getfield 214, 3) := by decide +kernel
theorem dX6_against_122 : decode cX6_against 122 = .ok (.invokevirtual 198, 3) := by decide +kernel
theorem dX6_against_125 : decode cX6_against 125 = .ok (.lload 4, 2) := by decide +kernel
theorem dX6_against_127 : decode cX6_against 127 = .ok (.lload 6, 2) := by decide +kernel
theorem dX6_against_129 : decode cX6_against 129 = .ok (.aload_n 0, 1) := by decide +kernel
theorem dX6_against_130 : decode cX6_against 130 = .ok (.getfield 44, 3) := by decide +kernel
theorem dX6_against_133 : decode cX6_against 133 = .ok (.getfield 201, 3) := by decide +kernel
theorem dX6_against_136 : decode cX6_against 136 = .ok (.aload_n 0, 1) := by decide +kernel
theorem dX6_against_137 : decode cX6_against 137 = .ok (.getfield 44, 3) := by decide +kernel
theorem dX6_against_140 : decode cX6_against 140 = .ok (.getfield 204, 3) := by decide +kernel
theorem dX6_against_143 : decode cX6_against 143 = .ok (.invokestatic 217, 3) := by decide +kernel
theorem dX6_against_146 : decode cX6_against 146 = .ok (.ireturn, 1) := by decide +kernel
set_option maxRecDepth 20000 in
theorem ggX6_mends_X6_isWithin : GoodIn wsX6_mends wsX6_isWithin := goodIn_r _ [6] (by decide +kernel) (by decide +kernel)
set_option maxRecDepth 20000 in
theorem gX6_mends_X6_isWithin : GoodIn wsX6_mends (va_wsS RX6 63 yX6_isWithin wsX6_isWithin) := goodIn_app (goodIn_of _ (by decide +kernel)) ggX6_mends_X6_isWithin
set_option maxRecDepth 20000 in
theorem ggX6_mends_X0_knowBest : GoodIn wsX6_mends wsX0_knowBest := goodIn_r _ [11, 12, 13, 14, 15, 16, 17, 5, 18, 19, 20, 21, 10, 22, 23, 24, 25, 26, 27, 28, 29, 30, 31, 32, 33, 34, 35, 36, 37, 38, 39, 40, 41, 42, 43, 44, 45, 46, 47, 48, 49, 50, 51, 52, 53, 54, 55, 56, 57, 58, 59, 60, 61, 62, 63, 64, 65, 66, 67, 68, 69, 70, 71, 72, 73, 74, 75, 76, 77, 78, 79, 80, 81, 82, 83, 115, 116, 117, 118, 119, 120, 105, 106, 107, 108, 109, 110, 111, 112, 113, 114, 121, 122, 123, 124, 125, 126, 127] (by decide +kernel) (by decide +kernel)
set_option maxRecDepth 20000 in
theorem gX6_mends_X0_knowBest : GoodIn wsX6_mends (wsV RX6 145 RX0 yX0_knowBest wsX0_knowBest) := goodIn_app (goodIn_of _ (by decide +kernel)) ggX6_mends_X0_knowBest
set_option maxRecDepth 20000 in
theorem ggX6_mends_X6_mendsAll : GoodIn wsX6_mends wsX6_mendsAll := goodIn_r _ [87, 1, 2, 88, 89, 90, 42, 91, 92, 93, 94, 46, 5, 47, 95, 96, 97, 98, 99, 100, 101, 102, 103, 104, 105, 106, 107, 108, 109, 110, 111, 112, 113, 114, 115, 116, 117, 118, 119, 120] (by decide +kernel) (by decide +kernel)
set_option maxRecDepth 20000 in
theorem gX6_mends_X6_mendsAll : GoodIn wsX6_mends (wsV RX6 221 RX6 yX6_mendsAll wsX6_mendsAll) := goodIn_app (goodIn_of _ (by decide +kernel)) ggX6_mends_X6_mendsAll
theorem dX6_mends_0 : decode cX6_mends 0 = .ok (.iload_n 1, 1) := by decide +kernel
theorem dX6_mends_1 : decode cX6_mends 1 = .ok (.iconst 0, 1) := by decide +kernel
theorem dX6_mends_2 : decode cX6_mends 2 = .ok (.iconst 2, 1) := by decide +kernel
theorem dX6_mends_3 : decode cX6_mends 3 = .ok (.invokestatic 63, 3) := by decide +kernel
theorem dX6_mends_6 : decode cX6_mends 6 = .ok (.ifCond .ne 6, 3) := by decide +kernel
theorem dX6_mends_9 : decode cX6_mends 9 = .ok (.bipush (-2), 2) := by decide +kernel
theorem dX6_mends_11 : decode cX6_mends 11 = .ok (.ireturn, 1) := by decide +kernel
theorem dX6_mends_12 : decode cX6_mends 12 = .ok (.aload_n 0, 1) := by decide +kernel
theorem dX6_mends_13 : decode cX6_mends 13 = .ok (.getfield 30, 3) := by decide +kernel
theorem dX6_mends_16 : decode cX6_mends 16 = .ok (.getfield 100, 3) := by decide +kernel
theorem dX6_mends_19 : decode cX6_mends 19 = .ok (.ifCond .ne 6, 3) := by decide +kernel
theorem dX6_mends_22 : decode cX6_mends 22 = .ok (.bipush (-3), 2) := by decide +kernel
theorem dX6_mends_24 : decode cX6_mends 24 = .ok (.ireturn, 1) := by decide +kernel
theorem dX6_mends_25 : decode cX6_mends 25 = .ok (.aload_n 0, 1) := by decide +kernel
theorem dX6_mends_26 : decode cX6_mends 26 = .ok (.getfield 44, 3) := by decide +kernel
theorem dX6_mends_29 : decode cX6_mends 29 = .ok (.aload_n 0, 1) := by decide +kernel
theorem dX6_mends_30 : decode cX6_mends 30 = .ok (.getfield 30, 3) := by decide +kernel
theorem dX6_mends_33 : decode cX6_mends 33 = .ok (.invokevirtual 145, 3) := by decide +kernel
theorem dX6_mends_36 : decode cX6_mends 36 = .ok (.bipush (-9), 2) := by decide +kernel
theorem dX6_mends_38 : decode cX6_mends 38 = .ok (.istore_n 2, 1) := by decide +kernel
theorem dX6_mends_39 : decode cX6_mends 39 = .ok (.bipush (-9), 2) := by decide +kernel
theorem dX6_mends_41 : decode cX6_mends 41 = .ok (.istore_n 3, 1) := by decide +kernel
theorem dX6_mends_42 : decode cX6_mends 42 = .ok (.iconst 0, 1) := by decide +kernel
theorem dX6_mends_43 : decode cX6_mends 43 = .ok (.istore 4, 2) := by decide +kernel
theorem dX6_mends_45 : decode cX6_mends 45 = .ok (.iconst 0, 1) := by decide +kernel
theorem dX6_mends_46 : decode cX6_mends 46 = .ok (.istore 5, 2) := by decide +kernel
theorem dX6_mends_48 : decode cX6_mends 48 = .ok (.iload 5, 2) := by decide +kernel
theorem dX6_mends_50 : decode cX6_mends 50 = .ok (.sipush 999, 3) := by decide +kernel
theorem dX6_mends_53 : decode cX6_mends 53 = .ok (.if_icmp .gt 32, 3) := by decide +kernel
theorem dX6_mends_56 : decode cX6_mends 56 = .ok (.aload_n 0, 1) := by decide +kernel
theorem dX6_mends_57 : decode cX6_mends 57 = .ok (.iload 5, 2) := by decide +kernel
theorem dX6_mends_59 : decode cX6_mends 59 = .ok (.invokevirtual 221, 3) := by decide +kernel
theorem dX6_mends_62 : decode cX6_mends 62 = .ok (.ifCond .eq 17, 3) := by decide +kernel
theorem dX6_mends_65 : decode cX6_mends 65 = .ok (.iload 4, 2) := by decide +kernel
theorem dX6_mends_67 : decode cX6_mends 67 = .ok (.ifCond .ne 6, 3) := by decide +kernel
theorem dX6_mends_70 : decode cX6_mends 70 = .ok (.iload 5, 2) := by decide +kernel
theorem dX6_mends_72 : decode cX6_mends 72 = .ok (.istore_n 2, 1) := by decide +kernel
theorem dX6_mends_73 : decode cX6_mends 73 = .ok (.iload 5, 2) := by decide +kernel
theorem dX6_mends_75 : decode cX6_mends 75 = .ok (.istore_n 3, 1) := by decide +kernel
theorem dX6_mends_76 : decode cX6_mends 76 = .ok (.iinc 4 1, 3) := by decide +kernel
theorem dX6_mends_79 : decode cX6_mends 79 = .ok (.iinc 5 1, 3) := by decide +kernel
theorem dX6_mends_82 : decode cX6_mends 82 = .ok (.goto (-34), 3) := by decide +kernel
theorem dX6_mends_85 : decode cX6_mends 85 = .ok (.iload_n 1, 1) := by decide +kernel
theorem dX6_mends_86 : decode cX6_mends 86 = .ok (.ifCond .ne 7, 3) := by decide +kernel
theorem dX6_mends_89 : decode cX6_mends 89 = .ok (.iload_n 2, 1) := by decide +kernel
theorem dX6_mends_90 : decode cX6_mends 90 = .ok (.goto 14, 3) := by decide +kernel
theorem dX6_mends_93 : decode cX6_mends 93 = .ok (.iload_n 1, 1) := by decide +kernel
theorem dX6_mends_94 : decode cX6_mends 94 = .ok (.iconst 1, 1) := by decide +kernel
theorem dX6_mends_95 : decode cX6_mends 95 = .ok (.if_icmp .ne 7, 3) := by decide +kernel
theorem dX6_mends_98 : decode cX6_mends 98 = .ok (.iload_n 3, 1) := by decide +kernel
theorem dX6_mends_99 : decode cX6_mends 99 = .ok (.goto 5, 3) := by decide +kernel
theorem dX6_mends_102 : decode cX6_mends 102 = .ok (.iload 4, 2) := by decide +kernel
theorem dX6_mends_104 : decode cX6_mends 104 = .ok (.ireturn, 1) := by decide +kernel
set_option maxRecDepth 20000 in
theorem ggX6_mendsAll_X2_hisBarUnseen : GoodIn wsX6_mendsAll wsX2_hisBarUnseen := goodIn_r _ [7, 8, 9, 10, 11, 12, 13, 24, 25, 26, 27, 28, 29, 30, 31, 32, 33] (by decide +kernel) (by decide +kernel)
set_option maxRecDepth 20000 in
theorem gX6_mendsAll_X2_hisBarUnseen : GoodIn wsX6_mendsAll (wsV RX6 224 RX2 yX2_hisBarUnseen wsX2_hisBarUnseen) := goodIn_app (goodIn_of _ (by decide +kernel)) ggX6_mendsAll_X2_hisBarUnseen
set_option maxRecDepth 20000 in
theorem ggX6_mendsAll_X6_at : GoodIn wsX6_mendsAll wsX6_at := goodIn_r _ [13] (by decide +kernel) (by decide +kernel)
set_option maxRecDepth 20000 in
theorem gX6_mendsAll_X6_at : GoodIn wsX6_mendsAll (va_wsS RX6 128 yX6_at wsX6_at) := goodIn_app (goodIn_of _ (by decide +kernel)) ggX6_mendsAll_X6_at
theorem dX6_mendsAll_0 : decode cX6_mendsAll 0 = .ok (.iconst 0, 1) := by decide +kernel
theorem dX6_mendsAll_1 : decode cX6_mendsAll 1 = .ok (.istore_n 2, 1) := by decide +kernel
theorem dX6_mendsAll_2 : decode cX6_mendsAll 2 = .ok (.iload_n 2, 1) := by decide +kernel
theorem dX6_mendsAll_3 : decode cX6_mendsAll 3 = .ok (.aload_n 0, 1) := by decide +kernel
theorem dX6_mendsAll_4 : decode cX6_mendsAll 4 = .ok (.getfield 30, 3) := by decide +kernel
theorem dX6_mendsAll_7 : decode cX6_mendsAll 7 = .ok (.getfield 97, 3) := by decide +kernel
theorem dX6_mendsAll_10 : decode cX6_mendsAll 10 = .ok (.if_icmp .ge 34, 3) := by decide +kernel
theorem dX6_mendsAll_13 : decode cX6_mendsAll 13 = .ok (.aload_n 0, 1) := by decide +kernel
theorem dX6_mendsAll_14 : decode cX6_mendsAll 14 = .ok (.getfield 30, 3) := by decide +kernel
theorem dX6_mendsAll_17 : decode cX6_mendsAll 17 = .ok (.iload_n 2, 1) := by decide +kernel
theorem dX6_mendsAll_18 : decode cX6_mendsAll 18 = .ok (.iload_n 1, 1) := by decide +kernel
theorem dX6_mendsAll_19 : decode cX6_mendsAll 19 = .ok (.invokevirtual 224, 3) := by decide +kernel
theorem dX6_mendsAll_22 : decode cX6_mendsAll 22 = .ok (.aload_n 0, 1) := by decide +kernel
theorem dX6_mendsAll_23 : decode cX6_mendsAll 23 = .ok (.getfield 44, 3) := by decide +kernel
theorem dX6_mendsAll_26 : decode cX6_mendsAll 26 = .ok (.getfield 153, 3) := by decide +kernel
theorem dX6_mendsAll_29 : decode cX6_mendsAll 29 = .ok (.iload_n 2, 1) := by decide +kernel
theorem dX6_mendsAll_30 : decode cX6_mendsAll 30 = .ok (.invokestatic 128, 3) := by decide +kernel
theorem dX6_mendsAll_33 : decode cX6_mendsAll 33 = .ok (.if_icmp .eq 5, 3) := by decide +kernel
theorem dX6_mendsAll_36 : decode cX6_mendsAll 36 = .ok (.iconst 0, 1) := by decide +kernel
theorem dX6_mendsAll_37 : decode cX6_mendsAll 37 = .ok (.ireturn, 1) := by decide +kernel
theorem dX6_mendsAll_38 : decode cX6_mendsAll 38 = .ok (.iinc 2 1, 3) := by decide +kernel
theorem dX6_mendsAll_41 : decode cX6_mendsAll 41 = .ok (.goto (-39), 3) := by decide +kernel
theorem dX6_mendsAll_44 : decode cX6_mendsAll 44 = .ok (.iconst 1, 1) := by decide +kernel
theorem dX6_mendsAll_45 : decode cX6_mendsAll 45 = .ok (.ireturn, 1) := by decide +kernel
set_option maxRecDepth 20000 in
theorem ggX6_blind_X6_isWithin : GoodIn wsX6_blind wsX6_isWithin := goodIn_r _ [7] (by decide +kernel) (by decide +kernel)
set_option maxRecDepth 20000 in
theorem gX6_blind_X6_isWithin : GoodIn wsX6_blind (va_wsS RX6 63 yX6_isWithin wsX6_isWithin) := goodIn_app (goodIn_of _ (by decide +kernel)) ggX6_blind_X6_isWithin
set_option maxRecDepth 20000 in
theorem ggX6_blind_X1_comeBlind : GoodIn wsX6_blind wsX1_comeBlind := goodIn_r _ [12, 13, 14, 15, 16, 6, 17, 18, 19, 20, 21, 22, 11, 23, 24, 25, 26, 27, 28, 29, 30, 31, 32, 33, 34, 35, 36, 37, 58, 59, 60, 61, 62, 63, 64, 65, 66, 67, 68, 69, 70, 71, 72, 73, 74] (by decide +kernel) (by decide +kernel)
set_option maxRecDepth 20000 in
theorem gX6_blind_X1_comeBlind : GoodIn wsX6_blind (wsV RX6 227 RX1 yX1_comeBlind wsX1_comeBlind) := goodIn_app (goodIn_of _ (by decide +kernel)) ggX6_blind_X1_comeBlind
set_option maxRecDepth 20000 in
theorem ggX6_blind_X6_at_ : GoodIn wsX6_blind wsX6_at_ := goodIn_r _ [33] (by decide +kernel) (by decide +kernel)
set_option maxRecDepth 20000 in
theorem gX6_blind_X6_at_ : GoodIn wsX6_blind (va_wsS RX6 166 yX6_at_ wsX6_at_) := goodIn_app (goodIn_of _ (by decide +kernel)) ggX6_blind_X6_at_
set_option maxRecDepth 20000 in
theorem ggX6_blind_X6_share : GoodIn wsX6_blind wsX6_share := goodIn_r _ [41, 42, 43, 44, 45, 1, 46, 47, 6, 48] (by decide +kernel) (by decide +kernel)
set_option maxRecDepth 20000 in
theorem gX6_blind_X6_share : GoodIn wsX6_blind (va_wsS RX6 173 yX6_share wsX6_share) := goodIn_app (goodIn_of _ (by decide +kernel)) ggX6_blind_X6_share
theorem dX6_blind_0 : decode cX6_blind 0 = .ok (.iload_n 1, 1) := by decide +kernel
theorem dX6_blind_1 : decode cX6_blind 1 = .ok (.iconst 0, 1) := by decide +kernel
theorem dX6_blind_2 : decode cX6_blind 2 = .ok (.bipush 12, 2) := by decide +kernel
theorem dX6_blind_4 : decode cX6_blind 4 = .ok (.invokestatic 63, 3) := by decide +kernel
theorem dX6_blind_7 : decode cX6_blind 7 = .ok (.ifCond .eq 21, 3) := by decide +kernel
theorem dX6_blind_10 : decode cX6_blind 10 = .ok (.iload_n 2, 1) := by decide +kernel
theorem dX6_blind_11 : decode cX6_blind 11 = .ok (.iconst 0, 1) := by decide +kernel
theorem dX6_blind_12 : decode cX6_blind 12 = .ok (.iconst 4, 1) := by decide +kernel
theorem dX6_blind_13 : decode cX6_blind 13 = .ok (.invokestatic 63, 3) := by decide +kernel
theorem dX6_blind_16 : decode cX6_blind 16 = .ok (.ifCond .eq 12, 3) := by decide +kernel
theorem dX6_blind_19 : decode cX6_blind 19 = .ok (.iload_n 3, 1) := by decide +kernel
theorem dX6_blind_20 : decode cX6_blind 20 = .ok (.iconst 0, 1) := by decide +kernel
theorem dX6_blind_21 : decode cX6_blind 21 = .ok (.iconst 1, 1) := by decide +kernel
theorem dX6_blind_22 : decode cX6_blind 22 = .ok (.invokestatic 63, 3) := by decide +kernel
theorem dX6_blind_25 : decode cX6_blind 25 = .ok (.ifCond .ne 7, 3) := by decide +kernel
theorem dX6_blind_28 : decode cX6_blind 28 = .ok (.ldc2_w 156, 3) := by decide +kernel
theorem dX6_blind_31 : decode cX6_blind 31 = .ok (.lreturn, 1) := by decide +kernel
theorem dX6_blind_32 : decode cX6_blind 32 = .ok (.aload_n 0, 1) := by decide +kernel
theorem dX6_blind_33 : decode cX6_blind 33 = .ok (.getfield 30, 3) := by decide +kernel
theorem dX6_blind_36 : decode cX6_blind 36 = .ok (.getfield 97, 3) := by decide +kernel
theorem dX6_blind_39 : decode cX6_blind 39 = .ok (.iconst 1, 1) := by decide +kernel
theorem dX6_blind_40 : decode cX6_blind 40 = .ok (.if_icmp .eq 7, 3) := by decide +kernel
theorem dX6_blind_43 : decode cX6_blind 43 = .ok (.ldc2_w 156, 3) := by decide +kernel
theorem dX6_blind_46 : decode cX6_blind 46 = .ok (.lreturn, 1) := by decide +kernel
theorem dX6_blind_47 : decode cX6_blind 47 = .ok (.aload_n 0, 1) := by decide +kernel
theorem dX6_blind_48 : decode cX6_blind 48 = .ok (.getfield 37, 3) := by decide +kernel
theorem dX6_blind_51 : decode cX6_blind 51 = .ok (.aload_n 0, 1) := by decide +kernel
theorem dX6_blind_52 : decode cX6_blind 52 = .ok (.getfield 30, 3) := by decide +kernel
theorem dX6_blind_55 : decode cX6_blind 55 = .ok (.iload_n 1, 1) := by decide +kernel
theorem dX6_blind_56 : decode cX6_blind 56 = .ok (.invokevirtual 227, 3) := by decide +kernel
theorem dX6_blind_59 : decode cX6_blind 59 = .ok (.aload_n 0, 1) := by decide +kernel
theorem dX6_blind_60 : decode cX6_blind 60 = .ok (.getfield 37, 3) := by decide +kernel
theorem dX6_blind_63 : decode cX6_blind 63 = .ok (.getfield 162, 3) := by decide +kernel
theorem dX6_blind_66 : decode cX6_blind 66 = .ok (.iload_n 2, 1) := by decide +kernel
theorem dX6_blind_67 : decode cX6_blind 67 = .ok (.invokestatic 166, 3) := by decide +kernel
theorem dX6_blind_70 : decode cX6_blind 70 = .ok (.aload_n 0, 1) := by decide +kernel
theorem dX6_blind_71 : decode cX6_blind 71 = .ok (.getfield 37, 3) := by decide +kernel
theorem dX6_blind_74 : decode cX6_blind 74 = .ok (.getfield 169, 3) := by decide +kernel
theorem dX6_blind_77 : decode cX6_blind 77 = .ok (.iload_n 3, 1) := by decide +kernel
theorem dX6_blind_78 : decode cX6_blind 78 = .ok (.invokestatic 173, 3) := by decide +kernel
theorem dX6_blind_81 : decode cX6_blind 81 = .ok (.lreturn, 1) := by decide +kernel
set_option maxRecDepth 20000 in
theorem ggX6_rest_X6_paysBlind : GoodIn wsX6_rest wsX6_paysBlind := goodIn_r _ [6, 7, 1, 8, 9, 10, 11, 12, 13, 14, 15, 16, 5, 17, 18, 19, 20, 21, 22, 23, 24, 25, 26, 27, 28, 29, 30, 31, 32, 33, 34, 35, 36, 37, 38, 39, 40, 41, 42, 43, 44, 45, 46, 47, 48, 49, 50, 51, 52, 53, 54, 55, 56, 57, 58, 59, 60, 61, 62, 63, 64, 65, 66, 67, 68] (by decide +kernel) (by decide +kernel)
set_option maxRecDepth 20000 in
theorem gX6_rest_X6_paysBlind : GoodIn wsX6_rest (wsV RX6 230 RX6 yX6_paysBlind wsX6_paysBlind) := goodIn_app (goodIn_of _ (by decide +kernel)) ggX6_rest_X6_paysBlind
theorem dX6_rest_0 : decode cX6_rest 0 = .ok (.aload_n 0, 1) := by decide +kernel
theorem dX6_rest_1 : decode cX6_rest 1 = .ok (.getfield 30, 3) := by decide +kernel
theorem dX6_rest_4 : decode cX6_rest 4 = .ok (.getfield 97, 3) := by decide +kernel
theorem dX6_rest_7 : decode cX6_rest 7 = .ok (.iconst 1, 1) := by decide +kernel
theorem dX6_rest_8 : decode cX6_rest 8 = .ok (.if_icmp .eq 6, 3) := by decide +kernel
theorem dX6_rest_11 : decode cX6_rest 11 = .ok (.bipush (-3), 2) := by decide +kernel
theorem dX6_rest_13 : decode cX6_rest 13 = .ok (.ireturn, 1) := by decide +kernel
theorem dX6_rest_14 : decode cX6_rest 14 = .ok (.bipush 12, 2) := by decide +kernel
theorem dX6_rest_16 : decode cX6_rest 16 = .ok (.istore_n 1, 1) := by decide +kernel
theorem dX6_rest_17 : decode cX6_rest 17 = .ok (.iload_n 1, 1) := by decide +kernel
theorem dX6_rest_18 : decode cX6_rest 18 = .ok (.ifCond .le 19, 3) := by decide +kernel
theorem dX6_rest_21 : decode cX6_rest 21 = .ok (.aload_n 0, 1) := by decide +kernel
theorem dX6_rest_22 : decode cX6_rest 22 = .ok (.iload_n 1, 1) := by decide +kernel
theorem dX6_rest_23 : decode cX6_rest 23 = .ok (.invokevirtual 230, 3) := by decide +kernel
theorem dX6_rest_26 : decode cX6_rest 26 = .ok (.ifCond .eq 5, 3) := by decide +kernel
theorem dX6_rest_29 : decode cX6_rest 29 = .ok (.iload_n 1, 1) := by decide +kernel
theorem dX6_rest_30 : decode cX6_rest 30 = .ok (.ireturn, 1) := by decide +kernel
theorem dX6_rest_31 : decode cX6_rest 31 = .ok (.iinc 1 (-1), 3) := by decide +kernel
theorem dX6_rest_34 : decode cX6_rest 34 = .ok (.goto (-17), 3) := by decide +kernel
theorem dX6_rest_37 : decode cX6_rest 37 = .ok (.iconst 0, 1) := by decide +kernel
theorem dX6_rest_38 : decode cX6_rest 38 = .ok (.ireturn, 1) := by decide +kernel
set_option maxRecDepth 20000 in
theorem ggX6_paysBlind_X1_comeBlind : GoodIn wsX6_paysBlind wsX1_comeBlind := goodIn_r _ [7, 8, 9, 10, 11, 12, 13, 14, 15, 16, 17, 18, 6, 19, 20, 21, 22, 23, 24, 25, 26, 27, 28, 29, 30, 31, 32, 33, 48, 49, 50, 51, 52, 53, 54, 55, 56, 57, 58, 59, 60, 61, 62, 63, 64] (by decide +kernel) (by decide +kernel)
set_option maxRecDepth 20000 in
theorem gX6_paysBlind_X1_comeBlind : GoodIn wsX6_paysBlind (wsV RX6 227 RX1 yX1_comeBlind wsX1_comeBlind) := goodIn_app (goodIn_of _ (by decide +kernel)) ggX6_paysBlind_X1_comeBlind
set_option maxRecDepth 20000 in
theorem ggX6_paysBlind_X1_found : GoodIn wsX6_paysBlind wsX1_found := goodIn_r _ [37, 8, 20, 28, 12, 29, 58, 59, 60, 61, 62, 63, 64] (by decide +kernel) (by decide +kernel)
set_option maxRecDepth 20000 in
theorem gX6_paysBlind_X1_found : GoodIn wsX6_paysBlind (wsV RX6 233 RX1 yX1_found wsX1_found) := goodIn_app (goodIn_of _ (by decide +kernel)) ggX6_paysBlind_X1_found
set_option maxRecDepth 20000 in
theorem ggX6_paysBlind_X6_at : GoodIn wsX6_paysBlind wsX6_at := goodIn_r _ [13] (by decide +kernel) (by decide +kernel)
set_option maxRecDepth 20000 in
theorem gX6_paysBlind_X6_at : GoodIn wsX6_paysBlind (va_wsS RX6 128 yX6_at wsX6_at) := goodIn_app (goodIn_of _ (by decide +kernel)) ggX6_paysBlind_X6_at
theorem dX6_paysBlind_0 : decode cX6_paysBlind 0 = .ok (.aload_n 0, 1) := by decide +kernel
theorem dX6_paysBlind_1 : decode cX6_paysBlind 1 = .ok (.getfield 37, 3) := by decide +kernel
theorem dX6_paysBlind_4 : decode cX6_paysBlind 4 = .ok (.aload_n 0, 1) := by decide +kernel
theorem dX6_paysBlind_5 : decode cX6_paysBlind 5 = .ok (.getfield 30, 3) := by decide +kernel
theorem dX6_paysBlind_8 : decode cX6_paysBlind 8 = .ok (.iload_n 1, 1) := by decide +kernel
theorem dX6_paysBlind_9 : decode cX6_paysBlind 9 = .ok (.invokevirtual 227, 3) := by decide +kernel
theorem dX6_paysBlind_12 : decode cX6_paysBlind 12 = .ok (.lconst 0, 1) := by decide +kernel
theorem dX6_paysBlind_13 : decode cX6_paysBlind 13 = .ok (.lstore_n 2, 1) := by decide +kernel
theorem dX6_paysBlind_14 : decode cX6_paysBlind 14 = .ok (.lconst 0, 1) := by decide +kernel
theorem dX6_paysBlind_15 : decode cX6_paysBlind 15 = .ok (.lstore 4, 2) := by decide +kernel
theorem dX6_paysBlind_17 : decode cX6_paysBlind 17 = .ok (.iconst 0, 1) := by decide +kernel
theorem dX6_paysBlind_18 : decode cX6_paysBlind 18 = .ok (.istore 6, 2) := by decide +kernel
theorem dX6_paysBlind_20 : decode cX6_paysBlind 20 = .ok (.iload 6, 2) := by decide +kernel
theorem dX6_paysBlind_22 : decode cX6_paysBlind 22 = .ok (.iconst 4, 1) := by decide +kernel
theorem dX6_paysBlind_23 : decode cX6_paysBlind 23 = .ok (.if_icmp .ge 41, 3) := by decide +kernel
theorem dX6_paysBlind_26 : decode cX6_paysBlind 26 = .ok (.lload_n 2, 1) := by decide +kernel
theorem dX6_paysBlind_27 : decode cX6_paysBlind 27 = .ok (.aload_n 0, 1) := by decide +kernel
theorem dX6_paysBlind_28 : decode cX6_paysBlind 28 = .ok (.getfield 37, 3) := by decide +kernel
theorem dX6_paysBlind_31 : decode cX6_paysBlind 31 = .ok (.iload 6, 2) := by decide +kernel
theorem dX6_paysBlind_33 : decode cX6_paysBlind 33 = .ok (.invokevirtual 233, 3) := by decide +kernel
theorem dX6_paysBlind_36 : decode cX6_paysBlind 36 = .ok (.ladd, 1) := by decide +kernel
theorem dX6_paysBlind_37 : decode cX6_paysBlind 37 = .ok (.lstore_n 2, 1) := by decide +kernel
theorem dX6_paysBlind_38 : decode cX6_paysBlind 38 = .ok (.lload 4, 2) := by decide +kernel
theorem dX6_paysBlind_40 : decode cX6_paysBlind 40 = .ok (.iload 6, 2) := by decide +kernel
theorem dX6_paysBlind_42 : decode cX6_paysBlind 42 = .ok (.iconst 1, 1) := by decide +kernel
theorem dX6_paysBlind_43 : decode cX6_paysBlind 43 = .ok (.iadd, 1) := by decide +kernel
theorem dX6_paysBlind_44 : decode cX6_paysBlind 44 = .ok (.i2l, 1) := by decide +kernel
theorem dX6_paysBlind_45 : decode cX6_paysBlind 45 = .ok (.aload_n 0, 1) := by decide +kernel
theorem dX6_paysBlind_46 : decode cX6_paysBlind 46 = .ok (.getfield 37, 3) := by decide +kernel
theorem dX6_paysBlind_49 : decode cX6_paysBlind 49 = .ok (.iload 6, 2) := by decide +kernel
theorem dX6_paysBlind_51 : decode cX6_paysBlind 51 = .ok (.invokevirtual 233, 3) := by decide +kernel
theorem dX6_paysBlind_54 : decode cX6_paysBlind 54 = .ok (.lmul, 1) := by decide +kernel
theorem dX6_paysBlind_55 : decode cX6_paysBlind 55 = .ok (.ladd, 1) := by decide +kernel
theorem dX6_paysBlind_56 : decode cX6_paysBlind 56 = .ok (.lstore 4, 2) := by decide +kernel
theorem dX6_paysBlind_58 : decode cX6_paysBlind 58 = .ok (.iinc 6 1, 3) := by decide +kernel
theorem dX6_paysBlind_61 : decode cX6_paysBlind 61 = .ok (.goto (-41), 3) := by decide +kernel
theorem dX6_paysBlind_64 : decode cX6_paysBlind 64 = .ok (.aload_n 0, 1) := by decide +kernel
theorem dX6_paysBlind_65 : decode cX6_paysBlind 65 = .ok (.getfield 30, 3) := by decide +kernel
theorem dX6_paysBlind_68 : decode cX6_paysBlind 68 = .ok (.getfield 132, 3) := by decide +kernel
theorem dX6_paysBlind_71 : decode cX6_paysBlind 71 = .ok (.iconst 0, 1) := by decide +kernel
theorem dX6_paysBlind_72 : decode cX6_paysBlind 72 = .ok (.invokestatic 128, 3) := by decide +kernel
theorem dX6_paysBlind_75 : decode cX6_paysBlind 75 = .ok (.aload_n 0, 1) := by decide +kernel
theorem dX6_paysBlind_76 : decode cX6_paysBlind 76 = .ok (.getfield 30, 3) := by decide +kernel
theorem dX6_paysBlind_79 : decode cX6_paysBlind 79 = .ok (.getfield 104, 3) := by decide +kernel
theorem dX6_paysBlind_82 : decode cX6_paysBlind 82 = .ok (.imul, 1) := by decide +kernel
theorem dX6_paysBlind_83 : decode cX6_paysBlind 83 = .ok (.i2l, 1) := by decide +kernel
theorem dX6_paysBlind_84 : decode cX6_paysBlind 84 = .ok (.lload_n 2, 1) := by decide +kernel
theorem dX6_paysBlind_85 : decode cX6_paysBlind 85 = .ok (.lmul, 1) := by decide +kernel
theorem dX6_paysBlind_86 : decode cX6_paysBlind 86 = .ok (.aload_n 0, 1) := by decide +kernel
theorem dX6_paysBlind_87 : decode cX6_paysBlind 87 = .ok (.getfield 30, 3) := by decide +kernel
theorem dX6_paysBlind_90 : decode cX6_paysBlind 90 = .ok (.getfield 107, 3) := by decide +kernel
theorem dX6_paysBlind_93 : decode cX6_paysBlind 93 = .ok (.bipush 12, 2) := by decide +kernel
theorem dX6_paysBlind_95 : decode cX6_paysBlind 95 = .ok (.imul, 1) := by decide +kernel
theorem dX6_paysBlind_96 : decode cX6_paysBlind 96 = .ok (.i2l, 1) := by decide +kernel
theorem dX6_paysBlind_97 : decode cX6_paysBlind 97 = .ok (.lload 4, 2) := by decide +kernel
theorem dX6_paysBlind_99 : decode cX6_paysBlind 99 = .ok (.lmul, 1) := by decide +kernel
theorem dX6_paysBlind_100 : decode cX6_paysBlind 100 = .ok (.lcmp, 1) := by decide +kernel
theorem dX6_paysBlind_101 : decode cX6_paysBlind 101 = .ok (.ifCond .lt 7, 3) := by decide +kernel
theorem dX6_paysBlind_104 : decode cX6_paysBlind 104 = .ok (.iconst 1, 1) := by decide +kernel
theorem dX6_paysBlind_105 : decode cX6_paysBlind 105 = .ok (.goto 4, 3) := by decide +kernel
theorem dX6_paysBlind_108 : decode cX6_paysBlind 108 = .ok (.iconst 0, 1) := by decide +kernel
theorem dX6_paysBlind_109 : decode cX6_paysBlind 109 = .ok (.ireturn, 1) := by decide +kernel
set_option maxRecDepth 20000 in
theorem ggX6_order_X6_isWithin : GoodIn wsX6_order wsX6_isWithin := goodIn_r _ [5] (by decide +kernel) (by decide +kernel)
set_option maxRecDepth 20000 in
theorem gX6_order_X6_isWithin : GoodIn wsX6_order (va_wsS RX6 63 yX6_isWithin wsX6_isWithin) := goodIn_app (goodIn_of _ (by decide +kernel)) ggX6_order_X6_isWithin
theorem dX6_order_0 : decode cX6_order 0 = .ok (.iload_n 1, 1) := by decide +kernel
theorem dX6_order_1 : decode cX6_order 1 = .ok (.iconst 0, 1) := by decide +kernel
theorem dX6_order_2 : decode cX6_order 2 = .ok (.iconst 2, 1) := by decide +kernel
theorem dX6_order_3 : decode cX6_order 3 = .ok (.invokestatic 63, 3) := by decide +kernel
theorem dX6_order_6 : decode cX6_order 6 = .ok (.ifCond .ne 6, 3) := by decide +kernel
theorem dX6_order_9 : decode cX6_order 9 = .ok (.bipush (-2), 2) := by decide +kernel
theorem dX6_order_11 : decode cX6_order 11 = .ok (.ireturn, 1) := by decide +kernel
theorem dX6_order_12 : decode cX6_order 12 = .ok (.aload_n 0, 1) := by decide +kernel
theorem dX6_order_13 : decode cX6_order 13 = .ok (.getfield 236, 3) := by decide +kernel
theorem dX6_order_16 : decode cX6_order 16 = .ok (.istore_n 2, 1) := by decide +kernel
theorem dX6_order_17 : decode cX6_order 17 = .ok (.aload_n 0, 1) := by decide +kernel
theorem dX6_order_18 : decode cX6_order 18 = .ok (.iload_n 1, 1) := by decide +kernel
theorem dX6_order_19 : decode cX6_order 19 = .ok (.putfield 236, 3) := by decide +kernel
theorem dX6_order_22 : decode cX6_order 22 = .ok (.iload_n 2, 1) := by decide +kernel
theorem dX6_order_23 : decode cX6_order 23 = .ok (.ireturn, 1) := by decide +kernel
set_option maxRecDepth 20000 in
theorem ggX6_minute_X6_isWithin : GoodIn wsX6_minute wsX6_isWithin := goodIn_r _ [7] (by decide +kernel) (by decide +kernel)
set_option maxRecDepth 20000 in
theorem gX6_minute_X6_isWithin : GoodIn wsX6_minute (va_wsS RX6 63 yX6_isWithin wsX6_isWithin) := goodIn_app (goodIn_of _ (by decide +kernel)) ggX6_minute_X6_isWithin
set_option maxRecDepth 20000 in
theorem ggX6_minute_X2_sortDrawn : GoodIn wsX6_minute wsX2_sortDrawn := goodIn_r _ [12, 13, 14, 15, 6, 16, 67, 68, 69, 70, 71, 72, 73, 74, 75, 76] (by decide +kernel) (by decide +kernel)
set_option maxRecDepth 20000 in
theorem gX6_minute_X2_sortDrawn : GoodIn wsX6_minute (wsV RX6 239 RX2 yX2_sortDrawn wsX2_sortDrawn) := goodIn_app (goodIn_of _ (by decide +kernel)) ggX6_minute_X2_sortDrawn
set_option maxRecDepth 20000 in
theorem ggX6_minute_X3_isFull : GoodIn wsX6_minute wsX3_isFull := goodIn_r _ [21, 22, 77, 78, 79, 80, 81, 82, 83, 84, 85] (by decide +kernel) (by decide +kernel)
set_option maxRecDepth 20000 in
theorem gX6_minute_X3_isFull : GoodIn wsX6_minute (wsV RX6 242 RX3 yX3_isFull wsX3_isFull) := goodIn_app (goodIn_of _ (by decide +kernel)) ggX6_minute_X3_isFull
set_option maxRecDepth 20000 in
theorem ggX6_minute_X3_allWait : GoodIn wsX6_minute wsX3_allWait := goodIn_r _ [26, 27, 28, 29, 15, 6, 16, 30, 31, 77, 78, 79, 80, 81, 82, 83, 84, 85] (by decide +kernel) (by decide +kernel)
set_option maxRecDepth 20000 in
theorem gX6_minute_X3_allWait : GoodIn wsX6_minute (wsV RX6 246 RX3 yX3_allWait wsX3_allWait) := goodIn_app (goodIn_of _ (by decide +kernel)) ggX6_minute_X3_allWait
set_option maxRecDepth 20000 in
theorem ggX6_minute_X3_nextBy : GoodIn wsX6_minute wsX3_nextBy := goodIn_r _ [35, 27, 36, 37, 38, 20, 39, 40, 28, 15, 6, 16, 77, 78, 79, 80, 81, 82, 83, 84, 85, 67, 68, 69, 70, 71, 72, 73, 74, 75, 76] (by decide +kernel) (by decide +kernel)
set_option maxRecDepth 20000 in
theorem gX6_minute_X3_nextBy : GoodIn wsX6_minute (wsV RX6 252 RX3 yX3_nextBy wsX3_nextBy) := goodIn_app (goodIn_of _ (by decide +kernel)) ggX6_minute_X3_nextBy
set_option maxRecDepth 20000 in
theorem ggX6_minute_X3_serve : GoodIn wsX6_minute wsX3_serve := goodIn_r _ [44, 28, 45, 46, 47, 15, 6, 16, 48, 49, 50, 20, 51, 27, 30, 31, 77, 78, 79, 80, 81, 82, 83, 84, 85] (by decide +kernel) (by decide +kernel)
set_option maxRecDepth 20000 in
theorem gX6_minute_X3_serve : GoodIn wsX6_minute (wsV RX6 256 RX3 yX3_serve wsX3_serve) := goodIn_app (goodIn_of _ (by decide +kernel)) ggX6_minute_X3_serve
set_option maxRecDepth 20000 in
theorem ggX6_minute_X6_at : GoodIn wsX6_minute wsX6_at := goodIn_r _ [16] (by decide +kernel) (by decide +kernel)
set_option maxRecDepth 20000 in
theorem gX6_minute_X6_at : GoodIn wsX6_minute (va_wsS RX6 128 yX6_at wsX6_at) := goodIn_app (goodIn_of _ (by decide +kernel)) ggX6_minute_X6_at
set_option maxRecDepth 20000 in
theorem ggX6_minute_X3_comes : GoodIn wsX6_minute wsX3_comes := goodIn_r _ [56, 27, 45, 22, 40, 29, 57, 47, 46, 28, 30, 6, 31, 77, 78, 79, 80, 81, 82, 83, 84, 85] (by decide +kernel) (by decide +kernel)
set_option maxRecDepth 20000 in
theorem gX6_minute_X3_comes : GoodIn wsX6_minute (wsV RX6 259 RX3 yX3_comes wsX3_comes) := goodIn_app (goodIn_of _ (by decide +kernel)) ggX6_minute_X3_comes
theorem dX6_minute_0 : decode cX6_minute 0 = .ok (.iload_n 1, 1) := by decide +kernel
theorem dX6_minute_1 : decode cX6_minute 1 = .ok (.iconst 0, 1) := by decide +kernel
theorem dX6_minute_2 : decode cX6_minute 2 = .ok (.bipush 11, 2) := by decide +kernel
theorem dX6_minute_4 : decode cX6_minute 4 = .ok (.invokestatic 63, 3) := by decide +kernel
theorem dX6_minute_7 : decode cX6_minute 7 = .ok (.ifCond .eq 13, 3) := by decide +kernel
theorem dX6_minute_10 : decode cX6_minute 10 = .ok (.iload_n 2, 1) := by decide +kernel
theorem dX6_minute_11 : decode cX6_minute 11 = .ok (.iconst 0, 1) := by decide +kernel
theorem dX6_minute_12 : decode cX6_minute 12 = .ok (.bipush 11, 2) := by decide +kernel
theorem dX6_minute_14 : decode cX6_minute 14 = .ok (.invokestatic 63, 3) := by decide +kernel
theorem dX6_minute_17 : decode cX6_minute 17 = .ok (.ifCond .ne 6, 3) := by decide +kernel
theorem dX6_minute_20 : decode cX6_minute 20 = .ok (.bipush (-2), 2) := by decide +kernel
theorem dX6_minute_22 : decode cX6_minute 22 = .ok (.ireturn, 1) := by decide +kernel
theorem dX6_minute_23 : decode cX6_minute 23 = .ok (.aload_n 0, 1) := by decide +kernel
theorem dX6_minute_24 : decode cX6_minute 24 = .ok (.getfield 30, 3) := by decide +kernel
theorem dX6_minute_27 : decode cX6_minute 27 = .ok (.getfield 100, 3) := by decide +kernel
theorem dX6_minute_30 : decode cX6_minute 30 = .ok (.ifCond .ne 6, 3) := by decide +kernel
theorem dX6_minute_33 : decode cX6_minute 33 = .ok (.bipush (-3), 2) := by decide +kernel
theorem dX6_minute_35 : decode cX6_minute 35 = .ok (.ireturn, 1) := by decide +kernel
theorem dX6_minute_36 : decode cX6_minute 36 = .ok (.aload_n 0, 1) := by decide +kernel
theorem dX6_minute_37 : decode cX6_minute 37 = .ok (.getfield 30, 3) := by decide +kernel
theorem dX6_minute_40 : decode cX6_minute 40 = .ok (.iload_n 2, 1) := by decide +kernel
theorem dX6_minute_41 : decode cX6_minute 41 = .ok (.invokevirtual 239, 3) := by decide +kernel
theorem dX6_minute_44 : decode cX6_minute 44 = .ok (.istore_n 3, 1) := by decide +kernel
theorem dX6_minute_45 : decode cX6_minute 45 = .ok (.iload_n 3, 1) := by decide +kernel
theorem dX6_minute_46 : decode cX6_minute 46 = .ok (.bipush (-9), 2) := by decide +kernel
theorem dX6_minute_48 : decode cX6_minute 48 = .ok (.if_icmp .eq 16, 3) := by decide +kernel
theorem dX6_minute_51 : decode cX6_minute 51 = .ok (.aload_n 0, 1) := by decide +kernel
theorem dX6_minute_52 : decode cX6_minute 52 = .ok (.getfield 51, 3) := by decide +kernel
theorem dX6_minute_55 : decode cX6_minute 55 = .ok (.invokevirtual 242, 3) := by decide +kernel
theorem dX6_minute_58 : decode cX6_minute 58 = .ok (.ifCond .eq 6, 3) := by decide +kernel
theorem dX6_minute_61 : decode cX6_minute 61 = .ok (.bipush (-4), 2) := by decide +kernel
theorem dX6_minute_63 : decode cX6_minute 63 = .ok (.ireturn, 1) := by decide +kernel
theorem dX6_minute_64 : decode cX6_minute 64 = .ok (.aload_n 0, 1) := by decide +kernel
theorem dX6_minute_65 : decode cX6_minute 65 = .ok (.getfield 51, 3) := by decide +kernel
theorem dX6_minute_68 : decode cX6_minute 68 = .ok (.invokevirtual 246, 3) := by decide +kernel
theorem dX6_minute_71 : decode cX6_minute 71 = .ok (.iconst 0, 1) := by decide +kernel
theorem dX6_minute_72 : decode cX6_minute 72 = .ok (.istore 4, 2) := by decide +kernel
theorem dX6_minute_74 : decode cX6_minute 74 = .ok (.aload_n 0, 1) := by decide +kernel
theorem dX6_minute_75 : decode cX6_minute 75 = .ok (.getfield 51, 3) := by decide +kernel
theorem dX6_minute_78 : decode cX6_minute 78 = .ok (.getfield 249, 3) := by decide +kernel
theorem dX6_minute_81 : decode cX6_minute 81 = .ok (.ifCond .le 43, 3) := by decide +kernel
theorem dX6_minute_84 : decode cX6_minute 84 = .ok (.iload_n 1, 1) := by decide +kernel
theorem dX6_minute_85 : decode cX6_minute 85 = .ok (.aload_n 0, 1) := by decide +kernel
theorem dX6_minute_86 : decode cX6_minute 86 = .ok (.getfield 30, 3) := by decide +kernel
theorem dX6_minute_89 : decode cX6_minute 89 = .ok (.getfield 104, 3) := by decide +kernel
theorem dX6_minute_92 : decode cX6_minute 92 = .ok (.if_icmp .ge 32, 3) := by decide +kernel
theorem dX6_minute_95 : decode cX6_minute 95 = .ok (.bipush 100, 2) := by decide +kernel
theorem dX6_minute_97 : decode cX6_minute 97 = .ok (.aload_n 0, 1) := by decide +kernel
theorem dX6_minute_98 : decode cX6_minute 98 = .ok (.getfield 51, 3) := by decide +kernel
theorem dX6_minute_101 : decode cX6_minute 101 = .ok (.aload_n 0, 1) := by decide +kernel
theorem dX6_minute_102 : decode cX6_minute 102 = .ok (.getfield 51, 3) := by decide +kernel
theorem dX6_minute_105 : decode cX6_minute 105 = .ok (.aload_n 0, 1) := by decide +kernel
theorem dX6_minute_106 : decode cX6_minute 106 = .ok (.getfield 236, 3) := by decide +kernel
theorem dX6_minute_109 : decode cX6_minute 109 = .ok (.aload_n 0, 1) := by decide +kernel
theorem dX6_minute_110 : decode cX6_minute 110 = .ok (.getfield 30, 3) := by decide +kernel
theorem dX6_minute_113 : decode cX6_minute 113 = .ok (.invokevirtual 252, 3) := by decide +kernel
theorem dX6_minute_116 : decode cX6_minute 116 = .ok (.invokevirtual 256, 3) := by decide +kernel
theorem dX6_minute_119 : decode cX6_minute 119 = .ok (.iconst 1, 1) := by decide +kernel
theorem dX6_minute_120 : decode cX6_minute 120 = .ok (.iadd, 1) := by decide +kernel
theorem dX6_minute_121 : decode cX6_minute 121 = .ok (.imul, 1) := by decide +kernel
theorem dX6_minute_122 : decode cX6_minute 122 = .ok (.istore 4, 2) := by decide +kernel
theorem dX6_minute_124 : decode cX6_minute 124 = .ok (.iload_n 3, 1) := by decide +kernel
theorem dX6_minute_125 : decode cX6_minute 125 = .ok (.bipush (-9), 2) := by decide +kernel
theorem dX6_minute_127 : decode cX6_minute 127 = .ok (.if_icmp .eq 35, 3) := by decide +kernel
theorem dX6_minute_130 : decode cX6_minute 130 = .ok (.iload 4, 2) := by decide +kernel
theorem dX6_minute_132 : decode cX6_minute 132 = .ok (.aload_n 0, 1) := by decide +kernel
theorem dX6_minute_133 : decode cX6_minute 133 = .ok (.getfield 51, 3) := by decide +kernel
theorem dX6_minute_136 : decode cX6_minute 136 = .ok (.iload_n 3, 1) := by decide +kernel
theorem dX6_minute_137 : decode cX6_minute 137 = .ok (.aload_n 0, 1) := by decide +kernel
theorem dX6_minute_138 : decode cX6_minute 138 = .ok (.getfield 30, 3) := by decide +kernel
theorem dX6_minute_141 : decode cX6_minute 141 = .ok (.getfield 135, 3) := by decide +kernel
theorem dX6_minute_144 : decode cX6_minute 144 = .ok (.iload_n 3, 1) := by decide +kernel
theorem dX6_minute_145 : decode cX6_minute 145 = .ok (.invokestatic 128, 3) := by decide +kernel
theorem dX6_minute_148 : decode cX6_minute 148 = .ok (.invokevirtual 259, 3) := by decide +kernel
theorem dX6_minute_151 : decode cX6_minute 151 = .ok (.ifCond .eq 7, 3) := by decide +kernel
theorem dX6_minute_154 : decode cX6_minute 154 = .ok (.iconst 2, 1) := by decide +kernel
theorem dX6_minute_155 : decode cX6_minute 155 = .ok (.goto 4, 3) := by decide +kernel
theorem dX6_minute_158 : decode cX6_minute 158 = .ok (.iconst 1, 1) := by decide +kernel
theorem dX6_minute_159 : decode cX6_minute 159 = .ok (.iadd, 1) := by decide +kernel
theorem dX6_minute_160 : decode cX6_minute 160 = .ok (.istore 4, 2) := by decide +kernel
theorem dX6_minute_162 : decode cX6_minute 162 = .ok (.aload_n 0, 1) := by decide +kernel
theorem dX6_minute_163 : decode cX6_minute 163 = .ok (.getfield 51, 3) := by decide +kernel
theorem dX6_minute_166 : decode cX6_minute 166 = .ok (.dup, 1) := by decide +kernel
theorem dX6_minute_167 : decode cX6_minute 167 = .ok (.getfield 262, 3) := by decide +kernel
theorem dX6_minute_170 : decode cX6_minute 170 = .ok (.iconst 1, 1) := by decide +kernel
theorem dX6_minute_171 : decode cX6_minute 171 = .ok (.iadd, 1) := by decide +kernel
theorem dX6_minute_172 : decode cX6_minute 172 = .ok (.putfield 262, 3) := by decide +kernel
theorem dX6_minute_175 : decode cX6_minute 175 = .ok (.iload 4, 2) := by decide +kernel
theorem dX6_minute_177 : decode cX6_minute 177 = .ok (.ireturn, 1) := by decide +kernel
set_option maxRecDepth 20000 in
theorem ggX6_ofComer_X3_has : GoodIn wsX6_ofComer wsX3_has := goodIn_r _ [7, 8, 9, 10, 11, 28, 29, 30, 31, 32, 33, 34, 35, 36] (by decide +kernel) (by decide +kernel)
set_option maxRecDepth 20000 in
theorem gX6_ofComer_X3_has : GoodIn wsX6_ofComer (wsV RX6 265 RX3 yX3_has wsX3_has) := goodIn_app (goodIn_of _ (by decide +kernel)) ggX6_ofComer_X3_has
set_option maxRecDepth 20000 in
theorem ggX6_ofComer_X6_at : GoodIn wsX6_ofComer wsX6_at := goodIn_r _ [14] (by decide +kernel) (by decide +kernel)
set_option maxRecDepth 20000 in
theorem gX6_ofComer_X6_at : GoodIn wsX6_ofComer (va_wsS RX6 128 yX6_at wsX6_at) := goodIn_app (goodIn_of _ (by decide +kernel)) ggX6_ofComer_X6_at
set_option maxRecDepth 20000 in
theorem ggX6_ofComer_X6_isKind : GoodIn wsX6_ofComer wsX6_isKind := goodIn_r _ [18, 1, 12, 13, 10, 14, 19, 20, 21, 22, 23, 24, 25, 26, 27, 28, 29, 30, 31, 32, 33, 34, 35, 36] (by decide +kernel) (by decide +kernel)
set_option maxRecDepth 20000 in
theorem gX6_ofComer_X6_isKind : GoodIn wsX6_ofComer (wsV RX6 280 RX6 yX6_isKind wsX6_isKind) := goodIn_app (goodIn_of _ (by decide +kernel)) ggX6_ofComer_X6_isKind
theorem dX6_ofComer_0 : decode cX6_ofComer 0 = .ok (.aload_n 0, 1) := by decide +kernel
theorem dX6_ofComer_1 : decode cX6_ofComer 1 = .ok (.getfield 51, 3) := by decide +kernel
theorem dX6_ofComer_4 : decode cX6_ofComer 4 = .ok (.iload_n 1, 1) := by decide +kernel
theorem dX6_ofComer_5 : decode cX6_ofComer 5 = .ok (.invokevirtual 265, 3) := by decide +kernel
theorem dX6_ofComer_8 : decode cX6_ofComer 8 = .ok (.ifCond .ne 5, 3) := by decide +kernel
theorem dX6_ofComer_11 : decode cX6_ofComer 11 = .ok (.iconst (-1), 1) := by decide +kernel
theorem dX6_ofComer_12 : decode cX6_ofComer 12 = .ok (.ireturn, 1) := by decide +kernel
theorem dX6_ofComer_13 : decode cX6_ofComer 13 = .ok (.iload_n 2, 1) := by decide +kernel
theorem dX6_ofComer_14 : decode cX6_ofComer 14 = .ok (.tableswitch 153 0 5 #[38, 50, 62, 74, 86, 98], 38) := by decide +kernel
theorem dX6_ofComer_52 : decode cX6_ofComer 52 = .ok (.aload_n 0, 1) := by decide +kernel
theorem dX6_ofComer_53 : decode cX6_ofComer 53 = .ok (.getfield 51, 3) := by decide +kernel
theorem dX6_ofComer_56 : decode cX6_ofComer 56 = .ok (.getfield 266, 3) := by decide +kernel
theorem dX6_ofComer_59 : decode cX6_ofComer 59 = .ok (.iload_n 1, 1) := by decide +kernel
theorem dX6_ofComer_60 : decode cX6_ofComer 60 = .ok (.invokestatic 128, 3) := by decide +kernel
theorem dX6_ofComer_63 : decode cX6_ofComer 63 = .ok (.ireturn, 1) := by decide +kernel
theorem dX6_ofComer_64 : decode cX6_ofComer 64 = .ok (.aload_n 0, 1) := by decide +kernel
theorem dX6_ofComer_65 : decode cX6_ofComer 65 = .ok (.getfield 51, 3) := by decide +kernel
theorem dX6_ofComer_68 : decode cX6_ofComer 68 = .ok (.getfield 269, 3) := by decide +kernel
theorem dX6_ofComer_71 : decode cX6_ofComer 71 = .ok (.iload_n 1, 1) := by decide +kernel
theorem dX6_ofComer_72 : decode cX6_ofComer 72 = .ok (.invokestatic 128, 3) := by decide +kernel
theorem dX6_ofComer_75 : decode cX6_ofComer 75 = .ok (.ireturn, 1) := by decide +kernel
theorem dX6_ofComer_76 : decode cX6_ofComer 76 = .ok (.aload_n 0, 1) := by decide +kernel
theorem dX6_ofComer_77 : decode cX6_ofComer 77 = .ok (.getfield 51, 3) := by decide +kernel
theorem dX6_ofComer_80 : decode cX6_ofComer 80 = .ok (.getfield 271, 3) := by decide +kernel
theorem dX6_ofComer_83 : decode cX6_ofComer 83 = .ok (.iload_n 1, 1) := by decide +kernel
theorem dX6_ofComer_84 : decode cX6_ofComer 84 = .ok (.invokestatic 128, 3) := by decide +kernel
theorem dX6_ofComer_87 : decode cX6_ofComer 87 = .ok (.ireturn, 1) := by decide +kernel
theorem dX6_ofComer_88 : decode cX6_ofComer 88 = .ok (.aload_n 0, 1) := by decide +kernel
theorem dX6_ofComer_89 : decode cX6_ofComer 89 = .ok (.getfield 51, 3) := by decide +kernel
theorem dX6_ofComer_92 : decode cX6_ofComer 92 = .ok (.getfield 274, 3) := by decide +kernel
theorem dX6_ofComer_95 : decode cX6_ofComer 95 = .ok (.iload_n 1, 1) := by decide +kernel
theorem dX6_ofComer_96 : decode cX6_ofComer 96 = .ok (.invokestatic 128, 3) := by decide +kernel
theorem dX6_ofComer_99 : decode cX6_ofComer 99 = .ok (.ireturn, 1) := by decide +kernel
theorem dX6_ofComer_100 : decode cX6_ofComer 100 = .ok (.aload_n 0, 1) := by decide +kernel
theorem dX6_ofComer_101 : decode cX6_ofComer 101 = .ok (.getfield 51, 3) := by decide +kernel
theorem dX6_ofComer_104 : decode cX6_ofComer 104 = .ok (.getfield 277, 3) := by decide +kernel
theorem dX6_ofComer_107 : decode cX6_ofComer 107 = .ok (.iload_n 1, 1) := by decide +kernel
theorem dX6_ofComer_108 : decode cX6_ofComer 108 = .ok (.invokestatic 128, 3) := by decide +kernel
theorem dX6_ofComer_111 : decode cX6_ofComer 111 = .ok (.ireturn, 1) := by decide +kernel
theorem dX6_ofComer_112 : decode cX6_ofComer 112 = .ok (.aload_n 0, 1) := by decide +kernel
theorem dX6_ofComer_113 : decode cX6_ofComer 113 = .ok (.iload_n 1, 1) := by decide +kernel
theorem dX6_ofComer_114 : decode cX6_ofComer 114 = .ok (.iconst 2, 1) := by decide +kernel
theorem dX6_ofComer_115 : decode cX6_ofComer 115 = .ok (.invokevirtual 280, 3) := by decide +kernel
theorem dX6_ofComer_118 : decode cX6_ofComer 118 = .ok (.ifCond .eq 47, 3) := by decide +kernel
theorem dX6_ofComer_121 : decode cX6_ofComer 121 = .ok (.aload_n 0, 1) := by decide +kernel
theorem dX6_ofComer_122 : decode cX6_ofComer 122 = .ok (.getfield 30, 3) := by decide +kernel
theorem dX6_ofComer_125 : decode cX6_ofComer 125 = .ok (.getfield 132, 3) := by decide +kernel
theorem dX6_ofComer_128 : decode cX6_ofComer 128 = .ok (.aload_n 0, 1) := by decide +kernel
theorem dX6_ofComer_129 : decode cX6_ofComer 129 = .ok (.getfield 51, 3) := by decide +kernel
theorem dX6_ofComer_132 : decode cX6_ofComer 132 = .ok (.getfield 269, 3) := by decide +kernel
theorem dX6_ofComer_135 : decode cX6_ofComer 135 = .ok (.iload_n 1, 1) := by decide +kernel
theorem dX6_ofComer_136 : decode cX6_ofComer 136 = .ok (.invokestatic 128, 3) := by decide +kernel
theorem dX6_ofComer_139 : decode cX6_ofComer 139 = .ok (.invokestatic 128, 3) := by decide +kernel
theorem dX6_ofComer_142 : decode cX6_ofComer 142 = .ok (.aload_n 0, 1) := by decide +kernel
theorem dX6_ofComer_143 : decode cX6_ofComer 143 = .ok (.getfield 30, 3) := by decide +kernel
theorem dX6_ofComer_146 : decode cX6_ofComer 146 = .ok (.getfield 107, 3) := by decide +kernel
theorem dX6_ofComer_149 : decode cX6_ofComer 149 = .ok (.aload_n 0, 1) := by decide +kernel
theorem dX6_ofComer_150 : decode cX6_ofComer 150 = .ok (.getfield 51, 3) := by decide +kernel
theorem dX6_ofComer_153 : decode cX6_ofComer 153 = .ok (.getfield 271, 3) := by decide +kernel
theorem dX6_ofComer_156 : decode cX6_ofComer 156 = .ok (.iload_n 1, 1) := by decide +kernel
theorem dX6_ofComer_157 : decode cX6_ofComer 157 = .ok (.invokestatic 128, 3) := by decide +kernel
theorem dX6_ofComer_160 : decode cX6_ofComer 160 = .ok (.imul, 1) := by decide +kernel
theorem dX6_ofComer_161 : decode cX6_ofComer 161 = .ok (.isub, 1) := by decide +kernel
theorem dX6_ofComer_162 : decode cX6_ofComer 162 = .ok (.goto 4, 3) := by decide +kernel
theorem dX6_ofComer_165 : decode cX6_ofComer 165 = .ok (.iconst 0, 1) := by decide +kernel
theorem dX6_ofComer_166 : decode cX6_ofComer 166 = .ok (.ireturn, 1) := by decide +kernel
theorem dX6_ofComer_167 : decode cX6_ofComer 167 = .ok (.bipush (-2), 2) := by decide +kernel
theorem dX6_ofComer_169 : decode cX6_ofComer 169 = .ok (.ireturn, 1) := by decide +kernel
set_option maxRecDepth 20000 in
theorem ggX6_leave_X3_has : GoodIn wsX6_leave wsX3_has := goodIn_r _ [6, 7, 8, 9, 10, 35, 36, 37, 38, 39, 40, 41, 42, 43] (by decide +kernel) (by decide +kernel)
set_option maxRecDepth 20000 in
theorem gX6_leave_X3_has : GoodIn wsX6_leave (wsV RX6 265 RX3 yX3_has wsX3_has) := goodIn_app (goodIn_of _ (by decide +kernel)) ggX6_leave_X3_has
set_option maxRecDepth 20000 in
theorem ggX6_leave_X3_placeOf : GoodIn wsX6_leave wsX3_placeOf := goodIn_r _ [14, 15, 16, 17, 9, 18, 35, 36, 37, 38, 39, 40, 41, 42, 43] (by decide +kernel) (by decide +kernel)
set_option maxRecDepth 20000 in
theorem gX6_leave_X3_placeOf : GoodIn wsX6_leave (wsV RX6 283 RX3 yX3_placeOf wsX3_placeOf) := goodIn_app (goodIn_of _ (by decide +kernel)) ggX6_leave_X3_placeOf
set_option maxRecDepth 20000 in
theorem ggX6_leave_X3_takeOut : GoodIn wsX6_leave wsX3_takeOut := goodIn_r _ [22, 15, 16, 17, 9, 18, 23, 24, 35, 36, 37, 38, 39, 40, 41, 42, 43] (by decide +kernel) (by decide +kernel)
set_option maxRecDepth 20000 in
theorem gX6_leave_X3_takeOut : GoodIn wsX6_leave (wsV RX6 286 RX3 yX3_takeOut wsX3_takeOut) := goodIn_app (goodIn_of _ (by decide +kernel)) ggX6_leave_X3_takeOut
set_option maxRecDepth 20000 in
theorem ggX6_leave_X6_set : GoodIn wsX6_leave wsX6_set := goodIn_r _ [24] (by decide +kernel) (by decide +kernel)
set_option maxRecDepth 20000 in
theorem gX6_leave_X6_set : GoodIn wsX6_leave (va_wsS RX6 141 yX6_set wsX6_set) := goodIn_app (goodIn_of _ (by decide +kernel)) ggX6_leave_X6_set
theorem dX6_leave_0 : decode cX6_leave 0 = .ok (.aload_n 0, 1) := by decide +kernel
theorem dX6_leave_1 : decode cX6_leave 1 = .ok (.getfield 51, 3) := by decide +kernel
theorem dX6_leave_4 : decode cX6_leave 4 = .ok (.iload_n 1, 1) := by decide +kernel
theorem dX6_leave_5 : decode cX6_leave 5 = .ok (.invokevirtual 265, 3) := by decide +kernel
theorem dX6_leave_8 : decode cX6_leave 8 = .ok (.ifCond .ne 5, 3) := by decide +kernel
theorem dX6_leave_11 : decode cX6_leave 11 = .ok (.iconst (-1), 1) := by decide +kernel
theorem dX6_leave_12 : decode cX6_leave 12 = .ok (.ireturn, 1) := by decide +kernel
theorem dX6_leave_13 : decode cX6_leave 13 = .ok (.aload_n 0, 1) := by decide +kernel
theorem dX6_leave_14 : decode cX6_leave 14 = .ok (.getfield 51, 3) := by decide +kernel
theorem dX6_leave_17 : decode cX6_leave 17 = .ok (.iload_n 1, 1) := by decide +kernel
theorem dX6_leave_18 : decode cX6_leave 18 = .ok (.invokevirtual 283, 3) := by decide +kernel
theorem dX6_leave_21 : decode cX6_leave 21 = .ok (.istore_n 2, 1) := by decide +kernel
theorem dX6_leave_22 : decode cX6_leave 22 = .ok (.iload_n 2, 1) := by decide +kernel
theorem dX6_leave_23 : decode cX6_leave 23 = .ok (.bipush (-9), 2) := by decide +kernel
theorem dX6_leave_25 : decode cX6_leave 25 = .ok (.if_icmp .ne 6, 3) := by decide +kernel
theorem dX6_leave_28 : decode cX6_leave 28 = .ok (.bipush (-3), 2) := by decide +kernel
theorem dX6_leave_30 : decode cX6_leave 30 = .ok (.ireturn, 1) := by decide +kernel
theorem dX6_leave_31 : decode cX6_leave 31 = .ok (.aload_n 0, 1) := by decide +kernel
theorem dX6_leave_32 : decode cX6_leave 32 = .ok (.getfield 51, 3) := by decide +kernel
theorem dX6_leave_35 : decode cX6_leave 35 = .ok (.iload_n 2, 1) := by decide +kernel
theorem dX6_leave_36 : decode cX6_leave 36 = .ok (.invokevirtual 286, 3) := by decide +kernel
theorem dX6_leave_39 : decode cX6_leave 39 = .ok (.aload_n 0, 1) := by decide +kernel
theorem dX6_leave_40 : decode cX6_leave 40 = .ok (.getfield 51, 3) := by decide +kernel
theorem dX6_leave_43 : decode cX6_leave 43 = .ok (.getfield 266, 3) := by decide +kernel
theorem dX6_leave_46 : decode cX6_leave 46 = .ok (.iload_n 1, 1) := by decide +kernel
theorem dX6_leave_47 : decode cX6_leave 47 = .ok (.iconst 0, 1) := by decide +kernel
theorem dX6_leave_48 : decode cX6_leave 48 = .ok (.invokestatic 141, 3) := by decide +kernel
theorem dX6_leave_51 : decode cX6_leave 51 = .ok (.aload_n 0, 1) := by decide +kernel
theorem dX6_leave_52 : decode cX6_leave 52 = .ok (.getfield 51, 3) := by decide +kernel
theorem dX6_leave_55 : decode cX6_leave 55 = .ok (.getfield 249, 3) := by decide +kernel
theorem dX6_leave_58 : decode cX6_leave 58 = .ok (.ireturn, 1) := by decide +kernel
set_option maxRecDepth 20000 in
theorem ggX6_line_X6_isWithin : GoodIn wsX6_line wsX6_isWithin := goodIn_r _ [5] (by decide +kernel) (by decide +kernel)
set_option maxRecDepth 20000 in
theorem gX6_line_X6_isWithin : GoodIn wsX6_line (va_wsS RX6 63 yX6_isWithin wsX6_isWithin) := goodIn_app (goodIn_of _ (by decide +kernel)) ggX6_line_X6_isWithin
set_option maxRecDepth 20000 in
theorem ggX6_line_X6_at : GoodIn wsX6_line wsX6_at := goodIn_r _ [8] (by decide +kernel) (by decide +kernel)
set_option maxRecDepth 20000 in
theorem gX6_line_X6_at : GoodIn wsX6_line (va_wsS RX6 128 yX6_at wsX6_at) := goodIn_app (goodIn_of _ (by decide +kernel)) ggX6_line_X6_at
theorem dX6_line_0 : decode cX6_line 0 = .ok (.iload_n 1, 1) := by decide +kernel
theorem dX6_line_1 : decode cX6_line 1 = .ok (.iconst (-1), 1) := by decide +kernel
theorem dX6_line_2 : decode cX6_line 2 = .ok (.iconst 4, 1) := by decide +kernel
theorem dX6_line_3 : decode cX6_line 3 = .ok (.invokestatic 63, 3) := by decide +kernel
theorem dX6_line_6 : decode cX6_line 6 = .ok (.ifCond .ne 5, 3) := by decide +kernel
theorem dX6_line_9 : decode cX6_line 9 = .ok (.iconst (-1), 1) := by decide +kernel
theorem dX6_line_10 : decode cX6_line 10 = .ok (.ireturn, 1) := by decide +kernel
theorem dX6_line_11 : decode cX6_line 11 = .ok (.iload_n 1, 1) := by decide +kernel
theorem dX6_line_12 : decode cX6_line 12 = .ok (.iconst (-1), 1) := by decide +kernel
theorem dX6_line_13 : decode cX6_line 13 = .ok (.if_icmp .ne 11, 3) := by decide +kernel
theorem dX6_line_16 : decode cX6_line 16 = .ok (.aload_n 0, 1) := by decide +kernel
theorem dX6_line_17 : decode cX6_line 17 = .ok (.getfield 51, 3) := by decide +kernel
theorem dX6_line_20 : decode cX6_line 20 = .ok (.getfield 249, 3) := by decide +kernel
theorem dX6_line_23 : decode cX6_line 23 = .ok (.ireturn, 1) := by decide +kernel
theorem dX6_line_24 : decode cX6_line 24 = .ok (.iload_n 1, 1) := by decide +kernel
theorem dX6_line_25 : decode cX6_line 25 = .ok (.aload_n 0, 1) := by decide +kernel
theorem dX6_line_26 : decode cX6_line 26 = .ok (.getfield 51, 3) := by decide +kernel
theorem dX6_line_29 : decode cX6_line 29 = .ok (.getfield 249, 3) := by decide +kernel
theorem dX6_line_32 : decode cX6_line 32 = .ok (.if_icmp .ge 17, 3) := by decide +kernel
theorem dX6_line_35 : decode cX6_line 35 = .ok (.aload_n 0, 1) := by decide +kernel
theorem dX6_line_36 : decode cX6_line 36 = .ok (.getfield 51, 3) := by decide +kernel
theorem dX6_line_39 : decode cX6_line 39 = .ok (.getfield 290, 3) := by decide +kernel
theorem dX6_line_42 : decode cX6_line 42 = .ok (.iload_n 1, 1) := by decide +kernel
theorem dX6_line_43 : decode cX6_line 43 = .ok (.invokestatic 128, 3) := by decide +kernel
theorem dX6_line_46 : decode cX6_line 46 = .ok (.goto 5, 3) := by decide +kernel
theorem dX6_line_49 : decode cX6_line 49 = .ok (.bipush (-9), 2) := by decide +kernel
theorem dX6_line_51 : decode cX6_line 51 = .ok (.ireturn, 1) := by decide +kernel
set_option maxRecDepth 20000 in
theorem ggX6_envy_X3_envious : GoodIn wsX6_envy wsX3_envious := goodIn_r _ [6, 7, 8, 9, 10, 5, 11, 12, 13, 14, 15, 16, 26, 27, 28, 29, 30, 31, 32, 33, 34] (by decide +kernel) (by decide +kernel)
set_option maxRecDepth 20000 in
theorem gX6_envy_X3_envious : GoodIn wsX6_envy (wsV RX6 291 RX3 yX3_envious wsX3_envious) := goodIn_app (goodIn_of _ (by decide +kernel)) ggX6_envy_X3_envious
theorem dX6_envy_0 : decode cX6_envy 0 = .ok (.aload_n 0, 1) := by decide +kernel
theorem dX6_envy_1 : decode cX6_envy 1 = .ok (.getfield 51, 3) := by decide +kernel
theorem dX6_envy_4 : decode cX6_envy 4 = .ok (.invokevirtual 291, 3) := by decide +kernel
theorem dX6_envy_7 : decode cX6_envy 7 = .ok (.ireturn, 1) := by decide +kernel
set_option maxRecDepth 20000 in
theorem ggX6_sheet_X4_has : GoodIn wsX6_sheet wsX4_has := goodIn_r _ [7, 8, 9, 10] (by decide +kernel) (by decide +kernel)
set_option maxRecDepth 20000 in
theorem gX6_sheet_X4_has : GoodIn wsX6_sheet (wsV RX6 59 RX4 yX4_has wsX4_has) := goodIn_app (goodIn_of _ (by decide +kernel)) ggX6_sheet_X4_has
set_option maxRecDepth 20000 in
theorem ggX6_sheet_X6_isWithin : GoodIn wsX6_sheet wsX6_isWithin := goodIn_r _ [10] (by decide +kernel) (by decide +kernel)
set_option maxRecDepth 20000 in
theorem gX6_sheet_X6_isWithin : GoodIn wsX6_sheet (va_wsS RX6 63 yX6_isWithin wsX6_isWithin) := goodIn_app (goodIn_of _ (by decide +kernel)) ggX6_sheet_X6_isWithin
set_option maxRecDepth 20000 in
theorem ggX6_sheet_X6_faulted : GoodIn wsX6_sheet wsX6_faulted := goodIn_r _ [15, 1, 29, 30, 31, 32, 33, 34, 35, 36, 37] (by decide +kernel) (by decide +kernel)
set_option maxRecDepth 20000 in
theorem gX6_sheet_X6_faulted : GoodIn wsX6_sheet (wsV RX6 71 RX6 yX6_faulted wsX6_faulted) := goodIn_app (goodIn_of _ (by decide +kernel)) ggX6_sheet_X6_faulted
set_option maxRecDepth 20000 in
theorem ggX6_sheet_X4_renew : GoodIn wsX6_sheet wsX4_renew := goodIn_r _ [19, 20, 21, 22, 23, 9, 24, 25, 26, 27, 6, 28, 38, 39, 40] (by decide +kernel) (by decide +kernel)
set_option maxRecDepth 20000 in
theorem gX6_sheet_X4_renew : GoodIn wsX6_sheet (wsV RX6 294 RX4 yX4_renew wsX4_renew) := goodIn_app (goodIn_of _ (by decide +kernel)) ggX6_sheet_X4_renew
theorem dX6_sheet_0 : decode cX6_sheet 0 = .ok (.aload_n 0, 1) := by decide +kernel
theorem dX6_sheet_1 : decode cX6_sheet 1 = .ok (.iconst 0, 1) := by decide +kernel
theorem dX6_sheet_2 : decode cX6_sheet 2 = .ok (.putfield 55, 3) := by decide +kernel
theorem dX6_sheet_5 : decode cX6_sheet 5 = .ok (.aload_n 0, 1) := by decide +kernel
theorem dX6_sheet_6 : decode cX6_sheet 6 = .ok (.getfield 12, 3) := by decide +kernel
theorem dX6_sheet_9 : decode cX6_sheet 9 = .ok (.iload_n 1, 1) := by decide +kernel
theorem dX6_sheet_10 : decode cX6_sheet 10 = .ok (.invokevirtual 59, 3) := by decide +kernel
theorem dX6_sheet_13 : decode cX6_sheet 13 = .ok (.ifCond .ne 5, 3) := by decide +kernel
theorem dX6_sheet_16 : decode cX6_sheet 16 = .ok (.iconst (-1), 1) := by decide +kernel
theorem dX6_sheet_17 : decode cX6_sheet 17 = .ok (.ireturn, 1) := by decide +kernel
theorem dX6_sheet_18 : decode cX6_sheet 18 = .ok (.iload_n 2, 1) := by decide +kernel
theorem dX6_sheet_19 : decode cX6_sheet 19 = .ok (.iconst 0, 1) := by decide +kernel
theorem dX6_sheet_20 : decode cX6_sheet 20 = .ok (.iconst 2, 1) := by decide +kernel
theorem dX6_sheet_21 : decode cX6_sheet 21 = .ok (.invokestatic 63, 3) := by decide +kernel
theorem dX6_sheet_24 : decode cX6_sheet 24 = .ok (.ifCond .eq 9, 3) := by decide +kernel
theorem dX6_sheet_27 : decode cX6_sheet 27 = .ok (.iload_n 3, 1) := by decide +kernel
theorem dX6_sheet_28 : decode cX6_sheet 28 = .ok (.bipush 60, 2) := by decide +kernel
theorem dX6_sheet_30 : decode cX6_sheet 30 = .ok (.if_icmp .le 6, 3) := by decide +kernel
theorem dX6_sheet_33 : decode cX6_sheet 33 = .ok (.bipush (-2), 2) := by decide +kernel
theorem dX6_sheet_35 : decode cX6_sheet 35 = .ok (.ireturn, 1) := by decide +kernel
theorem dX6_sheet_36 : decode cX6_sheet 36 = .ok (.iload_n 3, 1) := by decide +kernel
theorem dX6_sheet_37 : decode cX6_sheet 37 = .ok (.ifCond .ge 9, 3) := by decide +kernel
theorem dX6_sheet_40 : decode cX6_sheet 40 = .ok (.aload_n 0, 1) := by decide +kernel
theorem dX6_sheet_41 : decode cX6_sheet 41 = .ok (.iconst 4, 1) := by decide +kernel
theorem dX6_sheet_42 : decode cX6_sheet 42 = .ok (.invokevirtual 71, 3) := by decide +kernel
theorem dX6_sheet_45 : decode cX6_sheet 45 = .ok (.ireturn, 1) := by decide +kernel
theorem dX6_sheet_46 : decode cX6_sheet 46 = .ok (.aload_n 0, 1) := by decide +kernel
theorem dX6_sheet_47 : decode cX6_sheet 47 = .ok (.getfield 12, 3) := by decide +kernel
theorem dX6_sheet_50 : decode cX6_sheet 50 = .ok (.iload_n 1, 1) := by decide +kernel
theorem dX6_sheet_51 : decode cX6_sheet 51 = .ok (.iload_n 2, 1) := by decide +kernel
theorem dX6_sheet_52 : decode cX6_sheet 52 = .ok (.iload_n 3, 1) := by decide +kernel
theorem dX6_sheet_53 : decode cX6_sheet 53 = .ok (.invokevirtual 294, 3) := by decide +kernel
theorem dX6_sheet_56 : decode cX6_sheet 56 = .ok (.iconst 1, 1) := by decide +kernel
theorem dX6_sheet_57 : decode cX6_sheet 57 = .ok (.ireturn, 1) := by decide +kernel
set_option maxRecDepth 20000 in
theorem ggX6_lose_X4_has : GoodIn wsX6_lose wsX4_has := goodIn_r _ [6, 7, 8, 9] (by decide +kernel) (by decide +kernel)
set_option maxRecDepth 20000 in
theorem gX6_lose_X4_has : GoodIn wsX6_lose (wsV RX6 59 RX4 yX4_has wsX4_has) := goodIn_app (goodIn_of _ (by decide +kernel)) ggX6_lose_X4_has
set_option maxRecDepth 20000 in
theorem ggX6_lose_X4_hasNothing : GoodIn wsX6_lose wsX4_hasNothing := goodIn_r _ [13, 14, 15, 8, 16, 33, 34, 35] (by decide +kernel) (by decide +kernel)
set_option maxRecDepth 20000 in
theorem gX6_lose_X4_hasNothing : GoodIn wsX6_lose (wsV RX6 75 RX4 yX4_hasNothing wsX4_hasNothing) := goodIn_app (goodIn_of _ (by decide +kernel)) ggX6_lose_X4_hasNothing
set_option maxRecDepth 20000 in
theorem ggX6_lose_X4_forget : GoodIn wsX6_lose wsX4_forget := goodIn_r _ [20, 14, 21, 22, 8, 23, 33, 34, 35] (by decide +kernel) (by decide +kernel)
set_option maxRecDepth 20000 in
theorem gX6_lose_X4_forget : GoodIn wsX6_lose (wsV RX6 298 RX4 yX4_forget wsX4_forget) := goodIn_app (goodIn_of _ (by decide +kernel)) ggX6_lose_X4_forget
theorem dX6_lose_0 : decode cX6_lose 0 = .ok (.aload_n 0, 1) := by decide +kernel
theorem dX6_lose_1 : decode cX6_lose 1 = .ok (.getfield 12, 3) := by decide +kernel
theorem dX6_lose_4 : decode cX6_lose 4 = .ok (.iload_n 1, 1) := by decide +kernel
theorem dX6_lose_5 : decode cX6_lose 5 = .ok (.invokevirtual 59, 3) := by decide +kernel
theorem dX6_lose_8 : decode cX6_lose 8 = .ok (.ifCond .ne 5, 3) := by decide +kernel
theorem dX6_lose_11 : decode cX6_lose 11 = .ok (.iconst (-1), 1) := by decide +kernel
theorem dX6_lose_12 : decode cX6_lose 12 = .ok (.ireturn, 1) := by decide +kernel
theorem dX6_lose_13 : decode cX6_lose 13 = .ok (.aload_n 0, 1) := by decide +kernel
theorem dX6_lose_14 : decode cX6_lose 14 = .ok (.getfield 12, 3) := by decide +kernel
theorem dX6_lose_17 : decode cX6_lose 17 = .ok (.iload_n 1, 1) := by decide +kernel
theorem dX6_lose_18 : decode cX6_lose 18 = .ok (.invokevirtual 75, 3) := by decide +kernel
theorem dX6_lose_21 : decode cX6_lose 21 = .ok (.ifCond .eq 5, 3) := by decide +kernel
theorem dX6_lose_24 : decode cX6_lose 24 = .ok (.iconst 0, 1) := by decide +kernel
theorem dX6_lose_25 : decode cX6_lose 25 = .ok (.ireturn, 1) := by decide +kernel
theorem dX6_lose_26 : decode cX6_lose 26 = .ok (.aload_n 0, 1) := by decide +kernel
theorem dX6_lose_27 : decode cX6_lose 27 = .ok (.getfield 12, 3) := by decide +kernel
theorem dX6_lose_30 : decode cX6_lose 30 = .ok (.iload_n 1, 1) := by decide +kernel
theorem dX6_lose_31 : decode cX6_lose 31 = .ok (.invokevirtual 298, 3) := by decide +kernel
theorem dX6_lose_34 : decode cX6_lose 34 = .ok (.iconst 1, 1) := by decide +kernel
theorem dX6_lose_35 : decode cX6_lose 35 = .ok (.ireturn, 1) := by decide +kernel
set_option maxRecDepth 20000 in
theorem ggX6_put_X4_has : GoodIn wsX6_put wsX4_has := goodIn_r _ [7, 8, 9, 10] (by decide +kernel) (by decide +kernel)
set_option maxRecDepth 20000 in
theorem gX6_put_X4_has : GoodIn wsX6_put (wsV RX6 59 RX4 yX4_has wsX4_has) := goodIn_app (goodIn_of _ (by decide +kernel)) ggX6_put_X4_has
set_option maxRecDepth 20000 in
theorem ggX6_put_X4_hasNothing : GoodIn wsX6_put wsX4_hasNothing := goodIn_r _ [14, 15, 16, 9, 17, 48, 49, 50] (by decide +kernel) (by decide +kernel)
set_option maxRecDepth 20000 in
theorem gX6_put_X4_hasNothing : GoodIn wsX6_put (wsV RX6 75 RX4 yX4_hasNothing wsX4_hasNothing) := goodIn_app (goodIn_of _ (by decide +kernel)) ggX6_put_X4_hasNothing
set_option maxRecDepth 20000 in
theorem ggX6_put_X6_faulted : GoodIn wsX6_put wsX6_faulted := goodIn_r _ [21, 1, 39, 40, 41, 42, 43, 44, 45, 46, 47] (by decide +kernel) (by decide +kernel)
set_option maxRecDepth 20000 in
theorem gX6_put_X6_faulted : GoodIn wsX6_put (wsV RX6 71 RX6 yX6_faulted wsX6_faulted) := goodIn_app (goodIn_of _ (by decide +kernel)) ggX6_put_X6_faulted
set_option maxRecDepth 20000 in
theorem ggX6_put_X4_sizeOf : GoodIn wsX6_put wsX4_sizeOf := goodIn_r _ [25, 26, 16, 9, 17, 48, 49, 50] (by decide +kernel) (by decide +kernel)
set_option maxRecDepth 20000 in
theorem gX6_put_X4_sizeOf : GoodIn wsX6_put (wsV RX6 78 RX4 yX4_sizeOf wsX4_sizeOf) := goodIn_app (goodIn_of _ (by decide +kernel)) ggX6_put_X4_sizeOf
set_option maxRecDepth 20000 in
theorem ggX6_put_X6_isWithin : GoodIn wsX6_put wsX6_isWithin := goodIn_r _ [10] (by decide +kernel) (by decide +kernel)
set_option maxRecDepth 20000 in
theorem gX6_put_X6_isWithin : GoodIn wsX6_put (va_wsS RX6 63 yX6_isWithin wsX6_isWithin) := goodIn_app (goodIn_of _ (by decide +kernel)) ggX6_put_X6_isWithin
set_option maxRecDepth 20000 in
theorem ggX6_put_X4_write : GoodIn wsX6_put wsX4_write := goodIn_r _ [31, 15, 32, 16, 9, 17, 33, 34, 35, 6, 36, 37, 38, 48, 49, 50] (by decide +kernel) (by decide +kernel)
set_option maxRecDepth 20000 in
theorem gX6_put_X4_write : GoodIn wsX6_put (wsV RX6 301 RX4 yX4_write wsX4_write) := goodIn_app (goodIn_of _ (by decide +kernel)) ggX6_put_X4_write
theorem dX6_put_0 : decode cX6_put 0 = .ok (.aload_n 0, 1) := by decide +kernel
theorem dX6_put_1 : decode cX6_put 1 = .ok (.iconst 0, 1) := by decide +kernel
theorem dX6_put_2 : decode cX6_put 2 = .ok (.putfield 55, 3) := by decide +kernel
theorem dX6_put_5 : decode cX6_put 5 = .ok (.aload_n 0, 1) := by decide +kernel
theorem dX6_put_6 : decode cX6_put 6 = .ok (.getfield 12, 3) := by decide +kernel
theorem dX6_put_9 : decode cX6_put 9 = .ok (.iload_n 1, 1) := by decide +kernel
theorem dX6_put_10 : decode cX6_put 10 = .ok (.invokevirtual 59, 3) := by decide +kernel
theorem dX6_put_13 : decode cX6_put 13 = .ok (.ifCond .ne 5, 3) := by decide +kernel
theorem dX6_put_16 : decode cX6_put 16 = .ok (.iconst (-1), 1) := by decide +kernel
theorem dX6_put_17 : decode cX6_put 17 = .ok (.ireturn, 1) := by decide +kernel
theorem dX6_put_18 : decode cX6_put 18 = .ok (.aload_n 0, 1) := by decide +kernel
theorem dX6_put_19 : decode cX6_put 19 = .ok (.getfield 12, 3) := by decide +kernel
theorem dX6_put_22 : decode cX6_put 22 = .ok (.iload_n 1, 1) := by decide +kernel
theorem dX6_put_23 : decode cX6_put 23 = .ok (.invokevirtual 75, 3) := by decide +kernel
theorem dX6_put_26 : decode cX6_put 26 = .ok (.ifCond .eq 9, 3) := by decide +kernel
theorem dX6_put_29 : decode cX6_put 29 = .ok (.aload_n 0, 1) := by decide +kernel
theorem dX6_put_30 : decode cX6_put 30 = .ok (.iconst 1, 1) := by decide +kernel
theorem dX6_put_31 : decode cX6_put 31 = .ok (.invokevirtual 71, 3) := by decide +kernel
theorem dX6_put_34 : decode cX6_put 34 = .ok (.ireturn, 1) := by decide +kernel
theorem dX6_put_35 : decode cX6_put 35 = .ok (.iload_n 2, 1) := by decide +kernel
theorem dX6_put_36 : decode cX6_put 36 = .ok (.iconst 0, 1) := by decide +kernel
theorem dX6_put_37 : decode cX6_put 37 = .ok (.aload_n 0, 1) := by decide +kernel
theorem dX6_put_38 : decode cX6_put 38 = .ok (.getfield 12, 3) := by decide +kernel
theorem dX6_put_41 : decode cX6_put 41 = .ok (.iload_n 1, 1) := by decide +kernel
theorem dX6_put_42 : decode cX6_put 42 = .ok (.invokevirtual 78, 3) := by decide +kernel
theorem dX6_put_45 : decode cX6_put 45 = .ok (.iconst 1, 1) := by decide +kernel
theorem dX6_put_46 : decode cX6_put 46 = .ok (.isub, 1) := by decide +kernel
theorem dX6_put_47 : decode cX6_put 47 = .ok (.invokestatic 63, 3) := by decide +kernel
theorem dX6_put_50 : decode cX6_put 50 = .ok (.ifCond .ne 9, 3) := by decide +kernel
theorem dX6_put_53 : decode cX6_put 53 = .ok (.aload_n 0, 1) := by decide +kernel
theorem dX6_put_54 : decode cX6_put 54 = .ok (.iconst 3, 1) := by decide +kernel
theorem dX6_put_55 : decode cX6_put 55 = .ok (.invokevirtual 71, 3) := by decide +kernel
theorem dX6_put_58 : decode cX6_put 58 = .ok (.ireturn, 1) := by decide +kernel
theorem dX6_put_59 : decode cX6_put 59 = .ok (.aload_n 0, 1) := by decide +kernel
theorem dX6_put_60 : decode cX6_put 60 = .ok (.getfield 12, 3) := by decide +kernel
theorem dX6_put_63 : decode cX6_put 63 = .ok (.iload_n 1, 1) := by decide +kernel
theorem dX6_put_64 : decode cX6_put 64 = .ok (.iload_n 2, 1) := by decide +kernel
theorem dX6_put_65 : decode cX6_put 65 = .ok (.iload_n 3, 1) := by decide +kernel
theorem dX6_put_66 : decode cX6_put 66 = .ok (.invokevirtual 301, 3) := by decide +kernel
theorem dX6_put_69 : decode cX6_put 69 = .ok (.iconst 1, 1) := by decide +kernel
theorem dX6_put_70 : decode cX6_put 70 = .ok (.ireturn, 1) := by decide +kernel
set_option maxRecDepth 20000 in
theorem ggX6_cell_X4_has : GoodIn wsX6_cell wsX4_has := goodIn_r _ [8, 9, 10, 11] (by decide +kernel) (by decide +kernel)
set_option maxRecDepth 20000 in
theorem gX6_cell_X4_has : GoodIn wsX6_cell (wsV RX6 59 RX4 yX4_has wsX4_has) := goodIn_app (goodIn_of _ (by decide +kernel)) ggX6_cell_X4_has
set_option maxRecDepth 20000 in
theorem ggX6_cell_X6_isWithin : GoodIn wsX6_cell wsX6_isWithin := goodIn_r _ [11] (by decide +kernel) (by decide +kernel)
set_option maxRecDepth 20000 in
theorem gX6_cell_X6_isWithin : GoodIn wsX6_cell (va_wsS RX6 63 yX6_isWithin wsX6_isWithin) := goodIn_app (goodIn_of _ (by decide +kernel)) ggX6_cell_X6_isWithin
set_option maxRecDepth 20000 in
theorem ggX6_cell_X4_isOfAnotherLane : GoodIn wsX6_cell wsX4_isOfAnotherLane := goodIn_r _ [16, 17, 18, 19, 20, 7, 21, 22, 10, 23, 52, 53, 54] (by decide +kernel) (by decide +kernel)
set_option maxRecDepth 20000 in
theorem gX6_cell_X4_isOfAnotherLane : GoodIn wsX6_cell (wsV RX6 67 RX4 yX4_isOfAnotherLane wsX4_isOfAnotherLane) := goodIn_app (goodIn_of _ (by decide +kernel)) ggX6_cell_X4_isOfAnotherLane
set_option maxRecDepth 20000 in
theorem ggX6_cell_X6_lost : GoodIn wsX6_cell wsX6_lost := goodIn_r _ [27, 1, 3, 43, 44, 45, 46, 47, 48, 49, 50, 51] (by decide +kernel) (by decide +kernel)
set_option maxRecDepth 20000 in
theorem gX6_cell_X6_lost : GoodIn wsX6_cell (wsV RX6 304 RX6 yX6_lost wsX6_lost) := goodIn_app (goodIn_of _ (by decide +kernel)) ggX6_cell_X6_lost
set_option maxRecDepth 20000 in
theorem ggX6_cell_X4_hasNothing : GoodIn wsX6_cell wsX4_hasNothing := goodIn_r _ [21, 17, 22, 10, 23, 52, 53, 54] (by decide +kernel) (by decide +kernel)
set_option maxRecDepth 20000 in
theorem gX6_cell_X4_hasNothing : GoodIn wsX6_cell (wsV RX6 75 RX4 yX4_hasNothing wsX4_hasNothing) := goodIn_app (goodIn_of _ (by decide +kernel)) ggX6_cell_X4_hasNothing
set_option maxRecDepth 20000 in
theorem ggX6_cell_X4_sizeOf : GoodIn wsX6_cell wsX4_sizeOf := goodIn_r _ [32, 33, 22, 10, 23, 52, 53, 54] (by decide +kernel) (by decide +kernel)
set_option maxRecDepth 20000 in
theorem gX6_cell_X4_sizeOf : GoodIn wsX6_cell (wsV RX6 78 RX4 yX4_sizeOf wsX4_sizeOf) := goodIn_app (goodIn_of _ (by decide +kernel)) ggX6_cell_X4_sizeOf
set_option maxRecDepth 20000 in
theorem ggX6_cell_X4_read : GoodIn wsX6_cell wsX4_read := goodIn_r _ [37, 38, 39, 40, 41, 7, 42, 22, 10, 23, 52, 53, 54] (by decide +kernel) (by decide +kernel)
set_option maxRecDepth 20000 in
theorem gX6_cell_X4_read : GoodIn wsX6_cell (wsV RX6 307 RX4 yX4_read wsX4_read) := goodIn_app (goodIn_of _ (by decide +kernel)) ggX6_cell_X4_read
theorem dX6_cell_0 : decode cX6_cell 0 = .ok (.aload_n 0, 1) := by decide +kernel
theorem dX6_cell_1 : decode cX6_cell 1 = .ok (.iconst 0, 1) := by decide +kernel
theorem dX6_cell_2 : decode cX6_cell 2 = .ok (.putfield 55, 3) := by decide +kernel
theorem dX6_cell_5 : decode cX6_cell 5 = .ok (.aload_n 0, 1) := by decide +kernel
theorem dX6_cell_6 : decode cX6_cell 6 = .ok (.getfield 12, 3) := by decide +kernel
theorem dX6_cell_9 : decode cX6_cell 9 = .ok (.iload_n 1, 1) := by decide +kernel
theorem dX6_cell_10 : decode cX6_cell 10 = .ok (.invokevirtual 59, 3) := by decide +kernel
theorem dX6_cell_13 : decode cX6_cell 13 = .ok (.ifCond .eq 12, 3) := by decide +kernel
theorem dX6_cell_16 : decode cX6_cell 16 = .ok (.iload_n 3, 1) := by decide +kernel
theorem dX6_cell_17 : decode cX6_cell 17 = .ok (.iconst 0, 1) := by decide +kernel
theorem dX6_cell_18 : decode cX6_cell 18 = .ok (.iconst 2, 1) := by decide +kernel
theorem dX6_cell_19 : decode cX6_cell 19 = .ok (.invokestatic 63, 3) := by decide +kernel
theorem dX6_cell_22 : decode cX6_cell 22 = .ok (.ifCond .ne 7, 3) := by decide +kernel
theorem dX6_cell_25 : decode cX6_cell 25 = .ok (.ldc2_w 156, 3) := by decide +kernel
theorem dX6_cell_28 : decode cX6_cell 28 = .ok (.lreturn, 1) := by decide +kernel
theorem dX6_cell_29 : decode cX6_cell 29 = .ok (.aload_n 0, 1) := by decide +kernel
theorem dX6_cell_30 : decode cX6_cell 30 = .ok (.getfield 12, 3) := by decide +kernel
theorem dX6_cell_33 : decode cX6_cell 33 = .ok (.iload_n 1, 1) := by decide +kernel
theorem dX6_cell_34 : decode cX6_cell 34 = .ok (.iload_n 3, 1) := by decide +kernel
theorem dX6_cell_35 : decode cX6_cell 35 = .ok (.invokevirtual 67, 3) := by decide +kernel
theorem dX6_cell_38 : decode cX6_cell 38 = .ok (.ifCond .eq 9, 3) := by decide +kernel
theorem dX6_cell_41 : decode cX6_cell 41 = .ok (.aload_n 0, 1) := by decide +kernel
theorem dX6_cell_42 : decode cX6_cell 42 = .ok (.iconst 2, 1) := by decide +kernel
theorem dX6_cell_43 : decode cX6_cell 43 = .ok (.invokevirtual 304, 3) := by decide +kernel
theorem dX6_cell_46 : decode cX6_cell 46 = .ok (.lreturn, 1) := by decide +kernel
theorem dX6_cell_47 : decode cX6_cell 47 = .ok (.aload_n 0, 1) := by decide +kernel
theorem dX6_cell_48 : decode cX6_cell 48 = .ok (.getfield 12, 3) := by decide +kernel
theorem dX6_cell_51 : decode cX6_cell 51 = .ok (.iload_n 1, 1) := by decide +kernel
theorem dX6_cell_52 : decode cX6_cell 52 = .ok (.invokevirtual 75, 3) := by decide +kernel
theorem dX6_cell_55 : decode cX6_cell 55 = .ok (.ifCond .eq 9, 3) := by decide +kernel
theorem dX6_cell_58 : decode cX6_cell 58 = .ok (.aload_n 0, 1) := by decide +kernel
theorem dX6_cell_59 : decode cX6_cell 59 = .ok (.iconst 1, 1) := by decide +kernel
theorem dX6_cell_60 : decode cX6_cell 60 = .ok (.invokevirtual 304, 3) := by decide +kernel
theorem dX6_cell_63 : decode cX6_cell 63 = .ok (.lreturn, 1) := by decide +kernel
theorem dX6_cell_64 : decode cX6_cell 64 = .ok (.iload_n 2, 1) := by decide +kernel
theorem dX6_cell_65 : decode cX6_cell 65 = .ok (.iconst 0, 1) := by decide +kernel
theorem dX6_cell_66 : decode cX6_cell 66 = .ok (.aload_n 0, 1) := by decide +kernel
theorem dX6_cell_67 : decode cX6_cell 67 = .ok (.getfield 12, 3) := by decide +kernel
theorem dX6_cell_70 : decode cX6_cell 70 = .ok (.iload_n 1, 1) := by decide +kernel
theorem dX6_cell_71 : decode cX6_cell 71 = .ok (.invokevirtual 78, 3) := by decide +kernel
theorem dX6_cell_74 : decode cX6_cell 74 = .ok (.iconst 1, 1) := by decide +kernel
theorem dX6_cell_75 : decode cX6_cell 75 = .ok (.isub, 1) := by decide +kernel
theorem dX6_cell_76 : decode cX6_cell 76 = .ok (.invokestatic 63, 3) := by decide +kernel
theorem dX6_cell_79 : decode cX6_cell 79 = .ok (.ifCond .ne 9, 3) := by decide +kernel
theorem dX6_cell_82 : decode cX6_cell 82 = .ok (.aload_n 0, 1) := by decide +kernel
theorem dX6_cell_83 : decode cX6_cell 83 = .ok (.iconst 3, 1) := by decide +kernel
theorem dX6_cell_84 : decode cX6_cell 84 = .ok (.invokevirtual 304, 3) := by decide +kernel
theorem dX6_cell_87 : decode cX6_cell 87 = .ok (.lreturn, 1) := by decide +kernel
theorem dX6_cell_88 : decode cX6_cell 88 = .ok (.aload_n 0, 1) := by decide +kernel
theorem dX6_cell_89 : decode cX6_cell 89 = .ok (.getfield 12, 3) := by decide +kernel
theorem dX6_cell_92 : decode cX6_cell 92 = .ok (.iload_n 1, 1) := by decide +kernel
theorem dX6_cell_93 : decode cX6_cell 93 = .ok (.iload_n 2, 1) := by decide +kernel
theorem dX6_cell_94 : decode cX6_cell 94 = .ok (.invokevirtual 307, 3) := by decide +kernel
theorem dX6_cell_97 : decode cX6_cell 97 = .ok (.i2l, 1) := by decide +kernel
theorem dX6_cell_98 : decode cX6_cell 98 = .ok (.lreturn, 1) := by decide +kernel
set_option maxRecDepth 20000 in
theorem ggX6_tell_X3_has : GoodIn wsX6_tell wsX3_has := goodIn_r _ [6, 7, 8, 9, 10, 40, 41, 42, 43, 44, 45, 46, 47, 48] (by decide +kernel) (by decide +kernel)
set_option maxRecDepth 20000 in
theorem gX6_tell_X3_has : GoodIn wsX6_tell (wsV RX6 265 RX3 yX3_has wsX3_has) := goodIn_app (goodIn_of _ (by decide +kernel)) ggX6_tell_X3_has
set_option maxRecDepth 20000 in
theorem ggX6_tell_X6_at : GoodIn wsX6_tell wsX6_at := goodIn_r _ [13] (by decide +kernel) (by decide +kernel)
set_option maxRecDepth 20000 in
theorem gX6_tell_X6_at : GoodIn wsX6_tell (va_wsS RX6 128 yX6_at wsX6_at) := goodIn_app (goodIn_of _ (by decide +kernel)) ggX6_tell_X6_at
set_option maxRecDepth 20000 in
theorem ggX6_tell_X6_toldByDone : GoodIn wsX6_tell wsX6_toldByDone := goodIn_r _ [17, 18, 19, 20, 9, 21, 22, 23, 24, 25, 26, 1, 27, 28, 29, 30, 11, 12, 13, 31, 32, 33, 34, 35, 36, 37, 38, 39, 40, 41, 42, 43, 44, 45, 46, 47, 48] (by decide +kernel) (by decide +kernel)
set_option maxRecDepth 20000 in
theorem gX6_tell_X6_toldByDone : GoodIn wsX6_tell (wsV RX6 310 RX6 yX6_toldByDone wsX6_toldByDone) := goodIn_app (goodIn_of _ (by decide +kernel)) ggX6_tell_X6_toldByDone
set_option maxRecDepth 20000 in
theorem ggX6_tell_X6_toldByStands : GoodIn wsX6_tell wsX6_toldByStands := goodIn_r _ [26, 1, 18, 19, 20, 9, 21, 22, 27, 28, 29, 30, 11, 12, 13, 31, 32, 33, 34, 35, 36, 37, 38, 39, 40, 41, 42, 43, 44, 45, 46, 47, 48] (by decide +kernel) (by decide +kernel)
set_option maxRecDepth 20000 in
theorem gX6_tell_X6_toldByStands : GoodIn wsX6_tell (wsV RX6 313 RX6 yX6_toldByStands wsX6_toldByStands) := goodIn_app (goodIn_of _ (by decide +kernel)) ggX6_tell_X6_toldByStands
set_option maxRecDepth 20000 in
theorem ggX6_tell_X6_toldByComer : GoodIn wsX6_tell wsX6_toldByComer := goodIn_r _ [30, 1, 18, 19, 20, 9, 21, 22, 11, 12, 13, 31, 32, 33, 34, 35, 36, 37, 38, 39, 40, 41, 42, 43, 44, 45, 46, 47, 48] (by decide +kernel) (by decide +kernel)
set_option maxRecDepth 20000 in
theorem gX6_tell_X6_toldByComer : GoodIn wsX6_tell (wsV RX6 316 RX6 yX6_toldByComer wsX6_toldByComer) := goodIn_app (goodIn_of _ (by decide +kernel)) ggX6_tell_X6_toldByComer
theorem dX6_tell_0 : decode cX6_tell 0 = .ok (.aload_n 0, 1) := by decide +kernel
theorem dX6_tell_1 : decode cX6_tell 1 = .ok (.getfield 51, 3) := by decide +kernel
theorem dX6_tell_4 : decode cX6_tell 4 = .ok (.iload_n 1, 1) := by decide +kernel
theorem dX6_tell_5 : decode cX6_tell 5 = .ok (.invokevirtual 265, 3) := by decide +kernel
theorem dX6_tell_8 : decode cX6_tell 8 = .ok (.ifCond .ne 5, 3) := by decide +kernel
theorem dX6_tell_11 : decode cX6_tell 11 = .ok (.iconst (-1), 1) := by decide +kernel
theorem dX6_tell_12 : decode cX6_tell 12 = .ok (.ireturn, 1) := by decide +kernel
theorem dX6_tell_13 : decode cX6_tell 13 = .ok (.aload_n 0, 1) := by decide +kernel
theorem dX6_tell_14 : decode cX6_tell 14 = .ok (.getfield 51, 3) := by decide +kernel
theorem dX6_tell_17 : decode cX6_tell 17 = .ok (.getfield 266, 3) := by decide +kernel
theorem dX6_tell_20 : decode cX6_tell 20 = .ok (.iload_n 1, 1) := by decide +kernel
theorem dX6_tell_21 : decode cX6_tell 21 = .ok (.invokestatic 128, 3) := by decide +kernel
theorem dX6_tell_24 : decode cX6_tell 24 = .ok (.lookupswitch 40 #[(1, 34), (2, 28)], 28) := by decide +kernel
theorem dX6_tell_52 : decode cX6_tell 52 = .ok (.aload_n 0, 1) := by decide +kernel
theorem dX6_tell_53 : decode cX6_tell 53 = .ok (.iload_n 1, 1) := by decide +kernel
theorem dX6_tell_54 : decode cX6_tell 54 = .ok (.invokevirtual 310, 3) := by decide +kernel
theorem dX6_tell_57 : decode cX6_tell 57 = .ok (.ireturn, 1) := by decide +kernel
theorem dX6_tell_58 : decode cX6_tell 58 = .ok (.aload_n 0, 1) := by decide +kernel
theorem dX6_tell_59 : decode cX6_tell 59 = .ok (.iload_n 1, 1) := by decide +kernel
theorem dX6_tell_60 : decode cX6_tell 60 = .ok (.invokevirtual 313, 3) := by decide +kernel
theorem dX6_tell_63 : decode cX6_tell 63 = .ok (.ireturn, 1) := by decide +kernel
theorem dX6_tell_64 : decode cX6_tell 64 = .ok (.aload_n 0, 1) := by decide +kernel
theorem dX6_tell_65 : decode cX6_tell 65 = .ok (.iload_n 1, 1) := by decide +kernel
theorem dX6_tell_66 : decode cX6_tell 66 = .ok (.invokevirtual 316, 3) := by decide +kernel
theorem dX6_tell_69 : decode cX6_tell 69 = .ok (.ireturn, 1) := by decide +kernel
set_option maxRecDepth 20000 in
theorem ggX6_call_X3_has : GoodIn wsX6_call wsX3_has := goodIn_r _ [6, 7, 8, 9, 10, 40, 41, 42, 43, 44, 45, 46, 47, 48] (by decide +kernel) (by decide +kernel)
set_option maxRecDepth 20000 in
theorem gX6_call_X3_has : GoodIn wsX6_call (wsV RX6 265 RX3 yX3_has wsX3_has) := goodIn_app (goodIn_of _ (by decide +kernel)) ggX6_call_X3_has
set_option maxRecDepth 20000 in
theorem ggX6_call_X6_isKind : GoodIn wsX6_call wsX6_isKind := goodIn_r _ [14, 1, 15, 16, 9, 17, 31, 32, 33, 34, 35, 36, 37, 38, 39, 40, 41, 42, 43, 44, 45, 46, 47, 48] (by decide +kernel) (by decide +kernel)
set_option maxRecDepth 20000 in
theorem gX6_call_X6_isKind : GoodIn wsX6_call (wsV RX6 280 RX6 yX6_isKind wsX6_isKind) := goodIn_app (goodIn_of _ (by decide +kernel)) ggX6_call_X6_isKind
set_option maxRecDepth 20000 in
theorem ggX6_call_X6_calledByDone : GoodIn wsX6_call wsX6_calledByDone := goodIn_r _ [21, 22, 23, 24, 9, 25, 26, 31, 32, 33, 34, 35, 36, 37, 38, 39] (by decide +kernel) (by decide +kernel)
set_option maxRecDepth 20000 in
theorem gX6_call_X6_calledByDone : GoodIn wsX6_call (wsV RX6 319 RX6 yX6_calledByDone wsX6_calledByDone) := goodIn_app (goodIn_of _ (by decide +kernel)) ggX6_call_X6_calledByDone
set_option maxRecDepth 20000 in
theorem ggX6_call_X6_calledByLent : GoodIn wsX6_call wsX6_calledByLent := goodIn_r _ [30, 22, 23, 24, 9, 25, 26, 31, 32, 33, 34, 35, 36, 37, 38, 39] (by decide +kernel) (by decide +kernel)
set_option maxRecDepth 20000 in
theorem gX6_call_X6_calledByLent : GoodIn wsX6_call (wsV RX6 322 RX6 yX6_calledByLent wsX6_calledByLent) := goodIn_app (goodIn_of _ (by decide +kernel)) ggX6_call_X6_calledByLent
theorem dX6_call_0 : decode cX6_call 0 = .ok (.aload_n 0, 1) := by decide +kernel
theorem dX6_call_1 : decode cX6_call 1 = .ok (.getfield 51, 3) := by decide +kernel
theorem dX6_call_4 : decode cX6_call 4 = .ok (.iload_n 1, 1) := by decide +kernel
theorem dX6_call_5 : decode cX6_call 5 = .ok (.invokevirtual 265, 3) := by decide +kernel
theorem dX6_call_8 : decode cX6_call 8 = .ok (.ifCond .ne 5, 3) := by decide +kernel
theorem dX6_call_11 : decode cX6_call 11 = .ok (.iconst (-1), 1) := by decide +kernel
theorem dX6_call_12 : decode cX6_call 12 = .ok (.ireturn, 1) := by decide +kernel
theorem dX6_call_13 : decode cX6_call 13 = .ok (.aload_n 0, 1) := by decide +kernel
theorem dX6_call_14 : decode cX6_call 14 = .ok (.iload_n 1, 1) := by decide +kernel
theorem dX6_call_15 : decode cX6_call 15 = .ok (.iconst 2, 1) := by decide +kernel
theorem dX6_call_16 : decode cX6_call 16 = .ok (.invokevirtual 280, 3) := by decide +kernel
theorem dX6_call_19 : decode cX6_call 19 = .ok (.ifCond .eq 10, 3) := by decide +kernel
theorem dX6_call_22 : decode cX6_call 22 = .ok (.aload_n 0, 1) := by decide +kernel
theorem dX6_call_23 : decode cX6_call 23 = .ok (.invokevirtual 319, 3) := by decide +kernel
theorem dX6_call_26 : decode cX6_call 26 = .ok (.goto 8, 3) := by decide +kernel
theorem dX6_call_29 : decode cX6_call 29 = .ok (.aload_n 0, 1) := by decide +kernel
theorem dX6_call_30 : decode cX6_call 30 = .ok (.iload_n 1, 1) := by decide +kernel
theorem dX6_call_31 : decode cX6_call 31 = .ok (.invokevirtual 322, 3) := by decide +kernel
theorem dX6_call_34 : decode cX6_call 34 = .ok (.ireturn, 1) := by decide +kernel
set_option maxRecDepth 20000 in
theorem ggX6_as_X3_has : GoodIn wsX6_as wsX3_has := goodIn_r _ [7, 8, 9, 10, 11, 33, 34, 35, 36, 37, 38, 39, 40, 41] (by decide +kernel) (by decide +kernel)
set_option maxRecDepth 20000 in
theorem gX6_as_X3_has : GoodIn wsX6_as (wsV RX6 265 RX3 yX3_has wsX3_has) := goodIn_app (goodIn_of _ (by decide +kernel)) ggX6_as_X3_has
set_option maxRecDepth 20000 in
theorem ggX6_as_X6_isWithin : GoodIn wsX6_as wsX6_isWithin := goodIn_r _ [11] (by decide +kernel) (by decide +kernel)
set_option maxRecDepth 20000 in
theorem gX6_as_X6_isWithin : GoodIn wsX6_as (va_wsS RX6 63 yX6_isWithin wsX6_isWithin) := goodIn_app (goodIn_of _ (by decide +kernel)) ggX6_as_X6_isWithin
set_option maxRecDepth 20000 in
theorem ggX6_as_X6_isKind : GoodIn wsX6_as wsX6_isKind := goodIn_r _ [16, 2, 17, 18, 10, 19, 24, 25, 26, 27, 28, 29, 30, 31, 32, 33, 34, 35, 36, 37, 38, 39, 40, 41] (by decide +kernel) (by decide +kernel)
set_option maxRecDepth 20000 in
theorem gX6_as_X6_isKind : GoodIn wsX6_as (wsV RX6 280 RX6 yX6_isKind wsX6_isKind) := goodIn_app (goodIn_of _ (by decide +kernel)) ggX6_as_X6_isKind
set_option maxRecDepth 20000 in
theorem ggX6_as_X6_faulted : GoodIn wsX6_as wsX6_faulted := goodIn_r _ [23, 1, 24, 25, 26, 27, 28, 29, 30, 31, 32] (by decide +kernel) (by decide +kernel)
set_option maxRecDepth 20000 in
theorem gX6_as_X6_faulted : GoodIn wsX6_as (wsV RX6 71 RX6 yX6_faulted wsX6_faulted) := goodIn_app (goodIn_of _ (by decide +kernel)) ggX6_as_X6_faulted
theorem dX6_as_0 : decode cX6_as 0 = .ok (.aload_n 0, 1) := by decide +kernel
theorem dX6_as_1 : decode cX6_as 1 = .ok (.iconst 0, 1) := by decide +kernel
theorem dX6_as_2 : decode cX6_as 2 = .ok (.putfield 55, 3) := by decide +kernel
theorem dX6_as_5 : decode cX6_as 5 = .ok (.aload_n 0, 1) := by decide +kernel
theorem dX6_as_6 : decode cX6_as 6 = .ok (.getfield 51, 3) := by decide +kernel
theorem dX6_as_9 : decode cX6_as 9 = .ok (.iload_n 1, 1) := by decide +kernel
theorem dX6_as_10 : decode cX6_as 10 = .ok (.invokevirtual 265, 3) := by decide +kernel
theorem dX6_as_13 : decode cX6_as 13 = .ok (.ifCond .ne 5, 3) := by decide +kernel
theorem dX6_as_16 : decode cX6_as 16 = .ok (.iconst (-1), 1) := by decide +kernel
theorem dX6_as_17 : decode cX6_as 17 = .ok (.ireturn, 1) := by decide +kernel
theorem dX6_as_18 : decode cX6_as 18 = .ok (.iload_n 2, 1) := by decide +kernel
theorem dX6_as_19 : decode cX6_as 19 = .ok (.iconst 0, 1) := by decide +kernel
theorem dX6_as_20 : decode cX6_as 20 = .ok (.iconst 2, 1) := by decide +kernel
theorem dX6_as_21 : decode cX6_as 21 = .ok (.invokestatic 63, 3) := by decide +kernel
theorem dX6_as_24 : decode cX6_as 24 = .ok (.ifCond .ne 6, 3) := by decide +kernel
theorem dX6_as_27 : decode cX6_as 27 = .ok (.bipush (-2), 2) := by decide +kernel
theorem dX6_as_29 : decode cX6_as 29 = .ok (.ireturn, 1) := by decide +kernel
theorem dX6_as_30 : decode cX6_as 30 = .ok (.aload_n 0, 1) := by decide +kernel
theorem dX6_as_31 : decode cX6_as 31 = .ok (.iload_n 1, 1) := by decide +kernel
theorem dX6_as_32 : decode cX6_as 32 = .ok (.iload_n 2, 1) := by decide +kernel
theorem dX6_as_33 : decode cX6_as 33 = .ok (.invokevirtual 280, 3) := by decide +kernel
theorem dX6_as_36 : decode cX6_as 36 = .ok (.ifCond .eq 7, 3) := by decide +kernel
theorem dX6_as_39 : decode cX6_as 39 = .ok (.iconst 1, 1) := by decide +kernel
theorem dX6_as_40 : decode cX6_as 40 = .ok (.goto 8, 3) := by decide +kernel
theorem dX6_as_43 : decode cX6_as 43 = .ok (.aload_n 0, 1) := by decide +kernel
theorem dX6_as_44 : decode cX6_as 44 = .ok (.iconst 2, 1) := by decide +kernel
theorem dX6_as_45 : decode cX6_as 45 = .ok (.invokevirtual 71, 3) := by decide +kernel
theorem dX6_as_48 : decode cX6_as 48 = .ok (.ireturn, 1) := by decide +kernel
theorem dX6_trace_0 : decode cX6_trace 0 = .ok (.aload_n 0, 1) := by decide +kernel
theorem dX6_trace_1 : decode cX6_trace 1 = .ok (.getfield 325, 3) := by decide +kernel
theorem dX6_trace_4 : decode cX6_trace 4 = .ok (.ireturn, 1) := by decide +kernel
theorem dX6_fault_0 : decode cX6_fault 0 = .ok (.aload_n 0, 1) := by decide +kernel
theorem dX6_fault_1 : decode cX6_fault 1 = .ok (.getfield 55, 3) := by decide +kernel
theorem dX6_fault_4 : decode cX6_fault 4 = .ok (.ireturn, 1) := by decide +kernel
set_option maxRecDepth 20000 in
theorem ggX6_many_X3_done : GoodIn wsX6_many wsX3_done := goodIn_r _ [7, 8, 9, 10, 11, 12, 32, 33, 34, 35, 36, 37, 38, 39, 40] (by decide +kernel) (by decide +kernel)
set_option maxRecDepth 20000 in
theorem gX6_many_X3_done : GoodIn wsX6_many (wsV RX6 331 RX3 yX3_done wsX3_done) := goodIn_app (goodIn_of _ (by decide +kernel)) ggX6_many_X3_done
theorem dX6_many_0 : decode cX6_many 0 = .ok (.iload_n 1, 1) := by decide +kernel
theorem dX6_many_1 : decode cX6_many 1 = .ok (.tableswitch 75 0 4 #[35, 43, 51, 59, 67], 35) := by decide +kernel
theorem dX6_many_36 : decode cX6_many 36 = .ok (.aload_n 0, 1) := by decide +kernel
theorem dX6_many_37 : decode cX6_many 37 = .ok (.getfield 30, 3) := by decide +kernel
theorem dX6_many_40 : decode cX6_many 40 = .ok (.getfield 97, 3) := by decide +kernel
theorem dX6_many_43 : decode cX6_many 43 = .ok (.ireturn, 1) := by decide +kernel
theorem dX6_many_44 : decode cX6_many 44 = .ok (.aload_n 0, 1) := by decide +kernel
theorem dX6_many_45 : decode cX6_many 45 = .ok (.getfield 51, 3) := by decide +kernel
theorem dX6_many_48 : decode cX6_many 48 = .ok (.getfield 328, 3) := by decide +kernel
theorem dX6_many_51 : decode cX6_many 51 = .ok (.ireturn, 1) := by decide +kernel
theorem dX6_many_52 : decode cX6_many 52 = .ok (.aload_n 0, 1) := by decide +kernel
theorem dX6_many_53 : decode cX6_many 53 = .ok (.getfield 51, 3) := by decide +kernel
theorem dX6_many_56 : decode cX6_many 56 = .ok (.getfield 249, 3) := by decide +kernel
theorem dX6_many_59 : decode cX6_many 59 = .ok (.ireturn, 1) := by decide +kernel
theorem dX6_many_60 : decode cX6_many 60 = .ok (.aload_n 0, 1) := by decide +kernel
theorem dX6_many_61 : decode cX6_many 61 = .ok (.getfield 51, 3) := by decide +kernel
theorem dX6_many_64 : decode cX6_many 64 = .ok (.invokevirtual 331, 3) := by decide +kernel
theorem dX6_many_67 : decode cX6_many 67 = .ok (.ireturn, 1) := by decide +kernel
theorem dX6_many_68 : decode cX6_many 68 = .ok (.aload_n 0, 1) := by decide +kernel
theorem dX6_many_69 : decode cX6_many 69 = .ok (.getfield 51, 3) := by decide +kernel
theorem dX6_many_72 : decode cX6_many 72 = .ok (.getfield 262, 3) := by decide +kernel
theorem dX6_many_75 : decode cX6_many 75 = .ok (.ireturn, 1) := by decide +kernel
theorem dX6_many_76 : decode cX6_many 76 = .ok (.bipush (-2), 2) := by decide +kernel
theorem dX6_many_78 : decode cX6_many 78 = .ok (.ireturn, 1) := by decide +kernel
set_option maxRecDepth 20000 in
theorem ggX6_toldByComer_X6_leaveNumber : GoodIn wsX6_toldByComer wsX6_leaveNumber := goodIn_r _ [6, 7, 11, 12, 13, 14, 15, 16, 17, 18, 19] (by decide +kernel) (by decide +kernel)
set_option maxRecDepth 20000 in
theorem gX6_toldByComer_X6_leaveNumber : GoodIn wsX6_toldByComer (wsV RX6 334 RX6 yX6_leaveNumber wsX6_leaveNumber) := goodIn_app (goodIn_of _ (by decide +kernel)) ggX6_toldByComer_X6_leaveNumber
set_option maxRecDepth 20000 in
theorem ggX6_toldByComer_X6_at : GoodIn wsX6_toldByComer wsX6_at := goodIn_r _ [10] (by decide +kernel) (by decide +kernel)
set_option maxRecDepth 20000 in
theorem gX6_toldByComer_X6_at : GoodIn wsX6_toldByComer (va_wsS RX6 128 yX6_at wsX6_at) := goodIn_app (goodIn_of _ (by decide +kernel)) ggX6_toldByComer_X6_at
theorem dX6_toldByComer_0 : decode cX6_toldByComer 0 = .ok (.aload_n 0, 1) := by decide +kernel
theorem dX6_toldByComer_1 : decode cX6_toldByComer 1 = .ok (.iconst 1, 1) := by decide +kernel
theorem dX6_toldByComer_2 : decode cX6_toldByComer 2 = .ok (.invokevirtual 334, 3) := by decide +kernel
theorem dX6_toldByComer_5 : decode cX6_toldByComer 5 = .ok (.aload_n 0, 1) := by decide +kernel
theorem dX6_toldByComer_6 : decode cX6_toldByComer 6 = .ok (.getfield 51, 3) := by decide +kernel
theorem dX6_toldByComer_9 : decode cX6_toldByComer 9 = .ok (.getfield 269, 3) := by decide +kernel
theorem dX6_toldByComer_12 : decode cX6_toldByComer 12 = .ok (.iload_n 1, 1) := by decide +kernel
theorem dX6_toldByComer_13 : decode cX6_toldByComer 13 = .ok (.invokestatic 128, 3) := by decide +kernel
theorem dX6_toldByComer_16 : decode cX6_toldByComer 16 = .ok (.ireturn, 1) := by decide +kernel
set_option maxRecDepth 20000 in
theorem ggX6_toldByStands_X6_leaveNumber : GoodIn wsX6_toldByStands wsX6_leaveNumber := goodIn_r _ [6, 7, 15, 16, 17, 18, 19, 20, 21, 22, 23] (by decide +kernel) (by decide +kernel)
set_option maxRecDepth 20000 in
theorem gX6_toldByStands_X6_leaveNumber : GoodIn wsX6_toldByStands (wsV RX6 334 RX6 yX6_leaveNumber wsX6_leaveNumber) := goodIn_app (goodIn_of _ (by decide +kernel)) ggX6_toldByStands_X6_leaveNumber
set_option maxRecDepth 20000 in
theorem ggX6_toldByStands_X6_toldByComer : GoodIn wsX6_toldByStands wsX6_toldByComer := goodIn_r _ [11, 1, 2, 3, 4, 5, 6, 7, 12, 13, 14, 15, 16, 17, 18, 19, 20, 21, 22, 23, 24, 25, 26, 27, 28, 29, 30, 31, 32] (by decide +kernel) (by decide +kernel)
set_option maxRecDepth 20000 in
theorem gX6_toldByStands_X6_toldByComer : GoodIn wsX6_toldByStands (wsV RX6 316 RX6 yX6_toldByComer wsX6_toldByComer) := goodIn_app (goodIn_of _ (by decide +kernel)) ggX6_toldByStands_X6_toldByComer
set_option maxRecDepth 20000 in
theorem ggX6_toldByStands_X6_at : GoodIn wsX6_toldByStands wsX6_at := goodIn_r _ [14] (by decide +kernel) (by decide +kernel)
set_option maxRecDepth 20000 in
theorem gX6_toldByStands_X6_at : GoodIn wsX6_toldByStands (va_wsS RX6 128 yX6_at wsX6_at) := goodIn_app (goodIn_of _ (by decide +kernel)) ggX6_toldByStands_X6_at
theorem dX6_toldByStands_0 : decode cX6_toldByStands 0 = .ok (.aload_n 0, 1) := by decide +kernel
theorem dX6_toldByStands_1 : decode cX6_toldByStands 1 = .ok (.iconst 2, 1) := by decide +kernel
theorem dX6_toldByStands_2 : decode cX6_toldByStands 2 = .ok (.invokevirtual 334, 3) := by decide +kernel
theorem dX6_toldByStands_5 : decode cX6_toldByStands 5 = .ok (.aload_n 0, 1) := by decide +kernel
theorem dX6_toldByStands_6 : decode cX6_toldByStands 6 = .ok (.iload_n 1, 1) := by decide +kernel
theorem dX6_toldByStands_7 : decode cX6_toldByStands 7 = .ok (.invokevirtual 316, 3) := by decide +kernel
theorem dX6_toldByStands_10 : decode cX6_toldByStands 10 = .ok (.bipush 10, 2) := by decide +kernel
theorem dX6_toldByStands_12 : decode cX6_toldByStands 12 = .ok (.aload_n 0, 1) := by decide +kernel
theorem dX6_toldByStands_13 : decode cX6_toldByStands 13 = .ok (.getfield 51, 3) := by decide +kernel
theorem dX6_toldByStands_16 : decode cX6_toldByStands 16 = .ok (.getfield 271, 3) := by decide +kernel
theorem dX6_toldByStands_19 : decode cX6_toldByStands 19 = .ok (.iload_n 1, 1) := by decide +kernel
theorem dX6_toldByStands_20 : decode cX6_toldByStands 20 = .ok (.invokestatic 128, 3) := by decide +kernel
theorem dX6_toldByStands_23 : decode cX6_toldByStands 23 = .ok (.imul, 1) := by decide +kernel
theorem dX6_toldByStands_24 : decode cX6_toldByStands 24 = .ok (.iadd, 1) := by decide +kernel
theorem dX6_toldByStands_25 : decode cX6_toldByStands 25 = .ok (.ireturn, 1) := by decide +kernel
set_option maxRecDepth 20000 in
theorem ggX6_toldByDone_X6_leaveNumber : GoodIn wsX6_toldByDone wsX6_leaveNumber := goodIn_r _ [5, 6, 19, 20, 21, 22, 23, 24, 25, 26, 27] (by decide +kernel) (by decide +kernel)
set_option maxRecDepth 20000 in
theorem gX6_toldByDone_X6_leaveNumber : GoodIn wsX6_toldByDone (wsV RX6 334 RX6 yX6_leaveNumber wsX6_leaveNumber) := goodIn_app (goodIn_of _ (by decide +kernel)) ggX6_toldByDone_X6_leaveNumber
set_option maxRecDepth 20000 in
theorem ggX6_toldByDone_X6_toldByStands : GoodIn wsX6_toldByDone wsX6_toldByStands := goodIn_r _ [10, 11, 1, 2, 3, 4, 5, 6, 12, 13, 14, 15, 16, 17, 18, 19, 20, 21, 22, 23, 24, 25, 26, 27, 28, 29, 30, 31, 32, 33, 34, 35, 36] (by decide +kernel) (by decide +kernel)
set_option maxRecDepth 20000 in
theorem gX6_toldByDone_X6_toldByStands : GoodIn wsX6_toldByDone (wsV RX6 313 RX6 yX6_toldByStands wsX6_toldByStands) := goodIn_app (goodIn_of _ (by decide +kernel)) ggX6_toldByDone_X6_toldByStands
set_option maxRecDepth 20000 in
theorem ggX6_toldByDone_X6_toldByComer : GoodIn wsX6_toldByDone wsX6_toldByComer := goodIn_r _ [15, 11, 1, 2, 3, 4, 5, 6, 16, 17, 18, 19, 20, 21, 22, 23, 24, 25, 26, 27, 28, 29, 30, 31, 32, 33, 34, 35, 36] (by decide +kernel) (by decide +kernel)
set_option maxRecDepth 20000 in
theorem gX6_toldByDone_X6_toldByComer : GoodIn wsX6_toldByDone (wsV RX6 316 RX6 yX6_toldByComer wsX6_toldByComer) := goodIn_app (goodIn_of _ (by decide +kernel)) ggX6_toldByDone_X6_toldByComer
theorem dX6_toldByDone_0 : decode cX6_toldByDone 0 = .ok (.aload_n 0, 1) := by decide +kernel
theorem dX6_toldByDone_1 : decode cX6_toldByDone 1 = .ok (.iconst 3, 1) := by decide +kernel
theorem dX6_toldByDone_2 : decode cX6_toldByDone 2 = .ok (.invokevirtual 334, 3) := by decide +kernel
theorem dX6_toldByDone_5 : decode cX6_toldByDone 5 = .ok (.aload_n 0, 1) := by decide +kernel
theorem dX6_toldByDone_6 : decode cX6_toldByDone 6 = .ok (.iload_n 1, 1) := by decide +kernel
theorem dX6_toldByDone_7 : decode cX6_toldByDone 7 = .ok (.invokevirtual 313, 3) := by decide +kernel
theorem dX6_toldByDone_10 : decode cX6_toldByDone 10 = .ok (.istore_n 2, 1) := by decide +kernel
theorem dX6_toldByDone_11 : decode cX6_toldByDone 11 = .ok (.iload_n 2, 1) := by decide +kernel
theorem dX6_toldByDone_12 : decode cX6_toldByDone 12 = .ok (.aload_n 0, 1) := by decide +kernel
theorem dX6_toldByDone_13 : decode cX6_toldByDone 13 = .ok (.iload_n 1, 1) := by decide +kernel
theorem dX6_toldByDone_14 : decode cX6_toldByDone 14 = .ok (.invokevirtual 316, 3) := by decide +kernel
theorem dX6_toldByDone_17 : decode cX6_toldByDone 17 = .ok (.iadd, 1) := by decide +kernel
theorem dX6_toldByDone_18 : decode cX6_toldByDone 18 = .ok (.ireturn, 1) := by decide +kernel
set_option maxRecDepth 20000 in
theorem ggX6_calledByLent_X6_leaveNumber : GoodIn wsX6_calledByLent wsX6_leaveNumber := goodIn_r _ [5, 6, 7, 8, 9, 10, 11, 12, 13, 14, 15] (by decide +kernel) (by decide +kernel)
set_option maxRecDepth 20000 in
theorem gX6_calledByLent_X6_leaveNumber : GoodIn wsX6_calledByLent (wsV RX6 334 RX6 yX6_leaveNumber wsX6_leaveNumber) := goodIn_app (goodIn_of _ (by decide +kernel)) ggX6_calledByLent_X6_leaveNumber
theorem dX6_calledByLent_0 : decode cX6_calledByLent 0 = .ok (.aload_n 0, 1) := by decide +kernel
theorem dX6_calledByLent_1 : decode cX6_calledByLent 1 = .ok (.iconst 4, 1) := by decide +kernel
theorem dX6_calledByLent_2 : decode cX6_calledByLent 2 = .ok (.invokevirtual 334, 3) := by decide +kernel
theorem dX6_calledByLent_5 : decode cX6_calledByLent 5 = .ok (.iload_n 1, 1) := by decide +kernel
theorem dX6_calledByLent_6 : decode cX6_calledByLent 6 = .ok (.ireturn, 1) := by decide +kernel
set_option maxRecDepth 20000 in
theorem ggX6_calledByDone_X6_leaveNumber : GoodIn wsX6_calledByDone wsX6_leaveNumber := goodIn_r _ [5, 6, 7, 8, 9, 10, 11, 12, 13, 14, 15] (by decide +kernel) (by decide +kernel)
set_option maxRecDepth 20000 in
theorem gX6_calledByDone_X6_leaveNumber : GoodIn wsX6_calledByDone (wsV RX6 334 RX6 yX6_leaveNumber wsX6_leaveNumber) := goodIn_app (goodIn_of _ (by decide +kernel)) ggX6_calledByDone_X6_leaveNumber
theorem dX6_calledByDone_0 : decode cX6_calledByDone 0 = .ok (.aload_n 0, 1) := by decide +kernel
theorem dX6_calledByDone_1 : decode cX6_calledByDone 1 = .ok (.iconst 5, 1) := by decide +kernel
theorem dX6_calledByDone_2 : decode cX6_calledByDone 2 = .ok (.invokevirtual 334, 3) := by decide +kernel
theorem dX6_calledByDone_5 : decode cX6_calledByDone 5 = .ok (.bipush 90, 2) := by decide +kernel
theorem dX6_calledByDone_7 : decode cX6_calledByDone 7 = .ok (.ireturn, 1) := by decide +kernel
theorem dX6_leaveNumber_0 : decode cX6_leaveNumber 0 = .ok (.aload_n 0, 1) := by decide +kernel
theorem dX6_leaveNumber_1 : decode cX6_leaveNumber 1 = .ok (.bipush 31, 2) := by decide +kernel
theorem dX6_leaveNumber_3 : decode cX6_leaveNumber 3 = .ok (.aload_n 0, 1) := by decide +kernel
theorem dX6_leaveNumber_4 : decode cX6_leaveNumber 4 = .ok (.getfield 325, 3) := by decide +kernel
theorem dX6_leaveNumber_7 : decode cX6_leaveNumber 7 = .ok (.imul, 1) := by decide +kernel
theorem dX6_leaveNumber_8 : decode cX6_leaveNumber 8 = .ok (.iload_n 1, 1) := by decide +kernel
theorem dX6_leaveNumber_9 : decode cX6_leaveNumber 9 = .ok (.iadd, 1) := by decide +kernel
theorem dX6_leaveNumber_10 : decode cX6_leaveNumber 10 = .ok (.putfield 325, 3) := by decide +kernel
theorem dX6_leaveNumber_13 : decode cX6_leaveNumber 13 = .ok (.return_, 1) := by decide +kernel
set_option maxRecDepth 20000 in
theorem ggX6_isKind_X6_at : GoodIn wsX6_isKind wsX6_at := goodIn_r _ [5] (by decide +kernel) (by decide +kernel)
set_option maxRecDepth 20000 in
theorem gX6_isKind_X6_at : GoodIn wsX6_isKind (va_wsS RX6 128 yX6_at wsX6_at) := goodIn_app (goodIn_of _ (by decide +kernel)) ggX6_isKind_X6_at
theorem dX6_isKind_0 : decode cX6_isKind 0 = .ok (.aload_n 0, 1) := by decide +kernel
theorem dX6_isKind_1 : decode cX6_isKind 1 = .ok (.getfield 51, 3) := by decide +kernel
theorem dX6_isKind_4 : decode cX6_isKind 4 = .ok (.getfield 266, 3) := by decide +kernel
theorem dX6_isKind_7 : decode cX6_isKind 7 = .ok (.iload_n 1, 1) := by decide +kernel
theorem dX6_isKind_8 : decode cX6_isKind 8 = .ok (.invokestatic 128, 3) := by decide +kernel
theorem dX6_isKind_11 : decode cX6_isKind 11 = .ok (.iload_n 2, 1) := by decide +kernel
theorem dX6_isKind_12 : decode cX6_isKind 12 = .ok (.if_icmp .lt 7, 3) := by decide +kernel
theorem dX6_isKind_15 : decode cX6_isKind 15 = .ok (.iconst 1, 1) := by decide +kernel
theorem dX6_isKind_16 : decode cX6_isKind 16 = .ok (.goto 4, 3) := by decide +kernel
theorem dX6_isKind_19 : decode cX6_isKind 19 = .ok (.iconst 0, 1) := by decide +kernel
theorem dX6_isKind_20 : decode cX6_isKind 20 = .ok (.ireturn, 1) := by decide +kernel
theorem dX6_faulted_0 : decode cX6_faulted 0 = .ok (.aload_n 0, 1) := by decide +kernel
theorem dX6_faulted_1 : decode cX6_faulted 1 = .ok (.iload_n 1, 1) := by decide +kernel
theorem dX6_faulted_2 : decode cX6_faulted 2 = .ok (.putfield 55, 3) := by decide +kernel
theorem dX6_faulted_5 : decode cX6_faulted 5 = .ok (.bipush (-10), 2) := by decide +kernel
theorem dX6_faulted_7 : decode cX6_faulted 7 = .ok (.iload_n 1, 1) := by decide +kernel
theorem dX6_faulted_8 : decode cX6_faulted 8 = .ok (.isub, 1) := by decide +kernel
theorem dX6_faulted_9 : decode cX6_faulted 9 = .ok (.ireturn, 1) := by decide +kernel
theorem dX6_lost_0 : decode cX6_lost 0 = .ok (.aload_n 0, 1) := by decide +kernel
theorem dX6_lost_1 : decode cX6_lost 1 = .ok (.iload_n 1, 1) := by decide +kernel
theorem dX6_lost_2 : decode cX6_lost 2 = .ok (.putfield 55, 3) := by decide +kernel
theorem dX6_lost_5 : decode cX6_lost 5 = .ok (.ldc2_w 156, 3) := by decide +kernel
theorem dX6_lost_8 : decode cX6_lost 8 = .ok (.lreturn, 1) := by decide +kernel
theorem dX6_isWithin_0 : decode cX6_isWithin 0 = .ok (.iload_n 0, 1) := by decide +kernel
theorem dX6_isWithin_1 : decode cX6_isWithin 1 = .ok (.iload_n 1, 1) := by decide +kernel
theorem dX6_isWithin_2 : decode cX6_isWithin 2 = .ok (.if_icmp .lt 12, 3) := by decide +kernel
theorem dX6_isWithin_5 : decode cX6_isWithin 5 = .ok (.iload_n 0, 1) := by decide +kernel
theorem dX6_isWithin_6 : decode cX6_isWithin 6 = .ok (.iload_n 2, 1) := by decide +kernel
theorem dX6_isWithin_7 : decode cX6_isWithin 7 = .ok (.if_icmp .gt 7, 3) := by decide +kernel
theorem dX6_isWithin_10 : decode cX6_isWithin 10 = .ok (.iconst 1, 1) := by decide +kernel
theorem dX6_isWithin_11 : decode cX6_isWithin 11 = .ok (.goto 4, 3) := by decide +kernel
theorem dX6_isWithin_14 : decode cX6_isWithin 14 = .ok (.iconst 0, 1) := by decide +kernel
theorem dX6_isWithin_15 : decode cX6_isWithin 15 = .ok (.ireturn, 1) := by decide +kernel
theorem dX6_at_0 : decode cX6_at 0 = .ok (.iload_n 1, 1) := by decide +kernel
theorem dX6_at_1 : decode cX6_at 1 = .ok (.ifCond .lt 15, 3) := by decide +kernel
theorem dX6_at_4 : decode cX6_at 4 = .ok (.iload_n 1, 1) := by decide +kernel
theorem dX6_at_5 : decode cX6_at 5 = .ok (.aload_n 0, 1) := by decide +kernel
theorem dX6_at_6 : decode cX6_at 6 = .ok (.arraylength, 1) := by decide +kernel
theorem dX6_at_7 : decode cX6_at 7 = .ok (.if_icmp .ge 9, 3) := by decide +kernel
theorem dX6_at_10 : decode cX6_at 10 = .ok (.aload_n 0, 1) := by decide +kernel
theorem dX6_at_11 : decode cX6_at 11 = .ok (.iload_n 1, 1) := by decide +kernel
theorem dX6_at_12 : decode cX6_at 12 = .ok (.iaload, 1) := by decide +kernel
theorem dX6_at_13 : decode cX6_at 13 = .ok (.goto 4, 3) := by decide +kernel
theorem dX6_at_16 : decode cX6_at 16 = .ok (.iconst 0, 1) := by decide +kernel
theorem dX6_at_17 : decode cX6_at 17 = .ok (.ireturn, 1) := by decide +kernel
theorem dX6_at__0 : decode cX6_at_ 0 = .ok (.iload_n 1, 1) := by decide +kernel
theorem dX6_at__1 : decode cX6_at_ 1 = .ok (.ifCond .lt 15, 3) := by decide +kernel
theorem dX6_at__4 : decode cX6_at_ 4 = .ok (.iload_n 1, 1) := by decide +kernel
theorem dX6_at__5 : decode cX6_at_ 5 = .ok (.aload_n 0, 1) := by decide +kernel
theorem dX6_at__6 : decode cX6_at_ 6 = .ok (.arraylength, 1) := by decide +kernel
theorem dX6_at__7 : decode cX6_at_ 7 = .ok (.if_icmp .ge 9, 3) := by decide +kernel
theorem dX6_at__10 : decode cX6_at_ 10 = .ok (.aload_n 0, 1) := by decide +kernel
theorem dX6_at__11 : decode cX6_at_ 11 = .ok (.iload_n 1, 1) := by decide +kernel
theorem dX6_at__12 : decode cX6_at_ 12 = .ok (.laload, 1) := by decide +kernel
theorem dX6_at__13 : decode cX6_at_ 13 = .ok (.goto 4, 3) := by decide +kernel
theorem dX6_at__16 : decode cX6_at_ 16 = .ok (.lconst 0, 1) := by decide +kernel
theorem dX6_at__17 : decode cX6_at_ 17 = .ok (.lreturn, 1) := by decide +kernel
theorem dX6_set_0 : decode cX6_set 0 = .ok (.iload_n 1, 1) := by decide +kernel
theorem dX6_set_1 : decode cX6_set 1 = .ok (.ifCond .lt 13, 3) := by decide +kernel
theorem dX6_set_4 : decode cX6_set 4 = .ok (.iload_n 1, 1) := by decide +kernel
theorem dX6_set_5 : decode cX6_set 5 = .ok (.aload_n 0, 1) := by decide +kernel
theorem dX6_set_6 : decode cX6_set 6 = .ok (.arraylength, 1) := by decide +kernel
theorem dX6_set_7 : decode cX6_set 7 = .ok (.if_icmp .ge 7, 3) := by decide +kernel
theorem dX6_set_10 : decode cX6_set 10 = .ok (.aload_n 0, 1) := by decide +kernel
theorem dX6_set_11 : decode cX6_set 11 = .ok (.iload_n 1, 1) := by decide +kernel
theorem dX6_set_12 : decode cX6_set 12 = .ok (.iload_n 2, 1) := by decide +kernel
theorem dX6_set_13 : decode cX6_set 13 = .ok (.iastore, 1) := by decide +kernel
theorem dX6_set_14 : decode cX6_set 14 = .ok (.return_, 1) := by decide +kernel
theorem dX6_set__0 : decode cX6_set_ 0 = .ok (.iload_n 1, 1) := by decide +kernel
theorem dX6_set__1 : decode cX6_set_ 1 = .ok (.ifCond .lt 13, 3) := by decide +kernel
theorem dX6_set__4 : decode cX6_set_ 4 = .ok (.iload_n 1, 1) := by decide +kernel
theorem dX6_set__5 : decode cX6_set_ 5 = .ok (.aload_n 0, 1) := by decide +kernel
theorem dX6_set__6 : decode cX6_set_ 6 = .ok (.arraylength, 1) := by decide +kernel
theorem dX6_set__7 : decode cX6_set_ 7 = .ok (.if_icmp .ge 7, 3) := by decide +kernel
theorem dX6_set__10 : decode cX6_set_ 10 = .ok (.aload_n 0, 1) := by decide +kernel
theorem dX6_set__11 : decode cX6_set_ 11 = .ok (.iload_n 1, 1) := by decide +kernel
theorem dX6_set__12 : decode cX6_set_ 12 = .ok (.lload_n 2, 1) := by decide +kernel
theorem dX6_set__13 : decode cX6_set_ 13 = .ok (.lastore, 1) := by decide +kernel
theorem dX6_set__14 : decode cX6_set_ 14 = .ok (.return_, 1) := by decide +kernel
theorem dX6_rowsOf_0 : decode cX6_rowsOf 0 = .ok (.iconst 1, 1) := by decide +kernel
theorem dX6_rowsOf_1 : decode cX6_rowsOf 1 = .ok (.istore_n 1, 1) := by decide +kernel
theorem dX6_rowsOf_2 : decode cX6_rowsOf 2 = .ok (.iconst 0, 1) := by decide +kernel
theorem dX6_rowsOf_3 : decode cX6_rowsOf 3 = .ok (.istore_n 2, 1) := by decide +kernel
theorem dX6_rowsOf_4 : decode cX6_rowsOf 4 = .ok (.iload_n 2, 1) := by decide +kernel
theorem dX6_rowsOf_5 : decode cX6_rowsOf 5 = .ok (.iload_n 0, 1) := by decide +kernel
theorem dX6_rowsOf_6 : decode cX6_rowsOf 6 = .ok (.if_icmp .ge 14, 3) := by decide +kernel
theorem dX6_rowsOf_9 : decode cX6_rowsOf 9 = .ok (.iload_n 1, 1) := by decide +kernel
theorem dX6_rowsOf_10 : decode cX6_rowsOf 10 = .ok (.bipush 6, 2) := by decide +kernel
theorem dX6_rowsOf_12 : decode cX6_rowsOf 12 = .ok (.imul, 1) := by decide +kernel
theorem dX6_rowsOf_13 : decode cX6_rowsOf 13 = .ok (.istore_n 1, 1) := by decide +kernel
theorem dX6_rowsOf_14 : decode cX6_rowsOf 14 = .ok (.iinc 2 1, 3) := by decide +kernel
theorem dX6_rowsOf_17 : decode cX6_rowsOf 17 = .ok (.goto (-13), 3) := by decide +kernel
theorem dX6_rowsOf_20 : decode cX6_rowsOf 20 = .ok (.iload_n 1, 1) := by decide +kernel
theorem dX6_rowsOf_21 : decode cX6_rowsOf 21 = .ok (.ireturn, 1) := by decide +kernel
set_option maxRecDepth 20000 in
theorem ggX6_share_X6_commonDivisor : GoodIn wsX6_share wsX6_commonDivisor := goodIn_r _ [9] (by decide +kernel) (by decide +kernel)
set_option maxRecDepth 20000 in
theorem gX6_share_X6_commonDivisor : GoodIn wsX6_share (va_wsS RX6 343 yX6_commonDivisor wsX6_commonDivisor) := goodIn_app (goodIn_of _ (by decide +kernel)) ggX6_share_X6_commonDivisor
theorem dX6_share_0 : decode cX6_share 0 = .ok (.lload_n 0, 1) := by decide +kernel
theorem dX6_share_1 : decode cX6_share 1 = .ok (.invokestatic 337, 3) := by decide +kernel
theorem dX6_share_4 : decode cX6_share 4 = .ok (.lload_n 2, 1) := by decide +kernel
theorem dX6_share_5 : decode cX6_share 5 = .ok (.invokestatic 343, 3) := by decide +kernel
theorem dX6_share_8 : decode cX6_share 8 = .ok (.lstore 5, 2) := by decide +kernel
theorem dX6_share_10 : decode cX6_share 10 = .ok (.lload 5, 2) := by decide +kernel
theorem dX6_share_12 : decode cX6_share 12 = .ok (.lconst 1, 1) := by decide +kernel
theorem dX6_share_13 : decode cX6_share 13 = .ok (.lcmp, 1) := by decide +kernel
theorem dX6_share_14 : decode cX6_share 14 = .ok (.ifCond .ge 7, 3) := by decide +kernel
theorem dX6_share_17 : decode cX6_share 17 = .ok (.ldc2_w 156, 3) := by decide +kernel
theorem dX6_share_20 : decode cX6_share 20 = .ok (.lreturn, 1) := by decide +kernel
theorem dX6_share_21 : decode cX6_share 21 = .ok (.iload 4, 2) := by decide +kernel
theorem dX6_share_23 : decode cX6_share 23 = .ok (.ifCond .ne 7, 3) := by decide +kernel
theorem dX6_share_26 : decode cX6_share 26 = .ok (.lload_n 0, 1) := by decide +kernel
theorem dX6_share_27 : decode cX6_share 27 = .ok (.goto 4, 3) := by decide +kernel
theorem dX6_share_30 : decode cX6_share 30 = .ok (.lload_n 2, 1) := by decide +kernel
theorem dX6_share_31 : decode cX6_share 31 = .ok (.lload 5, 2) := by decide +kernel
theorem dX6_share_33 : decode cX6_share 33 = .ok (.ldiv, 1) := by decide +kernel
theorem dX6_share_34 : decode cX6_share 34 = .ok (.lreturn, 1) := by decide +kernel
theorem dX6_commonDivisor_0 : decode cX6_commonDivisor 0 = .ok (.lload_n 0, 1) := by decide +kernel
theorem dX6_commonDivisor_1 : decode cX6_commonDivisor 1 = .ok (.lstore 4, 2) := by decide +kernel
theorem dX6_commonDivisor_3 : decode cX6_commonDivisor 3 = .ok (.lload_n 2, 1) := by decide +kernel
theorem dX6_commonDivisor_4 : decode cX6_commonDivisor 4 = .ok (.lstore 6, 2) := by decide +kernel
theorem dX6_commonDivisor_6 : decode cX6_commonDivisor 6 = .ok (.iconst 0, 1) := by decide +kernel
theorem dX6_commonDivisor_7 : decode cX6_commonDivisor 7 = .ok (.istore 8, 2) := by decide +kernel
theorem dX6_commonDivisor_9 : decode cX6_commonDivisor 9 = .ok (.iload 8, 2) := by decide +kernel
theorem dX6_commonDivisor_11 : decode cX6_commonDivisor 11 = .ok (.sipush 200, 3) := by decide +kernel
theorem dX6_commonDivisor_14 : decode cX6_commonDivisor 14 = .ok (.if_icmp .ge 31, 3) := by decide +kernel
theorem dX6_commonDivisor_17 : decode cX6_commonDivisor 17 = .ok (.lload 6, 2) := by decide +kernel
theorem dX6_commonDivisor_19 : decode cX6_commonDivisor 19 = .ok (.lconst 0, 1) := by decide +kernel
theorem dX6_commonDivisor_20 : decode cX6_commonDivisor 20 = .ok (.lcmp, 1) := by decide +kernel
theorem dX6_commonDivisor_21 : decode cX6_commonDivisor 21 = .ok (.ifCond .eq 24, 3) := by decide +kernel
theorem dX6_commonDivisor_24 : decode cX6_commonDivisor 24 = .ok (.lload 4, 2) := by decide +kernel
theorem dX6_commonDivisor_26 : decode cX6_commonDivisor 26 = .ok (.lload 6, 2) := by decide +kernel
theorem dX6_commonDivisor_28 : decode cX6_commonDivisor 28 = .ok (.lrem, 1) := by decide +kernel
theorem dX6_commonDivisor_29 : decode cX6_commonDivisor 29 = .ok (.lstore 9, 2) := by decide +kernel
theorem dX6_commonDivisor_31 : decode cX6_commonDivisor 31 = .ok (.lload 6, 2) := by decide +kernel
theorem dX6_commonDivisor_33 : decode cX6_commonDivisor 33 = .ok (.lstore 4, 2) := by decide +kernel
theorem dX6_commonDivisor_35 : decode cX6_commonDivisor 35 = .ok (.lload 9, 2) := by decide +kernel
theorem dX6_commonDivisor_37 : decode cX6_commonDivisor 37 = .ok (.lstore 6, 2) := by decide +kernel
theorem dX6_commonDivisor_39 : decode cX6_commonDivisor 39 = .ok (.iinc 8 1, 3) := by decide +kernel
theorem dX6_commonDivisor_42 : decode cX6_commonDivisor 42 = .ok (.goto (-33), 3) := by decide +kernel
theorem dX6_commonDivisor_45 : decode cX6_commonDivisor 45 = .ok (.lload 4, 2) := by decide +kernel
theorem dX6_commonDivisor_47 : decode cX6_commonDivisor 47 = .ok (.lreturn, 1) := by decide +kernel
set_option maxRecDepth 20000 in
theorem ggX6_compareShares_J9_floorDiv_f86c9 : GoodIn wsX6_compareShares wsJ9_floorDiv_f86c9 := goodIn_r _ [4] (by decide +kernel) (by decide +kernel)
set_option maxRecDepth 20000 in
theorem gX6_compareShares_J9_floorDiv_f86c9 : GoodIn wsX6_compareShares (va_wsS RX6 347 yJ9_floorDiv_f86c9 wsJ9_floorDiv_f86c9) := goodIn_app (goodIn_of _ (by decide +kernel)) ggX6_compareShares_J9_floorDiv_f86c9
theorem dX6_compareShares_0 : decode cX6_compareShares 0 = .ok (.lload_n 0, 1) := by decide +kernel
theorem dX6_compareShares_1 : decode cX6_compareShares 1 = .ok (.lstore 8, 2) := by decide +kernel
theorem dX6_compareShares_3 : decode cX6_compareShares 3 = .ok (.lload_n 2, 1) := by decide +kernel
theorem dX6_compareShares_4 : decode cX6_compareShares 4 = .ok (.lstore 10, 2) := by decide +kernel
theorem dX6_compareShares_6 : decode cX6_compareShares 6 = .ok (.lload 4, 2) := by decide +kernel
theorem dX6_compareShares_8 : decode cX6_compareShares 8 = .ok (.lstore 12, 2) := by decide +kernel
theorem dX6_compareShares_10 : decode cX6_compareShares 10 = .ok (.lload 6, 2) := by decide +kernel
theorem dX6_compareShares_12 : decode cX6_compareShares 12 = .ok (.lstore 14, 2) := by decide +kernel
theorem dX6_compareShares_14 : decode cX6_compareShares 14 = .ok (.iconst 0, 1) := by decide +kernel
theorem dX6_compareShares_15 : decode cX6_compareShares 15 = .ok (.istore 16, 2) := by decide +kernel
theorem dX6_compareShares_17 : decode cX6_compareShares 17 = .ok (.iload 16, 2) := by decide +kernel
theorem dX6_compareShares_19 : decode cX6_compareShares 19 = .ok (.sipush 200, 3) := by decide +kernel
theorem dX6_compareShares_22 : decode cX6_compareShares 22 = .ok (.if_icmp .ge 99, 3) := by decide +kernel
theorem dX6_compareShares_25 : decode cX6_compareShares 25 = .ok (.lload 10, 2) := by decide +kernel
theorem dX6_compareShares_27 : decode cX6_compareShares 27 = .ok (.lconst 0, 1) := by decide +kernel
theorem dX6_compareShares_28 : decode cX6_compareShares 28 = .ok (.lcmp, 1) := by decide +kernel
theorem dX6_compareShares_29 : decode cX6_compareShares 29 = .ok (.ifCond .le 92, 3) := by decide +kernel
theorem dX6_compareShares_32 : decode cX6_compareShares 32 = .ok (.lload 14, 2) := by decide +kernel
theorem dX6_compareShares_34 : decode cX6_compareShares 34 = .ok (.lconst 0, 1) := by decide +kernel
theorem dX6_compareShares_35 : decode cX6_compareShares 35 = .ok (.lcmp, 1) := by decide +kernel
theorem dX6_compareShares_36 : decode cX6_compareShares 36 = .ok (.ifCond .le 85, 3) := by decide +kernel
theorem dX6_compareShares_39 : decode cX6_compareShares 39 = .ok (.lload 8, 2) := by decide +kernel
theorem dX6_compareShares_41 : decode cX6_compareShares 41 = .ok (.lload 10, 2) := by decide +kernel
theorem dX6_compareShares_43 : decode cX6_compareShares 43 = .ok (.invokestatic 347, 3) := by decide +kernel
theorem dX6_compareShares_46 : decode cX6_compareShares 46 = .ok (.lstore 17, 2) := by decide +kernel
theorem dX6_compareShares_48 : decode cX6_compareShares 48 = .ok (.lload 12, 2) := by decide +kernel
theorem dX6_compareShares_50 : decode cX6_compareShares 50 = .ok (.lload 14, 2) := by decide +kernel
theorem dX6_compareShares_52 : decode cX6_compareShares 52 = .ok (.invokestatic 347, 3) := by decide +kernel
theorem dX6_compareShares_55 : decode cX6_compareShares 55 = .ok (.lstore 19, 2) := by decide +kernel
theorem dX6_compareShares_57 : decode cX6_compareShares 57 = .ok (.lload 17, 2) := by decide +kernel
theorem dX6_compareShares_59 : decode cX6_compareShares 59 = .ok (.lload 19, 2) := by decide +kernel
theorem dX6_compareShares_61 : decode cX6_compareShares 61 = .ok (.lcmp, 1) := by decide +kernel
theorem dX6_compareShares_62 : decode cX6_compareShares 62 = .ok (.ifCond .eq 17, 3) := by decide +kernel
theorem dX6_compareShares_65 : decode cX6_compareShares 65 = .ok (.lload 17, 2) := by decide +kernel
theorem dX6_compareShares_67 : decode cX6_compareShares 67 = .ok (.lload 19, 2) := by decide +kernel
theorem dX6_compareShares_69 : decode cX6_compareShares 69 = .ok (.lcmp, 1) := by decide +kernel
theorem dX6_compareShares_70 : decode cX6_compareShares 70 = .ok (.ifCond .le 7, 3) := by decide +kernel
theorem dX6_compareShares_73 : decode cX6_compareShares 73 = .ok (.iconst 1, 1) := by decide +kernel
theorem dX6_compareShares_74 : decode cX6_compareShares 74 = .ok (.goto 4, 3) := by decide +kernel
theorem dX6_compareShares_77 : decode cX6_compareShares 77 = .ok (.iconst (-1), 1) := by decide +kernel
theorem dX6_compareShares_78 : decode cX6_compareShares 78 = .ok (.ireturn, 1) := by decide +kernel
theorem dX6_compareShares_79 : decode cX6_compareShares 79 = .ok (.lload 8, 2) := by decide +kernel
theorem dX6_compareShares_81 : decode cX6_compareShares 81 = .ok (.lload 17, 2) := by decide +kernel
theorem dX6_compareShares_83 : decode cX6_compareShares 83 = .ok (.lload 10, 2) := by decide +kernel
theorem dX6_compareShares_85 : decode cX6_compareShares 85 = .ok (.lmul, 1) := by decide +kernel
theorem dX6_compareShares_86 : decode cX6_compareShares 86 = .ok (.lsub, 1) := by decide +kernel
theorem dX6_compareShares_87 : decode cX6_compareShares 87 = .ok (.lstore 21, 2) := by decide +kernel
theorem dX6_compareShares_89 : decode cX6_compareShares 89 = .ok (.lload 12, 2) := by decide +kernel
theorem dX6_compareShares_91 : decode cX6_compareShares 91 = .ok (.lload 19, 2) := by decide +kernel
theorem dX6_compareShares_93 : decode cX6_compareShares 93 = .ok (.lload 14, 2) := by decide +kernel
theorem dX6_compareShares_95 : decode cX6_compareShares 95 = .ok (.lmul, 1) := by decide +kernel
theorem dX6_compareShares_96 : decode cX6_compareShares 96 = .ok (.lsub, 1) := by decide +kernel
theorem dX6_compareShares_97 : decode cX6_compareShares 97 = .ok (.lstore 23, 2) := by decide +kernel
theorem dX6_compareShares_99 : decode cX6_compareShares 99 = .ok (.lload 14, 2) := by decide +kernel
theorem dX6_compareShares_101 : decode cX6_compareShares 101 = .ok (.lstore 8, 2) := by decide +kernel
theorem dX6_compareShares_103 : decode cX6_compareShares 103 = .ok (.lload 10, 2) := by decide +kernel
theorem dX6_compareShares_105 : decode cX6_compareShares 105 = .ok (.lstore 12, 2) := by decide +kernel
theorem dX6_compareShares_107 : decode cX6_compareShares 107 = .ok (.lload 23, 2) := by decide +kernel
theorem dX6_compareShares_109 : decode cX6_compareShares 109 = .ok (.lstore 10, 2) := by decide +kernel
theorem dX6_compareShares_111 : decode cX6_compareShares 111 = .ok (.lload 21, 2) := by decide +kernel
theorem dX6_compareShares_113 : decode cX6_compareShares 113 = .ok (.lstore 14, 2) := by decide +kernel
theorem dX6_compareShares_115 : decode cX6_compareShares 115 = .ok (.iinc 16 1, 3) := by decide +kernel
theorem dX6_compareShares_118 : decode cX6_compareShares 118 = .ok (.goto (-101), 3) := by decide +kernel
theorem dX6_compareShares_121 : decode cX6_compareShares 121 = .ok (.lload 14, 2) := by decide +kernel
theorem dX6_compareShares_123 : decode cX6_compareShares 123 = .ok (.lconst 0, 1) := by decide +kernel
theorem dX6_compareShares_124 : decode cX6_compareShares 124 = .ok (.lcmp, 1) := by decide +kernel
theorem dX6_compareShares_125 : decode cX6_compareShares 125 = .ok (.ifCond .le 7, 3) := by decide +kernel
theorem dX6_compareShares_128 : decode cX6_compareShares 128 = .ok (.iconst 1, 1) := by decide +kernel
theorem dX6_compareShares_129 : decode cX6_compareShares 129 = .ok (.goto 15, 3) := by decide +kernel
theorem dX6_compareShares_132 : decode cX6_compareShares 132 = .ok (.lload 10, 2) := by decide +kernel
theorem dX6_compareShares_134 : decode cX6_compareShares 134 = .ok (.lconst 0, 1) := by decide +kernel
theorem dX6_compareShares_135 : decode cX6_compareShares 135 = .ok (.lcmp, 1) := by decide +kernel
theorem dX6_compareShares_136 : decode cX6_compareShares 136 = .ok (.ifCond .le 7, 3) := by decide +kernel
theorem dX6_compareShares_139 : decode cX6_compareShares 139 = .ok (.iconst (-1), 1) := by decide +kernel
theorem dX6_compareShares_140 : decode cX6_compareShares 140 = .ok (.goto 4, 3) := by decide +kernel
theorem dX6_compareShares_143 : decode cX6_compareShares 143 = .ok (.iconst 0, 1) := by decide +kernel
theorem dX6_compareShares_144 : decode cX6_compareShares 144 = .ok (.ireturn, 1) := by decide +kernel
theorem dX7_init_0 : decode cX7_init 0 = .ok (.aload_n 0, 1) := by decide +kernel
theorem dX7_init_1 : decode cX7_init 1 = .ok (.invokespecial 1, 3) := by decide +kernel
theorem dX7_init_4 : decode cX7_init 4 = .ok (.aload_n 0, 1) := by decide +kernel
theorem dX7_init_5 : decode cX7_init 5 = .ok (.iconst 4, 1) := by decide +kernel
theorem dX7_init_6 : decode cX7_init 6 = .ok (.newarray .int, 2) := by decide +kernel
theorem dX7_init_8 : decode cX7_init 8 = .ok (.dup, 1) := by decide +kernel
theorem dX7_init_9 : decode cX7_init 9 = .ok (.iconst 0, 1) := by decide +kernel
theorem dX7_init_10 : decode cX7_init 10 = .ok (.bipush (-9), 2) := by decide +kernel
theorem dX7_init_12 : decode cX7_init 12 = .ok (.iastore, 1) := by decide +kernel
theorem dX7_init_13 : decode cX7_init 13 = .ok (.dup, 1) := by decide +kernel
theorem dX7_init_14 : decode cX7_init 14 = .ok (.iconst 1, 1) := by decide +kernel
theorem dX7_init_15 : decode cX7_init 15 = .ok (.bipush (-9), 2) := by decide +kernel
theorem dX7_init_17 : decode cX7_init 17 = .ok (.iastore, 1) := by decide +kernel
theorem dX7_init_18 : decode cX7_init 18 = .ok (.dup, 1) := by decide +kernel
theorem dX7_init_19 : decode cX7_init 19 = .ok (.iconst 2, 1) := by decide +kernel
theorem dX7_init_20 : decode cX7_init 20 = .ok (.bipush (-9), 2) := by decide +kernel
theorem dX7_init_22 : decode cX7_init 22 = .ok (.iastore, 1) := by decide +kernel
theorem dX7_init_23 : decode cX7_init 23 = .ok (.dup, 1) := by decide +kernel
theorem dX7_init_24 : decode cX7_init 24 = .ok (.iconst 3, 1) := by decide +kernel
theorem dX7_init_25 : decode cX7_init 25 = .ok (.bipush (-9), 2) := by decide +kernel
theorem dX7_init_27 : decode cX7_init 27 = .ok (.iastore, 1) := by decide +kernel
theorem dX7_init_28 : decode cX7_init 28 = .ok (.putfield 9, 3) := by decide +kernel
theorem dX7_init_31 : decode cX7_init 31 = .ok (.aload_n 0, 1) := by decide +kernel
theorem dX7_init_32 : decode cX7_init 32 = .ok (.iconst 4, 1) := by decide +kernel
theorem dX7_init_33 : decode cX7_init 33 = .ok (.newarray .int, 2) := by decide +kernel
theorem dX7_init_35 : decode cX7_init 35 = .ok (.putfield 13, 3) := by decide +kernel
theorem dX7_init_38 : decode cX7_init 38 = .ok (.aload_n 0, 1) := by decide +kernel
theorem dX7_init_39 : decode cX7_init 39 = .ok (.sipush 240, 3) := by decide +kernel
theorem dX7_init_42 : decode cX7_init 42 = .ok (.newarray .int, 2) := by decide +kernel
theorem dX7_init_44 : decode cX7_init 44 = .ok (.putfield 16, 3) := by decide +kernel
theorem dX7_init_47 : decode cX7_init 47 = .ok (.aload_n 0, 1) := by decide +kernel
theorem dX7_init_48 : decode cX7_init 48 = .ok (.iconst 3, 1) := by decide +kernel
theorem dX7_init_49 : decode cX7_init 49 = .ok (.newarray .int, 2) := by decide +kernel
theorem dX7_init_51 : decode cX7_init 51 = .ok (.putfield 19, 3) := by decide +kernel
theorem dX7_init_54 : decode cX7_init 54 = .ok (.aload_n 0, 1) := by decide +kernel
theorem dX7_init_55 : decode cX7_init 55 = .ok (.iconst 3, 1) := by decide +kernel
theorem dX7_init_56 : decode cX7_init 56 = .ok (.newarray .int, 2) := by decide +kernel
theorem dX7_init_58 : decode cX7_init 58 = .ok (.putfield 22, 3) := by decide +kernel
theorem dX7_init_61 : decode cX7_init 61 = .ok (.aload_n 0, 1) := by decide +kernel
theorem dX7_init_62 : decode cX7_init 62 = .ok (.iconst 3, 1) := by decide +kernel
theorem dX7_init_63 : decode cX7_init 63 = .ok (.newarray .int, 2) := by decide +kernel
theorem dX7_init_65 : decode cX7_init 65 = .ok (.putfield 25, 3) := by decide +kernel
theorem dX7_init_68 : decode cX7_init 68 = .ok (.aload_n 0, 1) := by decide +kernel
theorem dX7_init_69 : decode cX7_init 69 = .ok (.iconst 3, 1) := by decide +kernel
theorem dX7_init_70 : decode cX7_init 70 = .ok (.newarray .int, 2) := by decide +kernel
theorem dX7_init_72 : decode cX7_init 72 = .ok (.putfield 28, 3) := by decide +kernel
theorem dX7_init_75 : decode cX7_init 75 = .ok (.aload_n 0, 1) := by decide +kernel
theorem dX7_init_76 : decode cX7_init 76 = .ok (.iconst 3, 1) := by decide +kernel
theorem dX7_init_77 : decode cX7_init 77 = .ok (.newarray .int, 2) := by decide +kernel
theorem dX7_init_79 : decode cX7_init 79 = .ok (.putfield 31, 3) := by decide +kernel
theorem dX7_init_82 : decode cX7_init 82 = .ok (.aload_n 0, 1) := by decide +kernel
theorem dX7_init_83 : decode cX7_init 83 = .ok (.bipush 8, 2) := by decide +kernel
theorem dX7_init_85 : decode cX7_init 85 = .ok (.newarray .int, 2) := by decide +kernel
theorem dX7_init_87 : decode cX7_init 87 = .ok (.putfield 34, 3) := by decide +kernel
theorem dX7_init_90 : decode cX7_init 90 = .ok (.aload_n 0, 1) := by decide +kernel
theorem dX7_init_91 : decode cX7_init 91 = .ok (.bipush 8, 2) := by decide +kernel
theorem dX7_init_93 : decode cX7_init 93 = .ok (.newarray .long, 2) := by decide +kernel
theorem dX7_init_95 : decode cX7_init 95 = .ok (.putfield 37, 3) := by decide +kernel
theorem dX7_init_98 : decode cX7_init 98 = .ok (.aload_n 0, 1) := by decide +kernel
theorem dX7_init_99 : decode cX7_init 99 = .ok (.bipush 8, 2) := by decide +kernel
theorem dX7_init_101 : decode cX7_init 101 = .ok (.newarray .long, 2) := by decide +kernel
theorem dX7_init_103 : decode cX7_init 103 = .ok (.putfield 41, 3) := by decide +kernel
theorem dX7_init_106 : decode cX7_init 106 = .ok (.aload_n 0, 1) := by decide +kernel
theorem dX7_init_107 : decode cX7_init 107 = .ok (.bipush 8, 2) := by decide +kernel
theorem dX7_init_109 : decode cX7_init 109 = .ok (.newarray .long, 2) := by decide +kernel
theorem dX7_init_111 : decode cX7_init 111 = .ok (.putfield 44, 3) := by decide +kernel
theorem dX7_init_114 : decode cX7_init 114 = .ok (.aload_n 0, 1) := by decide +kernel
theorem dX7_init_115 : decode cX7_init 115 = .ok (.bipush 8, 2) := by decide +kernel
theorem dX7_init_117 : decode cX7_init 117 = .ok (.newarray .long, 2) := by decide +kernel
theorem dX7_init_119 : decode cX7_init 119 = .ok (.putfield 47, 3) := by decide +kernel
theorem dX7_init_122 : decode cX7_init 122 = .ok (.aload_n 0, 1) := by decide +kernel
theorem dX7_init_123 : decode cX7_init 123 = .ok (.bipush 8, 2) := by decide +kernel
theorem dX7_init_125 : decode cX7_init 125 = .ok (.newarray .long, 2) := by decide +kernel
theorem dX7_init_127 : decode cX7_init 127 = .ok (.putfield 50, 3) := by decide +kernel
theorem dX7_init_130 : decode cX7_init 130 = .ok (.aload_n 0, 1) := by decide +kernel
theorem dX7_init_131 : decode cX7_init 131 = .ok (.iconst 3, 1) := by decide +kernel
theorem dX7_init_132 : decode cX7_init 132 = .ok (.newarray .int, 2) := by decide +kernel
theorem dX7_init_134 : decode cX7_init 134 = .ok (.putfield 53, 3) := by decide +kernel
theorem dX7_init_137 : decode cX7_init 137 = .ok (.aload_n 0, 1) := by decide +kernel
theorem dX7_init_138 : decode cX7_init 138 = .ok (.iconst 3, 1) := by decide +kernel
theorem dX7_init_139 : decode cX7_init 139 = .ok (.newarray .int, 2) := by decide +kernel
theorem dX7_init_141 : decode cX7_init 141 = .ok (.putfield 56, 3) := by decide +kernel
theorem dX7_init_144 : decode cX7_init 144 = .ok (.aload_n 0, 1) := by decide +kernel
theorem dX7_init_145 : decode cX7_init 145 = .ok (.bipush 40, 2) := by decide +kernel
theorem dX7_init_147 : decode cX7_init 147 = .ok (.newarray .int, 2) := by decide +kernel
theorem dX7_init_149 : decode cX7_init 149 = .ok (.putfield 59, 3) := by decide +kernel
theorem dX7_init_152 : decode cX7_init 152 = .ok (.aload_n 0, 1) := by decide +kernel
theorem dX7_init_153 : decode cX7_init 153 = .ok (.bipush 40, 2) := by decide +kernel
theorem dX7_init_155 : decode cX7_init 155 = .ok (.newarray .int, 2) := by decide +kernel
theorem dX7_init_157 : decode cX7_init 157 = .ok (.putfield 62, 3) := by decide +kernel
theorem dX7_init_160 : decode cX7_init 160 = .ok (.aload_n 0, 1) := by decide +kernel
theorem dX7_init_161 : decode cX7_init 161 = .ok (.bipush 40, 2) := by decide +kernel
theorem dX7_init_163 : decode cX7_init 163 = .ok (.newarray .int, 2) := by decide +kernel
theorem dX7_init_165 : decode cX7_init 165 = .ok (.putfield 65, 3) := by decide +kernel
theorem dX7_init_168 : decode cX7_init 168 = .ok (.aload_n 0, 1) := by decide +kernel
theorem dX7_init_169 : decode cX7_init 169 = .ok (.bipush 40, 2) := by decide +kernel
theorem dX7_init_171 : decode cX7_init 171 = .ok (.newarray .int, 2) := by decide +kernel
theorem dX7_init_173 : decode cX7_init 173 = .ok (.putfield 68, 3) := by decide +kernel
theorem dX7_init_176 : decode cX7_init 176 = .ok (.aload_n 0, 1) := by decide +kernel
theorem dX7_init_177 : decode cX7_init 177 = .ok (.bipush 40, 2) := by decide +kernel
theorem dX7_init_179 : decode cX7_init 179 = .ok (.newarray .int, 2) := by decide +kernel
theorem dX7_init_181 : decode cX7_init 181 = .ok (.putfield 71, 3) := by decide +kernel
theorem dX7_init_184 : decode cX7_init 184 = .ok (.return_, 1) := by decide +kernel
theorem dX7_fails_0 : decode cX7_fails 0 = .ok (.aload_n 0, 1) := by decide +kernel
theorem dX7_fails_1 : decode cX7_fails 1 = .ok (.iload_n 1, 1) := by decide +kernel
theorem dX7_fails_2 : decode cX7_fails 2 = .ok (.putfield 74, 3) := by decide +kernel
theorem dX7_fails_5 : decode cX7_fails 5 = .ok (.bipush (-10), 2) := by decide +kernel
theorem dX7_fails_7 : decode cX7_fails 7 = .ok (.iload_n 1, 1) := by decide +kernel
theorem dX7_fails_8 : decode cX7_fails 8 = .ok (.isub, 1) := by decide +kernel
theorem dX7_fails_9 : decode cX7_fails 9 = .ok (.ireturn, 1) := by decide +kernel
theorem dX7_lost_0 : decode cX7_lost 0 = .ok (.aload_n 0, 1) := by decide +kernel
theorem dX7_lost_1 : decode cX7_lost 1 = .ok (.iload_n 1, 1) := by decide +kernel
theorem dX7_lost_2 : decode cX7_lost 2 = .ok (.putfield 74, 3) := by decide +kernel
theorem dX7_lost_5 : decode cX7_lost 5 = .ok (.ldc2_w 78, 3) := by decide +kernel
theorem dX7_lost_8 : decode cX7_lost 8 = .ok (.lreturn, 1) := by decide +kernel
theorem dX7_within_0 : decode cX7_within 0 = .ok (.iload_n 0, 1) := by decide +kernel
theorem dX7_within_1 : decode cX7_within 1 = .ok (.iload_n 1, 1) := by decide +kernel
theorem dX7_within_2 : decode cX7_within 2 = .ok (.if_icmp .lt 12, 3) := by decide +kernel
theorem dX7_within_5 : decode cX7_within 5 = .ok (.iload_n 0, 1) := by decide +kernel
theorem dX7_within_6 : decode cX7_within 6 = .ok (.iload_n 2, 1) := by decide +kernel
theorem dX7_within_7 : decode cX7_within 7 = .ok (.if_icmp .gt 7, 3) := by decide +kernel
theorem dX7_within_10 : decode cX7_within 10 = .ok (.iconst 1, 1) := by decide +kernel
theorem dX7_within_11 : decode cX7_within 11 = .ok (.goto 4, 3) := by decide +kernel
theorem dX7_within_14 : decode cX7_within 14 = .ok (.iconst 0, 1) := by decide +kernel
theorem dX7_within_15 : decode cX7_within 15 = .ok (.ireturn, 1) := by decide +kernel
theorem dX7_common_0 : decode cX7_common 0 = .ok (.lload_n 0, 1) := by decide +kernel
theorem dX7_common_1 : decode cX7_common 1 = .ok (.lconst 0, 1) := by decide +kernel
theorem dX7_common_2 : decode cX7_common 2 = .ok (.lcmp, 1) := by decide +kernel
theorem dX7_common_3 : decode cX7_common 3 = .ok (.ifCond .ge 8, 3) := by decide +kernel
theorem dX7_common_6 : decode cX7_common 6 = .ok (.lload_n 0, 1) := by decide +kernel
theorem dX7_common_7 : decode cX7_common 7 = .ok (.lneg, 1) := by decide +kernel
theorem dX7_common_8 : decode cX7_common 8 = .ok (.goto 4, 3) := by decide +kernel
theorem dX7_common_11 : decode cX7_common 11 = .ok (.lload_n 0, 1) := by decide +kernel
theorem dX7_common_12 : decode cX7_common 12 = .ok (.lstore 4, 2) := by decide +kernel
theorem dX7_common_14 : decode cX7_common 14 = .ok (.lload_n 2, 1) := by decide +kernel
theorem dX7_common_15 : decode cX7_common 15 = .ok (.lconst 0, 1) := by decide +kernel
theorem dX7_common_16 : decode cX7_common 16 = .ok (.lcmp, 1) := by decide +kernel
theorem dX7_common_17 : decode cX7_common 17 = .ok (.ifCond .ge 8, 3) := by decide +kernel
theorem dX7_common_20 : decode cX7_common 20 = .ok (.lload_n 2, 1) := by decide +kernel
theorem dX7_common_21 : decode cX7_common 21 = .ok (.lneg, 1) := by decide +kernel
theorem dX7_common_22 : decode cX7_common 22 = .ok (.goto 4, 3) := by decide +kernel
theorem dX7_common_25 : decode cX7_common 25 = .ok (.lload_n 2, 1) := by decide +kernel
theorem dX7_common_26 : decode cX7_common 26 = .ok (.lstore 6, 2) := by decide +kernel
theorem dX7_common_28 : decode cX7_common 28 = .ok (.lload 6, 2) := by decide +kernel
theorem dX7_common_30 : decode cX7_common 30 = .ok (.lconst 0, 1) := by decide +kernel
theorem dX7_common_31 : decode cX7_common 31 = .ok (.lcmp, 1) := by decide +kernel
theorem dX7_common_32 : decode cX7_common 32 = .ok (.ifCond .eq 21, 3) := by decide +kernel
theorem dX7_common_35 : decode cX7_common 35 = .ok (.lload 4, 2) := by decide +kernel
theorem dX7_common_37 : decode cX7_common 37 = .ok (.lload 6, 2) := by decide +kernel
theorem dX7_common_39 : decode cX7_common 39 = .ok (.lrem, 1) := by decide +kernel
theorem dX7_common_40 : decode cX7_common 40 = .ok (.lstore 8, 2) := by decide +kernel
theorem dX7_common_42 : decode cX7_common 42 = .ok (.lload 6, 2) := by decide +kernel
theorem dX7_common_44 : decode cX7_common 44 = .ok (.lstore 4, 2) := by decide +kernel
theorem dX7_common_46 : decode cX7_common 46 = .ok (.lload 8, 2) := by decide +kernel
theorem dX7_common_48 : decode cX7_common 48 = .ok (.lstore 6, 2) := by decide +kernel
theorem dX7_common_50 : decode cX7_common 50 = .ok (.goto (-22), 3) := by decide +kernel
theorem dX7_common_53 : decode cX7_common 53 = .ok (.lload 4, 2) := by decide +kernel
theorem dX7_common_55 : decode cX7_common 55 = .ok (.lreturn, 1) := by decide +kernel
set_option maxRecDepth 20000 in
theorem ggX7_share_X7_common : GoodIn wsX7_share wsX7_common := goodIn_r _ [6] (by decide +kernel) (by decide +kernel)
set_option maxRecDepth 20000 in
theorem gX7_share_X7_common : GoodIn wsX7_share (va_wsS RX7 80 yX7_common wsX7_common) := goodIn_app (goodIn_of _ (by decide +kernel)) ggX7_share_X7_common
theorem dX7_share_0 : decode cX7_share 0 = .ok (.lload_n 1, 1) := by decide +kernel
theorem dX7_share_1 : decode cX7_share 1 = .ok (.lload_n 3, 1) := by decide +kernel
theorem dX7_share_2 : decode cX7_share 2 = .ok (.invokestatic 80, 3) := by decide +kernel
theorem dX7_share_5 : decode cX7_share 5 = .ok (.lstore 5, 2) := by decide +kernel
theorem dX7_share_7 : decode cX7_share 7 = .ok (.aload_n 0, 1) := by decide +kernel
theorem dX7_share_8 : decode cX7_share 8 = .ok (.lload_n 1, 1) := by decide +kernel
theorem dX7_share_9 : decode cX7_share 9 = .ok (.lload 5, 2) := by decide +kernel
theorem dX7_share_11 : decode cX7_share 11 = .ok (.ldiv, 1) := by decide +kernel
theorem dX7_share_12 : decode cX7_share 12 = .ok (.putfield 84, 3) := by decide +kernel
theorem dX7_share_15 : decode cX7_share 15 = .ok (.aload_n 0, 1) := by decide +kernel
theorem dX7_share_16 : decode cX7_share 16 = .ok (.lload_n 3, 1) := by decide +kernel
theorem dX7_share_17 : decode cX7_share 17 = .ok (.lload 5, 2) := by decide +kernel
theorem dX7_share_19 : decode cX7_share 19 = .ok (.ldiv, 1) := by decide +kernel
theorem dX7_share_20 : decode cX7_share 20 = .ok (.putfield 88, 3) := by decide +kernel
theorem dX7_share_23 : decode cX7_share 23 = .ok (.return_, 1) := by decide +kernel
theorem dX7_told_0 : decode cX7_told 0 = .ok (.iload_n 1, 1) := by decide +kernel
theorem dX7_told_1 : decode cX7_told 1 = .ok (.ifCond .ne 10, 3) := by decide +kernel
theorem dX7_told_4 : decode cX7_told 4 = .ok (.aload_n 0, 1) := by decide +kernel
theorem dX7_told_5 : decode cX7_told 5 = .ok (.getfield 84, 3) := by decide +kernel
theorem dX7_told_8 : decode cX7_told 8 = .ok (.goto 7, 3) := by decide +kernel
theorem dX7_told_11 : decode cX7_told 11 = .ok (.aload_n 0, 1) := by decide +kernel
theorem dX7_told_12 : decode cX7_told 12 = .ok (.getfield 88, 3) := by decide +kernel
theorem dX7_told_15 : decode cX7_told 15 = .ok (.lreturn, 1) := by decide +kernel
theorem dX7_isWhich_0 : decode cX7_isWhich 0 = .ok (.iload_n 0, 1) := by decide +kernel
theorem dX7_isWhich_1 : decode cX7_isWhich 1 = .ok (.ifCond .eq 8, 3) := by decide +kernel
theorem dX7_isWhich_4 : decode cX7_isWhich 4 = .ok (.iload_n 0, 1) := by decide +kernel
theorem dX7_isWhich_5 : decode cX7_isWhich 5 = .ok (.iconst 1, 1) := by decide +kernel
theorem dX7_isWhich_6 : decode cX7_isWhich 6 = .ok (.if_icmp .ne 7, 3) := by decide +kernel
theorem dX7_isWhich_9 : decode cX7_isWhich 9 = .ok (.iconst 1, 1) := by decide +kernel
theorem dX7_isWhich_10 : decode cX7_isWhich 10 = .ok (.goto 4, 3) := by decide +kernel
theorem dX7_isWhich_13 : decode cX7_isWhich 13 = .ok (.iconst 0, 1) := by decide +kernel
theorem dX7_isWhich_14 : decode cX7_isWhich 14 = .ok (.ireturn, 1) := by decide +kernel
set_option maxRecDepth 20000 in
theorem ggX7_compare_X7_whole : GoodIn wsX7_compare wsX7_whole := goodIn_r _ [4] (by decide +kernel) (by decide +kernel)
set_option maxRecDepth 20000 in
theorem gX7_compare_X7_whole : GoodIn wsX7_compare (va_wsS RX7 91 yX7_whole wsX7_whole) := goodIn_app (goodIn_of _ (by decide +kernel)) ggX7_compare_X7_whole
theorem dX7_compare_0 : decode cX7_compare 0 = .ok (.lload_n 0, 1) := by decide +kernel
theorem dX7_compare_1 : decode cX7_compare 1 = .ok (.lstore 8, 2) := by decide +kernel
theorem dX7_compare_3 : decode cX7_compare 3 = .ok (.lload_n 2, 1) := by decide +kernel
theorem dX7_compare_4 : decode cX7_compare 4 = .ok (.lstore 10, 2) := by decide +kernel
theorem dX7_compare_6 : decode cX7_compare 6 = .ok (.lload 4, 2) := by decide +kernel
theorem dX7_compare_8 : decode cX7_compare 8 = .ok (.lstore 12, 2) := by decide +kernel
theorem dX7_compare_10 : decode cX7_compare 10 = .ok (.lload 6, 2) := by decide +kernel
theorem dX7_compare_12 : decode cX7_compare 12 = .ok (.lstore 14, 2) := by decide +kernel
theorem dX7_compare_14 : decode cX7_compare 14 = .ok (.iconst 1, 1) := by decide +kernel
theorem dX7_compare_15 : decode cX7_compare 15 = .ok (.istore 16, 2) := by decide +kernel
theorem dX7_compare_17 : decode cX7_compare 17 = .ok (.lload 8, 2) := by decide +kernel
theorem dX7_compare_19 : decode cX7_compare 19 = .ok (.lload 10, 2) := by decide +kernel
theorem dX7_compare_21 : decode cX7_compare 21 = .ok (.invokestatic 91, 3) := by decide +kernel
theorem dX7_compare_24 : decode cX7_compare 24 = .ok (.lstore 17, 2) := by decide +kernel
theorem dX7_compare_26 : decode cX7_compare 26 = .ok (.lload 12, 2) := by decide +kernel
theorem dX7_compare_28 : decode cX7_compare 28 = .ok (.lload 14, 2) := by decide +kernel
theorem dX7_compare_30 : decode cX7_compare 30 = .ok (.invokestatic 91, 3) := by decide +kernel
theorem dX7_compare_33 : decode cX7_compare 33 = .ok (.lstore 19, 2) := by decide +kernel
theorem dX7_compare_35 : decode cX7_compare 35 = .ok (.lload 17, 2) := by decide +kernel
theorem dX7_compare_37 : decode cX7_compare 37 = .ok (.lload 19, 2) := by decide +kernel
theorem dX7_compare_39 : decode cX7_compare 39 = .ok (.lcmp, 1) := by decide +kernel
theorem dX7_compare_40 : decode cX7_compare 40 = .ok (.ifCond .eq 20, 3) := by decide +kernel
theorem dX7_compare_43 : decode cX7_compare 43 = .ok (.lload 17, 2) := by decide +kernel
theorem dX7_compare_45 : decode cX7_compare 45 = .ok (.lload 19, 2) := by decide +kernel
theorem dX7_compare_47 : decode cX7_compare 47 = .ok (.lcmp, 1) := by decide +kernel
theorem dX7_compare_48 : decode cX7_compare 48 = .ok (.ifCond .le 8, 3) := by decide +kernel
theorem dX7_compare_51 : decode cX7_compare 51 = .ok (.iload 16, 2) := by decide +kernel
theorem dX7_compare_53 : decode cX7_compare 53 = .ok (.goto 6, 3) := by decide +kernel
theorem dX7_compare_56 : decode cX7_compare 56 = .ok (.iload 16, 2) := by decide +kernel
theorem dX7_compare_58 : decode cX7_compare 58 = .ok (.ineg, 1) := by decide +kernel
theorem dX7_compare_59 : decode cX7_compare 59 = .ok (.ireturn, 1) := by decide +kernel
theorem dX7_compare_60 : decode cX7_compare 60 = .ok (.lload 8, 2) := by decide +kernel
theorem dX7_compare_62 : decode cX7_compare 62 = .ok (.lload 17, 2) := by decide +kernel
theorem dX7_compare_64 : decode cX7_compare 64 = .ok (.lload 10, 2) := by decide +kernel
theorem dX7_compare_66 : decode cX7_compare 66 = .ok (.lmul, 1) := by decide +kernel
theorem dX7_compare_67 : decode cX7_compare 67 = .ok (.lsub, 1) := by decide +kernel
theorem dX7_compare_68 : decode cX7_compare 68 = .ok (.lstore 8, 2) := by decide +kernel
theorem dX7_compare_70 : decode cX7_compare 70 = .ok (.lload 12, 2) := by decide +kernel
theorem dX7_compare_72 : decode cX7_compare 72 = .ok (.lload 19, 2) := by decide +kernel
theorem dX7_compare_74 : decode cX7_compare 74 = .ok (.lload 14, 2) := by decide +kernel
theorem dX7_compare_76 : decode cX7_compare 76 = .ok (.lmul, 1) := by decide +kernel
theorem dX7_compare_77 : decode cX7_compare 77 = .ok (.lsub, 1) := by decide +kernel
theorem dX7_compare_78 : decode cX7_compare 78 = .ok (.lstore 12, 2) := by decide +kernel
theorem dX7_compare_80 : decode cX7_compare 80 = .ok (.lload 8, 2) := by decide +kernel
theorem dX7_compare_82 : decode cX7_compare 82 = .ok (.lconst 0, 1) := by decide +kernel
theorem dX7_compare_83 : decode cX7_compare 83 = .ok (.lcmp, 1) := by decide +kernel
theorem dX7_compare_84 : decode cX7_compare 84 = .ok (.ifCond .eq 10, 3) := by decide +kernel
theorem dX7_compare_87 : decode cX7_compare 87 = .ok (.lload 12, 2) := by decide +kernel
theorem dX7_compare_89 : decode cX7_compare 89 = .ok (.lconst 0, 1) := by decide +kernel
theorem dX7_compare_90 : decode cX7_compare 90 = .ok (.lcmp, 1) := by decide +kernel
theorem dX7_compare_91 : decode cX7_compare 91 = .ok (.ifCond .ne 31, 3) := by decide +kernel
theorem dX7_compare_94 : decode cX7_compare 94 = .ok (.lload 8, 2) := by decide +kernel
theorem dX7_compare_96 : decode cX7_compare 96 = .ok (.lload 12, 2) := by decide +kernel
theorem dX7_compare_98 : decode cX7_compare 98 = .ok (.lcmp, 1) := by decide +kernel
theorem dX7_compare_99 : decode cX7_compare 99 = .ok (.ifCond .ne 7, 3) := by decide +kernel
theorem dX7_compare_102 : decode cX7_compare 102 = .ok (.iconst 0, 1) := by decide +kernel
theorem dX7_compare_103 : decode cX7_compare 103 = .ok (.goto 18, 3) := by decide +kernel
theorem dX7_compare_106 : decode cX7_compare 106 = .ok (.lload 8, 2) := by decide +kernel
theorem dX7_compare_108 : decode cX7_compare 108 = .ok (.lconst 0, 1) := by decide +kernel
theorem dX7_compare_109 : decode cX7_compare 109 = .ok (.lcmp, 1) := by decide +kernel
theorem dX7_compare_110 : decode cX7_compare 110 = .ok (.ifCond .ne 9, 3) := by decide +kernel
theorem dX7_compare_113 : decode cX7_compare 113 = .ok (.iload 16, 2) := by decide +kernel
theorem dX7_compare_115 : decode cX7_compare 115 = .ok (.ineg, 1) := by decide +kernel
theorem dX7_compare_116 : decode cX7_compare 116 = .ok (.goto 5, 3) := by decide +kernel
theorem dX7_compare_119 : decode cX7_compare 119 = .ok (.iload 16, 2) := by decide +kernel
theorem dX7_compare_121 : decode cX7_compare 121 = .ok (.ireturn, 1) := by decide +kernel
theorem dX7_compare_122 : decode cX7_compare 122 = .ok (.lload 8, 2) := by decide +kernel
theorem dX7_compare_124 : decode cX7_compare 124 = .ok (.lstore 21, 2) := by decide +kernel
theorem dX7_compare_126 : decode cX7_compare 126 = .ok (.lload 10, 2) := by decide +kernel
theorem dX7_compare_128 : decode cX7_compare 128 = .ok (.lstore 8, 2) := by decide +kernel
theorem dX7_compare_130 : decode cX7_compare 130 = .ok (.lload 21, 2) := by decide +kernel
theorem dX7_compare_132 : decode cX7_compare 132 = .ok (.lstore 10, 2) := by decide +kernel
theorem dX7_compare_134 : decode cX7_compare 134 = .ok (.lload 12, 2) := by decide +kernel
theorem dX7_compare_136 : decode cX7_compare 136 = .ok (.lstore 21, 2) := by decide +kernel
theorem dX7_compare_138 : decode cX7_compare 138 = .ok (.lload 14, 2) := by decide +kernel
theorem dX7_compare_140 : decode cX7_compare 140 = .ok (.lstore 12, 2) := by decide +kernel
theorem dX7_compare_142 : decode cX7_compare 142 = .ok (.lload 21, 2) := by decide +kernel
theorem dX7_compare_144 : decode cX7_compare 144 = .ok (.lstore 14, 2) := by decide +kernel
theorem dX7_compare_146 : decode cX7_compare 146 = .ok (.iload 16, 2) := by decide +kernel
theorem dX7_compare_148 : decode cX7_compare 148 = .ok (.ineg, 1) := by decide +kernel
theorem dX7_compare_149 : decode cX7_compare 149 = .ok (.istore 16, 2) := by decide +kernel
theorem dX7_compare_151 : decode cX7_compare 151 = .ok (.goto (-134), 3) := by decide +kernel
theorem dX7_whole_0 : decode cX7_whole 0 = .ok (.lload_n 0, 1) := by decide +kernel
theorem dX7_whole_1 : decode cX7_whole 1 = .ok (.lload_n 2, 1) := by decide +kernel
theorem dX7_whole_2 : decode cX7_whole 2 = .ok (.ldiv, 1) := by decide +kernel
theorem dX7_whole_3 : decode cX7_whole 3 = .ok (.lstore 4, 2) := by decide +kernel
theorem dX7_whole_5 : decode cX7_whole 5 = .ok (.lload_n 0, 1) := by decide +kernel
theorem dX7_whole_6 : decode cX7_whole 6 = .ok (.lload_n 2, 1) := by decide +kernel
theorem dX7_whole_7 : decode cX7_whole 7 = .ok (.lrem, 1) := by decide +kernel
theorem dX7_whole_8 : decode cX7_whole 8 = .ok (.lconst 0, 1) := by decide +kernel
theorem dX7_whole_9 : decode cX7_whole 9 = .ok (.lcmp, 1) := by decide +kernel
theorem dX7_whole_10 : decode cX7_whole 10 = .ok (.ifCond .ge 10, 3) := by decide +kernel
theorem dX7_whole_13 : decode cX7_whole 13 = .ok (.lload 4, 2) := by decide +kernel
theorem dX7_whole_15 : decode cX7_whole 15 = .ok (.lconst 1, 1) := by decide +kernel
theorem dX7_whole_16 : decode cX7_whole 16 = .ok (.lsub, 1) := by decide +kernel
theorem dX7_whole_17 : decode cX7_whole 17 = .ok (.goto 5, 3) := by decide +kernel
theorem dX7_whole_20 : decode cX7_whole 20 = .ok (.lload 4, 2) := by decide +kernel
theorem dX7_whole_22 : decode cX7_whole 22 = .ok (.lreturn, 1) := by decide +kernel
set_option maxRecDepth 20000 in
theorem ggX7_isSheet_X7_within : GoodIn wsX7_isSheet wsX7_within := goodIn_r _ [4] (by decide +kernel) (by decide +kernel)
set_option maxRecDepth 20000 in
theorem gX7_isSheet_X7_within : GoodIn wsX7_isSheet (va_wsS RX7 94 yX7_within wsX7_within) := goodIn_app (goodIn_of _ (by decide +kernel)) ggX7_isSheet_X7_within
theorem dX7_isSheet_0 : decode cX7_isSheet 0 = .ok (.iload_n 0, 1) := by decide +kernel
theorem dX7_isSheet_1 : decode cX7_isSheet 1 = .ok (.iconst 0, 1) := by decide +kernel
theorem dX7_isSheet_2 : decode cX7_isSheet 2 = .ok (.iconst 3, 1) := by decide +kernel
theorem dX7_isSheet_3 : decode cX7_isSheet 3 = .ok (.invokestatic 94, 3) := by decide +kernel
theorem dX7_isSheet_6 : decode cX7_isSheet 6 = .ok (.ireturn, 1) := by decide +kernel
set_option maxRecDepth 20000 in
theorem ggX7_isLane_X7_within : GoodIn wsX7_isLane wsX7_within := goodIn_r _ [4] (by decide +kernel) (by decide +kernel)
set_option maxRecDepth 20000 in
theorem gX7_isLane_X7_within : GoodIn wsX7_isLane (va_wsS RX7 94 yX7_within wsX7_within) := goodIn_app (goodIn_of _ (by decide +kernel)) ggX7_isLane_X7_within
theorem dX7_isLane_0 : decode cX7_isLane 0 = .ok (.iload_n 0, 1) := by decide +kernel
theorem dX7_isLane_1 : decode cX7_isLane 1 = .ok (.iconst 0, 1) := by decide +kernel
theorem dX7_isLane_2 : decode cX7_isLane 2 = .ok (.iconst 2, 1) := by decide +kernel
theorem dX7_isLane_3 : decode cX7_isLane 3 = .ok (.invokestatic 94, 3) := by decide +kernel
theorem dX7_isLane_6 : decode cX7_isLane 6 = .ok (.ireturn, 1) := by decide +kernel
theorem dX7_codeAt_0 : decode cX7_codeAt 0 = .ok (.aload_n 0, 1) := by decide +kernel
theorem dX7_codeAt_1 : decode cX7_codeAt 1 = .ok (.getfield 98, 3) := by decide +kernel
theorem dX7_codeAt_4 : decode cX7_codeAt 4 = .ok (.aload_n 0, 1) := by decide +kernel
theorem dX7_codeAt_5 : decode cX7_codeAt 5 = .ok (.getfield 101, 3) := by decide +kernel
theorem dX7_codeAt_8 : decode cX7_codeAt 8 = .ok (.if_icmp .ge 15, 3) := by decide +kernel
theorem dX7_codeAt_11 : decode cX7_codeAt 11 = .ok (.aload_n 0, 1) := by decide +kernel
theorem dX7_codeAt_12 : decode cX7_codeAt 12 = .ok (.getfield 16, 3) := by decide +kernel
theorem dX7_codeAt_15 : decode cX7_codeAt 15 = .ok (.aload_n 0, 1) := by decide +kernel
theorem dX7_codeAt_16 : decode cX7_codeAt 16 = .ok (.getfield 98, 3) := by decide +kernel
theorem dX7_codeAt_19 : decode cX7_codeAt 19 = .ok (.iaload, 1) := by decide +kernel
theorem dX7_codeAt_20 : decode cX7_codeAt 20 = .ok (.goto 5, 3) := by decide +kernel
theorem dX7_codeAt_23 : decode cX7_codeAt 23 = .ok (.bipush (-9), 2) := by decide +kernel
theorem dX7_codeAt_25 : decode cX7_codeAt 25 = .ok (.ireturn, 1) := by decide +kernel
set_option maxRecDepth 20000 in
theorem ggX7_readsLetter_X7_codeAt : GoodIn wsX7_readsLetter wsX7_codeAt := goodIn_r _ [6, 1, 7, 8, 9, 10, 11, 12, 13, 14, 15, 16, 17, 18, 19, 20, 21, 22, 23, 24, 25, 26, 27, 28, 29, 30, 31, 32, 33, 34, 35, 36, 37, 38, 39, 40, 41, 42, 43, 44, 45, 46, 47, 48] (by decide +kernel) (by decide +kernel)
set_option maxRecDepth 20000 in
theorem gX7_readsLetter_X7_codeAt : GoodIn wsX7_readsLetter (wsV RX7 104 RX7 yX7_codeAt wsX7_codeAt) := goodIn_app (goodIn_of _ (by decide +kernel)) ggX7_readsLetter_X7_codeAt
theorem dX7_readsLetter_0 : decode cX7_readsLetter 0 = .ok (.aload_n 0, 1) := by decide +kernel
theorem dX7_readsLetter_1 : decode cX7_readsLetter 1 = .ok (.invokevirtual 104, 3) := by decide +kernel
theorem dX7_readsLetter_4 : decode cX7_readsLetter 4 = .ok (.iload_n 1, 1) := by decide +kernel
theorem dX7_readsLetter_5 : decode cX7_readsLetter 5 = .ok (.if_icmp .eq 5, 3) := by decide +kernel
theorem dX7_readsLetter_8 : decode cX7_readsLetter 8 = .ok (.iconst 0, 1) := by decide +kernel
theorem dX7_readsLetter_9 : decode cX7_readsLetter 9 = .ok (.ireturn, 1) := by decide +kernel
theorem dX7_readsLetter_10 : decode cX7_readsLetter 10 = .ok (.aload_n 0, 1) := by decide +kernel
theorem dX7_readsLetter_11 : decode cX7_readsLetter 11 = .ok (.dup, 1) := by decide +kernel
theorem dX7_readsLetter_12 : decode cX7_readsLetter 12 = .ok (.getfield 98, 3) := by decide +kernel
theorem dX7_readsLetter_15 : decode cX7_readsLetter 15 = .ok (.iconst 1, 1) := by decide +kernel
theorem dX7_readsLetter_16 : decode cX7_readsLetter 16 = .ok (.iadd, 1) := by decide +kernel
theorem dX7_readsLetter_17 : decode cX7_readsLetter 17 = .ok (.putfield 98, 3) := by decide +kernel
theorem dX7_readsLetter_20 : decode cX7_readsLetter 20 = .ok (.iconst 1, 1) := by decide +kernel
theorem dX7_readsLetter_21 : decode cX7_readsLetter 21 = .ok (.ireturn, 1) := by decide +kernel
set_option maxRecDepth 20000 in
theorem ggX7_readsNumber_X7_codeAt : GoodIn wsX7_readsNumber wsX7_codeAt := goodIn_r _ [6, 1, 7, 8, 12, 13, 14, 15, 16, 17, 18, 19, 20, 21, 22, 23, 24, 25, 26, 27, 28, 29, 30, 31, 32, 33, 34, 35, 36, 37, 38, 39, 40, 41, 42, 43, 44, 45, 46, 47, 48, 49, 50, 51] (by decide +kernel) (by decide +kernel)
set_option maxRecDepth 20000 in
theorem gX7_readsNumber_X7_codeAt : GoodIn wsX7_readsNumber (wsV RX7 104 RX7 yX7_codeAt wsX7_codeAt) := goodIn_app (goodIn_of _ (by decide +kernel)) ggX7_readsNumber_X7_codeAt
set_option maxRecDepth 20000 in
theorem ggX7_readsNumber_X7_within : GoodIn wsX7_readsNumber wsX7_within := goodIn_r _ [11] (by decide +kernel) (by decide +kernel)
set_option maxRecDepth 20000 in
theorem gX7_readsNumber_X7_within : GoodIn wsX7_readsNumber (va_wsS RX7 94 yX7_within wsX7_within) := goodIn_app (goodIn_of _ (by decide +kernel)) ggX7_readsNumber_X7_within
theorem dX7_readsNumber_0 : decode cX7_readsNumber 0 = .ok (.aload_n 0, 1) := by decide +kernel
theorem dX7_readsNumber_1 : decode cX7_readsNumber 1 = .ok (.getfield 98, 3) := by decide +kernel
theorem dX7_readsNumber_4 : decode cX7_readsNumber 4 = .ok (.istore_n 3, 1) := by decide +kernel
theorem dX7_readsNumber_5 : decode cX7_readsNumber 5 = .ok (.iconst 0, 1) := by decide +kernel
theorem dX7_readsNumber_6 : decode cX7_readsNumber 6 = .ok (.istore 4, 2) := by decide +kernel
theorem dX7_readsNumber_8 : decode cX7_readsNumber 8 = .ok (.aload_n 0, 1) := by decide +kernel
theorem dX7_readsNumber_9 : decode cX7_readsNumber 9 = .ok (.getfield 98, 3) := by decide +kernel
theorem dX7_readsNumber_12 : decode cX7_readsNumber 12 = .ok (.iload_n 3, 1) := by decide +kernel
theorem dX7_readsNumber_13 : decode cX7_readsNumber 13 = .ok (.iconst 3, 1) := by decide +kernel
theorem dX7_readsNumber_14 : decode cX7_readsNumber 14 = .ok (.iadd, 1) := by decide +kernel
theorem dX7_readsNumber_15 : decode cX7_readsNumber 15 = .ok (.if_icmp .ge 45, 3) := by decide +kernel
theorem dX7_readsNumber_18 : decode cX7_readsNumber 18 = .ok (.aload_n 0, 1) := by decide +kernel
theorem dX7_readsNumber_19 : decode cX7_readsNumber 19 = .ok (.invokevirtual 104, 3) := by decide +kernel
theorem dX7_readsNumber_22 : decode cX7_readsNumber 22 = .ok (.bipush 48, 2) := by decide +kernel
theorem dX7_readsNumber_24 : decode cX7_readsNumber 24 = .ok (.bipush 57, 2) := by decide +kernel
theorem dX7_readsNumber_26 : decode cX7_readsNumber 26 = .ok (.invokestatic 94, 3) := by decide +kernel
theorem dX7_readsNumber_29 : decode cX7_readsNumber 29 = .ok (.ifCond .eq 31, 3) := by decide +kernel
theorem dX7_readsNumber_32 : decode cX7_readsNumber 32 = .ok (.bipush 10, 2) := by decide +kernel
theorem dX7_readsNumber_34 : decode cX7_readsNumber 34 = .ok (.iload 4, 2) := by decide +kernel
theorem dX7_readsNumber_36 : decode cX7_readsNumber 36 = .ok (.imul, 1) := by decide +kernel
theorem dX7_readsNumber_37 : decode cX7_readsNumber 37 = .ok (.aload_n 0, 1) := by decide +kernel
theorem dX7_readsNumber_38 : decode cX7_readsNumber 38 = .ok (.invokevirtual 104, 3) := by decide +kernel
theorem dX7_readsNumber_41 : decode cX7_readsNumber 41 = .ok (.iadd, 1) := by decide +kernel
theorem dX7_readsNumber_42 : decode cX7_readsNumber 42 = .ok (.bipush 48, 2) := by decide +kernel
theorem dX7_readsNumber_44 : decode cX7_readsNumber 44 = .ok (.isub, 1) := by decide +kernel
theorem dX7_readsNumber_45 : decode cX7_readsNumber 45 = .ok (.istore 4, 2) := by decide +kernel
theorem dX7_readsNumber_47 : decode cX7_readsNumber 47 = .ok (.aload_n 0, 1) := by decide +kernel
theorem dX7_readsNumber_48 : decode cX7_readsNumber 48 = .ok (.dup, 1) := by decide +kernel
theorem dX7_readsNumber_49 : decode cX7_readsNumber 49 = .ok (.getfield 98, 3) := by decide +kernel
theorem dX7_readsNumber_52 : decode cX7_readsNumber 52 = .ok (.iconst 1, 1) := by decide +kernel
theorem dX7_readsNumber_53 : decode cX7_readsNumber 53 = .ok (.iadd, 1) := by decide +kernel
theorem dX7_readsNumber_54 : decode cX7_readsNumber 54 = .ok (.putfield 98, 3) := by decide +kernel
theorem dX7_readsNumber_57 : decode cX7_readsNumber 57 = .ok (.goto (-49), 3) := by decide +kernel
theorem dX7_readsNumber_60 : decode cX7_readsNumber 60 = .ok (.aload_n 0, 1) := by decide +kernel
theorem dX7_readsNumber_61 : decode cX7_readsNumber 61 = .ok (.getfield 98, 3) := by decide +kernel
theorem dX7_readsNumber_64 : decode cX7_readsNumber 64 = .ok (.iload_n 3, 1) := by decide +kernel
theorem dX7_readsNumber_65 : decode cX7_readsNumber 65 = .ok (.if_icmp .eq 13, 3) := by decide +kernel
theorem dX7_readsNumber_68 : decode cX7_readsNumber 68 = .ok (.iload 4, 2) := by decide +kernel
theorem dX7_readsNumber_70 : decode cX7_readsNumber 70 = .ok (.iload_n 1, 1) := by decide +kernel
theorem dX7_readsNumber_71 : decode cX7_readsNumber 71 = .ok (.iload_n 2, 1) := by decide +kernel
theorem dX7_readsNumber_72 : decode cX7_readsNumber 72 = .ok (.invokestatic 94, 3) := by decide +kernel
theorem dX7_readsNumber_75 : decode cX7_readsNumber 75 = .ok (.ifCond .ne 11, 3) := by decide +kernel
theorem dX7_readsNumber_78 : decode cX7_readsNumber 78 = .ok (.aload_n 0, 1) := by decide +kernel
theorem dX7_readsNumber_79 : decode cX7_readsNumber 79 = .ok (.iload_n 3, 1) := by decide +kernel
theorem dX7_readsNumber_80 : decode cX7_readsNumber 80 = .ok (.putfield 98, 3) := by decide +kernel
theorem dX7_readsNumber_83 : decode cX7_readsNumber 83 = .ok (.bipush (-9), 2) := by decide +kernel
theorem dX7_readsNumber_85 : decode cX7_readsNumber 85 = .ok (.ireturn, 1) := by decide +kernel
theorem dX7_readsNumber_86 : decode cX7_readsNumber 86 = .ok (.iload 4, 2) := by decide +kernel
theorem dX7_readsNumber_88 : decode cX7_readsNumber 88 = .ok (.ireturn, 1) := by decide +kernel
set_option maxRecDepth 20000 in
theorem ggX7_readsSort_X7_readsLetter : GoodIn wsX7_readsSort wsX7_readsLetter := goodIn_r _ [8, 9, 10, 11, 12, 7, 13, 14, 15, 23, 24, 25, 26, 27, 28, 29, 30, 31, 32, 33, 34, 35, 36, 37, 38, 39, 40, 41, 42, 43, 44, 45, 46, 47, 48, 49, 50, 51, 52, 53, 54, 55, 56, 57, 58, 59, 60, 61, 62] (by decide +kernel) (by decide +kernel)
set_option maxRecDepth 20000 in
theorem gX7_readsSort_X7_readsLetter : GoodIn wsX7_readsSort (wsV RX7 108 RX7 yX7_readsLetter wsX7_readsLetter) := goodIn_app (goodIn_of _ (by decide +kernel)) ggX7_readsSort_X7_readsLetter
set_option maxRecDepth 20000 in
theorem ggX7_readsSort_X7_readsNumber : GoodIn wsX7_readsSort wsX7_readsNumber := goodIn_r _ [19, 9, 10, 11, 12, 7, 13, 14, 15, 20, 21, 22, 23, 24, 25, 26, 27, 28, 29, 30, 31, 32, 33, 34, 35, 36, 37, 38, 39, 40, 41, 42, 43, 44, 45, 46, 47, 48, 49, 50, 51, 52, 53, 54, 55, 56, 57, 58, 59, 60, 61, 62] (by decide +kernel) (by decide +kernel)
set_option maxRecDepth 20000 in
theorem gX7_readsSort_X7_readsNumber : GoodIn wsX7_readsSort (wsV RX7 115 RX7 yX7_readsNumber wsX7_readsNumber) := goodIn_app (goodIn_of _ (by decide +kernel)) ggX7_readsSort_X7_readsNumber
theorem dX7_readsSort_0 : decode cX7_readsSort 0 = .ok (.aload_n 0, 1) := by decide +kernel
theorem dX7_readsSort_1 : decode cX7_readsSort 1 = .ok (.bipush 115, 2) := by decide +kernel
theorem dX7_readsSort_3 : decode cX7_readsSort 3 = .ok (.invokevirtual 108, 3) := by decide +kernel
theorem dX7_readsSort_6 : decode cX7_readsSort 6 = .ok (.ifCond .ne 5, 3) := by decide +kernel
theorem dX7_readsSort_9 : decode cX7_readsSort 9 = .ok (.iconst 0, 1) := by decide +kernel
theorem dX7_readsSort_10 : decode cX7_readsSort 10 = .ok (.ireturn, 1) := by decide +kernel
theorem dX7_readsSort_11 : decode cX7_readsSort 11 = .ok (.iconst 0, 1) := by decide +kernel
theorem dX7_readsSort_12 : decode cX7_readsSort 12 = .ok (.istore_n 1, 1) := by decide +kernel
theorem dX7_readsSort_13 : decode cX7_readsSort 13 = .ok (.iconst 0, 1) := by decide +kernel
theorem dX7_readsSort_14 : decode cX7_readsSort 14 = .ok (.istore_n 2, 1) := by decide +kernel
theorem dX7_readsSort_15 : decode cX7_readsSort 15 = .ok (.iload_n 2, 1) := by decide +kernel
theorem dX7_readsSort_16 : decode cX7_readsSort 16 = .ok (.aload_n 0, 1) := by decide +kernel
theorem dX7_readsSort_17 : decode cX7_readsSort 17 = .ok (.getfield 112, 3) := by decide +kernel
theorem dX7_readsSort_20 : decode cX7_readsSort 20 = .ok (.if_icmp .ge 18, 3) := by decide +kernel
theorem dX7_readsSort_23 : decode cX7_readsSort 23 = .ok (.iload_n 1, 1) := by decide +kernel
theorem dX7_readsSort_24 : decode cX7_readsSort 24 = .ok (.aload_n 0, 1) := by decide +kernel
theorem dX7_readsSort_25 : decode cX7_readsSort 25 = .ok (.getfield 28, 3) := by decide +kernel
theorem dX7_readsSort_28 : decode cX7_readsSort 28 = .ok (.iload_n 2, 1) := by decide +kernel
theorem dX7_readsSort_29 : decode cX7_readsSort 29 = .ok (.iaload, 1) := by decide +kernel
theorem dX7_readsSort_30 : decode cX7_readsSort 30 = .ok (.iadd, 1) := by decide +kernel
theorem dX7_readsSort_31 : decode cX7_readsSort 31 = .ok (.istore_n 1, 1) := by decide +kernel
theorem dX7_readsSort_32 : decode cX7_readsSort 32 = .ok (.iinc 2 1, 3) := by decide +kernel
theorem dX7_readsSort_35 : decode cX7_readsSort 35 = .ok (.goto (-20), 3) := by decide +kernel
theorem dX7_readsSort_38 : decode cX7_readsSort 38 = .ok (.aload_n 0, 1) := by decide +kernel
theorem dX7_readsSort_39 : decode cX7_readsSort 39 = .ok (.iconst 1, 1) := by decide +kernel
theorem dX7_readsSort_40 : decode cX7_readsSort 40 = .ok (.bipush 11, 2) := by decide +kernel
theorem dX7_readsSort_42 : decode cX7_readsSort 42 = .ok (.iload_n 1, 1) := by decide +kernel
theorem dX7_readsSort_43 : decode cX7_readsSort 43 = .ok (.isub, 1) := by decide +kernel
theorem dX7_readsSort_44 : decode cX7_readsSort 44 = .ok (.invokevirtual 115, 3) := by decide +kernel
theorem dX7_readsSort_47 : decode cX7_readsSort 47 = .ok (.istore_n 2, 1) := by decide +kernel
theorem dX7_readsSort_48 : decode cX7_readsSort 48 = .ok (.iload_n 2, 1) := by decide +kernel
theorem dX7_readsSort_49 : decode cX7_readsSort 49 = .ok (.bipush (-9), 2) := by decide +kernel
theorem dX7_readsSort_51 : decode cX7_readsSort 51 = .ok (.if_icmp .eq 12, 3) := by decide +kernel
theorem dX7_readsSort_54 : decode cX7_readsSort 54 = .ok (.aload_n 0, 1) := by decide +kernel
theorem dX7_readsSort_55 : decode cX7_readsSort 55 = .ok (.bipush 118, 2) := by decide +kernel
theorem dX7_readsSort_57 : decode cX7_readsSort 57 = .ok (.invokevirtual 108, 3) := by decide +kernel
theorem dX7_readsSort_60 : decode cX7_readsSort 60 = .ok (.ifCond .ne 5, 3) := by decide +kernel
theorem dX7_readsSort_63 : decode cX7_readsSort 63 = .ok (.iconst 0, 1) := by decide +kernel
theorem dX7_readsSort_64 : decode cX7_readsSort 64 = .ok (.ireturn, 1) := by decide +kernel
theorem dX7_readsSort_65 : decode cX7_readsSort 65 = .ok (.aload_n 0, 1) := by decide +kernel
theorem dX7_readsSort_66 : decode cX7_readsSort 66 = .ok (.iconst 0, 1) := by decide +kernel
theorem dX7_readsSort_67 : decode cX7_readsSort 67 = .ok (.sipush 999, 3) := by decide +kernel
theorem dX7_readsSort_70 : decode cX7_readsSort 70 = .ok (.invokevirtual 115, 3) := by decide +kernel
theorem dX7_readsSort_73 : decode cX7_readsSort 73 = .ok (.istore_n 3, 1) := by decide +kernel
theorem dX7_readsSort_74 : decode cX7_readsSort 74 = .ok (.iload_n 3, 1) := by decide +kernel
theorem dX7_readsSort_75 : decode cX7_readsSort 75 = .ok (.bipush (-9), 2) := by decide +kernel
theorem dX7_readsSort_77 : decode cX7_readsSort 77 = .ok (.if_icmp .ne 5, 3) := by decide +kernel
theorem dX7_readsSort_80 : decode cX7_readsSort 80 = .ok (.iconst 0, 1) := by decide +kernel
theorem dX7_readsSort_81 : decode cX7_readsSort 81 = .ok (.ireturn, 1) := by decide +kernel
theorem dX7_readsSort_82 : decode cX7_readsSort 82 = .ok (.aload_n 0, 1) := by decide +kernel
theorem dX7_readsSort_83 : decode cX7_readsSort 83 = .ok (.getfield 28, 3) := by decide +kernel
theorem dX7_readsSort_86 : decode cX7_readsSort 86 = .ok (.aload_n 0, 1) := by decide +kernel
theorem dX7_readsSort_87 : decode cX7_readsSort 87 = .ok (.getfield 112, 3) := by decide +kernel
theorem dX7_readsSort_90 : decode cX7_readsSort 90 = .ok (.iload_n 2, 1) := by decide +kernel
theorem dX7_readsSort_91 : decode cX7_readsSort 91 = .ok (.iastore, 1) := by decide +kernel
theorem dX7_readsSort_92 : decode cX7_readsSort 92 = .ok (.aload_n 0, 1) := by decide +kernel
theorem dX7_readsSort_93 : decode cX7_readsSort 93 = .ok (.getfield 31, 3) := by decide +kernel
theorem dX7_readsSort_96 : decode cX7_readsSort 96 = .ok (.aload_n 0, 1) := by decide +kernel
theorem dX7_readsSort_97 : decode cX7_readsSort 97 = .ok (.getfield 112, 3) := by decide +kernel
theorem dX7_readsSort_100 : decode cX7_readsSort 100 = .ok (.iload_n 3, 1) := by decide +kernel
theorem dX7_readsSort_101 : decode cX7_readsSort 101 = .ok (.iastore, 1) := by decide +kernel
theorem dX7_readsSort_102 : decode cX7_readsSort 102 = .ok (.aload_n 0, 1) := by decide +kernel
theorem dX7_readsSort_103 : decode cX7_readsSort 103 = .ok (.dup, 1) := by decide +kernel
theorem dX7_readsSort_104 : decode cX7_readsSort 104 = .ok (.getfield 112, 3) := by decide +kernel
theorem dX7_readsSort_107 : decode cX7_readsSort 107 = .ok (.iconst 1, 1) := by decide +kernel
theorem dX7_readsSort_108 : decode cX7_readsSort 108 = .ok (.iadd, 1) := by decide +kernel
theorem dX7_readsSort_109 : decode cX7_readsSort 109 = .ok (.putfield 112, 3) := by decide +kernel
theorem dX7_readsSort_112 : decode cX7_readsSort 112 = .ok (.iconst 1, 1) := by decide +kernel
theorem dX7_readsSort_113 : decode cX7_readsSort 113 = .ok (.ireturn, 1) := by decide +kernel
set_option maxRecDepth 20000 in
theorem ggX7_readsAll_X7_readsLetter : GoodIn wsX7_readsAll wsX7_readsLetter := goodIn_r _ [10, 4, 11, 12, 13, 9, 14, 5, 15, 29, 30, 31, 32, 33, 34, 35, 36, 37, 38, 39, 40, 41, 42, 43, 44, 45, 46, 47, 48, 49, 50, 51, 52, 53, 54, 55, 56, 57, 58, 59, 60, 61, 62, 63, 64, 65, 66, 67, 68] (by decide +kernel) (by decide +kernel)
set_option maxRecDepth 20000 in
theorem gX7_readsAll_X7_readsLetter : GoodIn wsX7_readsAll (wsV RX7 108 RX7 yX7_readsLetter wsX7_readsLetter) := goodIn_app (goodIn_of _ (by decide +kernel)) ggX7_readsAll_X7_readsLetter
set_option maxRecDepth 20000 in
theorem ggX7_readsAll_X7_readsNumber : GoodIn wsX7_readsAll wsX7_readsNumber := goodIn_r _ [19, 4, 11, 12, 13, 9, 14, 5, 15, 20, 21, 22, 29, 30, 31, 32, 33, 34, 35, 36, 37, 38, 39, 40, 41, 42, 43, 44, 45, 46, 47, 48, 49, 50, 51, 52, 53, 54, 55, 56, 57, 58, 59, 60, 61, 62, 63, 64, 65, 66, 67, 68] (by decide +kernel) (by decide +kernel)
set_option maxRecDepth 20000 in
theorem gX7_readsAll_X7_readsNumber : GoodIn wsX7_readsAll (wsV RX7 115 RX7 yX7_readsNumber wsX7_readsNumber) := goodIn_app (goodIn_of _ (by decide +kernel)) ggX7_readsAll_X7_readsNumber
set_option maxRecDepth 20000 in
theorem ggX7_readsAll_X7_codeAt : GoodIn wsX7_readsAll wsX7_codeAt := goodIn_r _ [14, 4, 5, 15, 29, 30, 31, 32, 33, 34, 35, 36, 37, 38, 39, 40, 41, 42, 43, 44, 45, 46, 47, 48, 49, 50, 51, 52, 53, 54, 55, 56, 57, 58, 59, 60, 61, 62, 63, 64, 65, 66, 67, 68] (by decide +kernel) (by decide +kernel)
set_option maxRecDepth 20000 in
theorem gX7_readsAll_X7_codeAt : GoodIn wsX7_readsAll (wsV RX7 104 RX7 yX7_codeAt wsX7_codeAt) := goodIn_app (goodIn_of _ (by decide +kernel)) ggX7_readsAll_X7_codeAt
set_option maxRecDepth 20000 in
theorem ggX7_readsAll_X7_readsSort : GoodIn wsX7_readsAll wsX7_readsSort := goodIn_r _ [26, 1, 27, 28, 6, 7, 8, 9, 10, 4, 11, 12, 13, 14, 5, 15, 16, 17, 18, 19, 20, 21, 22, 29, 30, 31, 32, 33, 34, 35, 36, 37, 38, 39, 40, 41, 42, 43, 44, 45, 46, 47, 48, 49, 50, 51, 52, 53, 54, 55, 56, 57, 58, 59, 60, 61, 62, 63, 64, 65, 66, 67, 68] (by decide +kernel) (by decide +kernel)
set_option maxRecDepth 20000 in
theorem gX7_readsAll_X7_readsSort : GoodIn wsX7_readsAll (wsV RX7 125 RX7 yX7_readsSort wsX7_readsSort) := goodIn_app (goodIn_of _ (by decide +kernel)) ggX7_readsAll_X7_readsSort
theorem dX7_readsAll_0 : decode cX7_readsAll 0 = .ok (.aload_n 0, 1) := by decide +kernel
theorem dX7_readsAll_1 : decode cX7_readsAll 1 = .ok (.iconst 0, 1) := by decide +kernel
theorem dX7_readsAll_2 : decode cX7_readsAll 2 = .ok (.putfield 112, 3) := by decide +kernel
theorem dX7_readsAll_5 : decode cX7_readsAll 5 = .ok (.aload_n 0, 1) := by decide +kernel
theorem dX7_readsAll_6 : decode cX7_readsAll 6 = .ok (.bipush 109, 2) := by decide +kernel
theorem dX7_readsAll_8 : decode cX7_readsAll 8 = .ok (.invokevirtual 108, 3) := by decide +kernel
theorem dX7_readsAll_11 : decode cX7_readsAll 11 = .ok (.ifCond .ne 5, 3) := by decide +kernel
theorem dX7_readsAll_14 : decode cX7_readsAll 14 = .ok (.iconst 0, 1) := by decide +kernel
theorem dX7_readsAll_15 : decode cX7_readsAll 15 = .ok (.ireturn, 1) := by decide +kernel
theorem dX7_readsAll_16 : decode cX7_readsAll 16 = .ok (.aload_n 0, 1) := by decide +kernel
theorem dX7_readsAll_17 : decode cX7_readsAll 17 = .ok (.aload_n 0, 1) := by decide +kernel
theorem dX7_readsAll_18 : decode cX7_readsAll 18 = .ok (.iconst 1, 1) := by decide +kernel
theorem dX7_readsAll_19 : decode cX7_readsAll 19 = .ok (.bipush 11, 2) := by decide +kernel
theorem dX7_readsAll_21 : decode cX7_readsAll 21 = .ok (.invokevirtual 115, 3) := by decide +kernel
theorem dX7_readsAll_24 : decode cX7_readsAll 24 = .ok (.putfield 119, 3) := by decide +kernel
theorem dX7_readsAll_27 : decode cX7_readsAll 27 = .ok (.aload_n 0, 1) := by decide +kernel
theorem dX7_readsAll_28 : decode cX7_readsAll 28 = .ok (.getfield 119, 3) := by decide +kernel
theorem dX7_readsAll_31 : decode cX7_readsAll 31 = .ok (.bipush (-9), 2) := by decide +kernel
theorem dX7_readsAll_33 : decode cX7_readsAll 33 = .ok (.if_icmp .eq 21, 3) := by decide +kernel
theorem dX7_readsAll_36 : decode cX7_readsAll 36 = .ok (.aload_n 0, 1) := by decide +kernel
theorem dX7_readsAll_37 : decode cX7_readsAll 37 = .ok (.bipush 59, 2) := by decide +kernel
theorem dX7_readsAll_39 : decode cX7_readsAll 39 = .ok (.invokevirtual 108, 3) := by decide +kernel
theorem dX7_readsAll_42 : decode cX7_readsAll 42 = .ok (.ifCond .eq 12, 3) := by decide +kernel
theorem dX7_readsAll_45 : decode cX7_readsAll 45 = .ok (.aload_n 0, 1) := by decide +kernel
theorem dX7_readsAll_46 : decode cX7_readsAll 46 = .ok (.bipush 99, 2) := by decide +kernel
theorem dX7_readsAll_48 : decode cX7_readsAll 48 = .ok (.invokevirtual 108, 3) := by decide +kernel
theorem dX7_readsAll_51 : decode cX7_readsAll 51 = .ok (.ifCond .ne 5, 3) := by decide +kernel
theorem dX7_readsAll_54 : decode cX7_readsAll 54 = .ok (.iconst 0, 1) := by decide +kernel
theorem dX7_readsAll_55 : decode cX7_readsAll 55 = .ok (.ireturn, 1) := by decide +kernel
theorem dX7_readsAll_56 : decode cX7_readsAll 56 = .ok (.aload_n 0, 1) := by decide +kernel
theorem dX7_readsAll_57 : decode cX7_readsAll 57 = .ok (.aload_n 0, 1) := by decide +kernel
theorem dX7_readsAll_58 : decode cX7_readsAll 58 = .ok (.iconst 1, 1) := by decide +kernel
theorem dX7_readsAll_59 : decode cX7_readsAll 59 = .ok (.bipush 9, 2) := by decide +kernel
theorem dX7_readsAll_61 : decode cX7_readsAll 61 = .ok (.invokevirtual 115, 3) := by decide +kernel
theorem dX7_readsAll_64 : decode cX7_readsAll 64 = .ok (.putfield 122, 3) := by decide +kernel
theorem dX7_readsAll_67 : decode cX7_readsAll 67 = .ok (.aload_n 0, 1) := by decide +kernel
theorem dX7_readsAll_68 : decode cX7_readsAll 68 = .ok (.getfield 122, 3) := by decide +kernel
theorem dX7_readsAll_71 : decode cX7_readsAll 71 = .ok (.bipush (-9), 2) := by decide +kernel
theorem dX7_readsAll_73 : decode cX7_readsAll 73 = .ok (.if_icmp .ne 5, 3) := by decide +kernel
theorem dX7_readsAll_76 : decode cX7_readsAll 76 = .ok (.iconst 0, 1) := by decide +kernel
theorem dX7_readsAll_77 : decode cX7_readsAll 77 = .ok (.ireturn, 1) := by decide +kernel
theorem dX7_readsAll_78 : decode cX7_readsAll 78 = .ok (.aload_n 0, 1) := by decide +kernel
theorem dX7_readsAll_79 : decode cX7_readsAll 79 = .ok (.getfield 98, 3) := by decide +kernel
theorem dX7_readsAll_82 : decode cX7_readsAll 82 = .ok (.aload_n 0, 1) := by decide +kernel
theorem dX7_readsAll_83 : decode cX7_readsAll 83 = .ok (.getfield 101, 3) := by decide +kernel
theorem dX7_readsAll_86 : decode cX7_readsAll 86 = .ok (.if_icmp .ge 41, 3) := by decide +kernel
theorem dX7_readsAll_89 : decode cX7_readsAll 89 = .ok (.aload_n 0, 1) := by decide +kernel
theorem dX7_readsAll_90 : decode cX7_readsAll 90 = .ok (.invokevirtual 104, 3) := by decide +kernel
theorem dX7_readsAll_93 : decode cX7_readsAll 93 = .ok (.bipush 59, 2) := by decide +kernel
theorem dX7_readsAll_95 : decode cX7_readsAll 95 = .ok (.if_icmp .ne 11, 3) := by decide +kernel
theorem dX7_readsAll_98 : decode cX7_readsAll 98 = .ok (.aload_n 0, 1) := by decide +kernel
theorem dX7_readsAll_99 : decode cX7_readsAll 99 = .ok (.getfield 112, 3) := by decide +kernel
theorem dX7_readsAll_102 : decode cX7_readsAll 102 = .ok (.iconst 3, 1) := by decide +kernel
theorem dX7_readsAll_103 : decode cX7_readsAll 103 = .ok (.if_icmp .ne 5, 3) := by decide +kernel
theorem dX7_readsAll_106 : decode cX7_readsAll 106 = .ok (.iconst 0, 1) := by decide +kernel
theorem dX7_readsAll_107 : decode cX7_readsAll 107 = .ok (.ireturn, 1) := by decide +kernel
theorem dX7_readsAll_108 : decode cX7_readsAll 108 = .ok (.aload_n 0, 1) := by decide +kernel
theorem dX7_readsAll_109 : decode cX7_readsAll 109 = .ok (.dup, 1) := by decide +kernel
theorem dX7_readsAll_110 : decode cX7_readsAll 110 = .ok (.getfield 98, 3) := by decide +kernel
theorem dX7_readsAll_113 : decode cX7_readsAll 113 = .ok (.iconst 1, 1) := by decide +kernel
theorem dX7_readsAll_114 : decode cX7_readsAll 114 = .ok (.iadd, 1) := by decide +kernel
theorem dX7_readsAll_115 : decode cX7_readsAll 115 = .ok (.putfield 98, 3) := by decide +kernel
theorem dX7_readsAll_118 : decode cX7_readsAll 118 = .ok (.aload_n 0, 1) := by decide +kernel
theorem dX7_readsAll_119 : decode cX7_readsAll 119 = .ok (.invokevirtual 125, 3) := by decide +kernel
theorem dX7_readsAll_122 : decode cX7_readsAll 122 = .ok (.ifCond .ne (-44), 3) := by decide +kernel
theorem dX7_readsAll_125 : decode cX7_readsAll 125 = .ok (.iconst 0, 1) := by decide +kernel
theorem dX7_readsAll_126 : decode cX7_readsAll 126 = .ok (.ireturn, 1) := by decide +kernel
theorem dX7_readsAll_127 : decode cX7_readsAll 127 = .ok (.iconst 1, 1) := by decide +kernel
theorem dX7_readsAll_128 : decode cX7_readsAll 128 = .ok (.ireturn, 1) := by decide +kernel
set_option maxRecDepth 20000 in
theorem ggX7_place_X7_isSheet : GoodIn wsX7_place wsX7_isSheet := goodIn_r _ [26, 27, 28, 25, 29] (by decide +kernel) (by decide +kernel)
set_option maxRecDepth 20000 in
theorem gX7_place_X7_isSheet : GoodIn wsX7_place (va_wsS RX7 129 yX7_isSheet wsX7_isSheet) := goodIn_app (goodIn_of _ (by decide +kernel)) ggX7_place_X7_isSheet
set_option maxRecDepth 20000 in
theorem ggX7_place_X7_isLane : GoodIn wsX7_place wsX7_isLane := goodIn_r _ [32, 27, 28, 25, 29] (by decide +kernel) (by decide +kernel)
set_option maxRecDepth 20000 in
theorem gX7_place_X7_isLane : GoodIn wsX7_place (va_wsS RX7 132 yX7_isLane wsX7_isLane) := goodIn_app (goodIn_of _ (by decide +kernel)) ggX7_place_X7_isLane
set_option maxRecDepth 20000 in
theorem ggX7_place_X7_fails : GoodIn wsX7_place wsX7_fails := goodIn_r _ [36, 1, 58, 59, 60, 61, 62, 63, 64, 65, 66, 67, 68, 69, 70, 71, 72, 73, 74, 75, 76, 77, 78, 79, 80, 81, 82, 83, 84, 85, 86, 87, 88, 89, 90, 91, 92, 93, 94, 95, 96, 97] (by decide +kernel) (by decide +kernel)
set_option maxRecDepth 20000 in
theorem gX7_place_X7_fails : GoodIn wsX7_place (wsV RX7 135 RX7 yX7_fails wsX7_fails) := goodIn_app (goodIn_of _ (by decide +kernel)) ggX7_place_X7_fails
set_option maxRecDepth 20000 in
theorem ggX7_place_X7_readsAll : GoodIn wsX7_place wsX7_readsAll := goodIn_r _ [40, 11, 7, 9, 4, 5, 41, 42, 43, 25, 44, 45, 46, 47, 48, 49, 50, 51, 52, 53, 27, 28, 29, 54, 55, 56, 57, 14, 16, 58, 59, 60, 61, 62, 63, 64, 65, 66, 67, 68, 69, 70, 71, 72, 73, 74, 75, 76, 77, 78, 79, 80, 81, 82, 83, 84, 85, 86, 87, 88, 89, 90, 91, 92, 93, 94, 95, 96, 97] (by decide +kernel) (by decide +kernel)
set_option maxRecDepth 20000 in
theorem gX7_place_X7_readsAll : GoodIn wsX7_place (wsV RX7 139 RX7 yX7_readsAll wsX7_readsAll) := goodIn_app (goodIn_of _ (by decide +kernel)) ggX7_place_X7_readsAll
theorem dX7_place_0 : decode cX7_place 0 = .ok (.aload_n 0, 1) := by decide +kernel
theorem dX7_place_1 : decode cX7_place 1 = .ok (.iconst 0, 1) := by decide +kernel
theorem dX7_place_2 : decode cX7_place 2 = .ok (.putfield 74, 3) := by decide +kernel
theorem dX7_place_5 : decode cX7_place 5 = .ok (.iload_n 1, 1) := by decide +kernel
theorem dX7_place_6 : decode cX7_place 6 = .ok (.invokestatic 129, 3) := by decide +kernel
theorem dX7_place_9 : decode cX7_place 9 = .ok (.ifCond .ne 5, 3) := by decide +kernel
theorem dX7_place_12 : decode cX7_place 12 = .ok (.iconst (-1), 1) := by decide +kernel
theorem dX7_place_13 : decode cX7_place 13 = .ok (.ireturn, 1) := by decide +kernel
theorem dX7_place_14 : decode cX7_place 14 = .ok (.iload_n 2, 1) := by decide +kernel
theorem dX7_place_15 : decode cX7_place 15 = .ok (.invokestatic 132, 3) := by decide +kernel
theorem dX7_place_18 : decode cX7_place 18 = .ok (.ifCond .ne 6, 3) := by decide +kernel
theorem dX7_place_21 : decode cX7_place 21 = .ok (.bipush (-2), 2) := by decide +kernel
theorem dX7_place_23 : decode cX7_place 23 = .ok (.ireturn, 1) := by decide +kernel
theorem dX7_place_24 : decode cX7_place 24 = .ok (.aload_n 0, 1) := by decide +kernel
theorem dX7_place_25 : decode cX7_place 25 = .ok (.getfield 9, 3) := by decide +kernel
theorem dX7_place_28 : decode cX7_place 28 = .ok (.iload_n 1, 1) := by decide +kernel
theorem dX7_place_29 : decode cX7_place 29 = .ok (.iaload, 1) := by decide +kernel
theorem dX7_place_30 : decode cX7_place 30 = .ok (.bipush (-9), 2) := by decide +kernel
theorem dX7_place_32 : decode cX7_place 32 = .ok (.if_icmp .eq 19, 3) := by decide +kernel
theorem dX7_place_35 : decode cX7_place 35 = .ok (.aload_n 0, 1) := by decide +kernel
theorem dX7_place_36 : decode cX7_place 36 = .ok (.getfield 9, 3) := by decide +kernel
theorem dX7_place_39 : decode cX7_place 39 = .ok (.iload_n 1, 1) := by decide +kernel
theorem dX7_place_40 : decode cX7_place 40 = .ok (.iaload, 1) := by decide +kernel
theorem dX7_place_41 : decode cX7_place 41 = .ok (.iload_n 2, 1) := by decide +kernel
theorem dX7_place_42 : decode cX7_place 42 = .ok (.if_icmp .eq 9, 3) := by decide +kernel
theorem dX7_place_45 : decode cX7_place 45 = .ok (.aload_n 0, 1) := by decide +kernel
theorem dX7_place_46 : decode cX7_place 46 = .ok (.iconst 2, 1) := by decide +kernel
theorem dX7_place_47 : decode cX7_place 47 = .ok (.invokevirtual 135, 3) := by decide +kernel
theorem dX7_place_50 : decode cX7_place 50 = .ok (.ireturn, 1) := by decide +kernel
theorem dX7_place_51 : decode cX7_place 51 = .ok (.aload_n 0, 1) := by decide +kernel
theorem dX7_place_52 : decode cX7_place 52 = .ok (.getfield 9, 3) := by decide +kernel
theorem dX7_place_55 : decode cX7_place 55 = .ok (.iload_n 1, 1) := by decide +kernel
theorem dX7_place_56 : decode cX7_place 56 = .ok (.iaload, 1) := by decide +kernel
theorem dX7_place_57 : decode cX7_place 57 = .ok (.bipush (-9), 2) := by decide +kernel
theorem dX7_place_59 : decode cX7_place 59 = .ok (.if_icmp .ne 9, 3) := by decide +kernel
theorem dX7_place_62 : decode cX7_place 62 = .ok (.aload_n 0, 1) := by decide +kernel
theorem dX7_place_63 : decode cX7_place 63 = .ok (.iconst 1, 1) := by decide +kernel
theorem dX7_place_64 : decode cX7_place 64 = .ok (.invokevirtual 135, 3) := by decide +kernel
theorem dX7_place_67 : decode cX7_place 67 = .ok (.ireturn, 1) := by decide +kernel
theorem dX7_place_68 : decode cX7_place 68 = .ok (.iload 4, 2) := by decide +kernel
theorem dX7_place_70 : decode cX7_place 70 = .ok (.ifCond .ge 9, 3) := by decide +kernel
theorem dX7_place_73 : decode cX7_place 73 = .ok (.aload_n 0, 1) := by decide +kernel
theorem dX7_place_74 : decode cX7_place 74 = .ok (.iconst 4, 1) := by decide +kernel
theorem dX7_place_75 : decode cX7_place 75 = .ok (.invokevirtual 135, 3) := by decide +kernel
theorem dX7_place_78 : decode cX7_place 78 = .ok (.ireturn, 1) := by decide +kernel
theorem dX7_place_79 : decode cX7_place 79 = .ok (.iload_n 3, 1) := by decide +kernel
theorem dX7_place_80 : decode cX7_place 80 = .ok (.ifCond .lt 26, 3) := by decide +kernel
theorem dX7_place_83 : decode cX7_place 83 = .ok (.iload_n 3, 1) := by decide +kernel
theorem dX7_place_84 : decode cX7_place 84 = .ok (.aload_n 0, 1) := by decide +kernel
theorem dX7_place_85 : decode cX7_place 85 = .ok (.getfield 13, 3) := by decide +kernel
theorem dX7_place_88 : decode cX7_place 88 = .ok (.iload_n 1, 1) := by decide +kernel
theorem dX7_place_89 : decode cX7_place 89 = .ok (.iaload, 1) := by decide +kernel
theorem dX7_place_90 : decode cX7_place 90 = .ok (.if_icmp .gt 16, 3) := by decide +kernel
theorem dX7_place_93 : decode cX7_place 93 = .ok (.iload 4, 2) := by decide +kernel
theorem dX7_place_95 : decode cX7_place 95 = .ok (.aload_n 0, 1) := by decide +kernel
theorem dX7_place_96 : decode cX7_place 96 = .ok (.getfield 13, 3) := by decide +kernel
theorem dX7_place_99 : decode cX7_place 99 = .ok (.iload_n 1, 1) := by decide +kernel
theorem dX7_place_100 : decode cX7_place 100 = .ok (.iaload, 1) := by decide +kernel
theorem dX7_place_101 : decode cX7_place 101 = .ok (.iload_n 3, 1) := by decide +kernel
theorem dX7_place_102 : decode cX7_place 102 = .ok (.isub, 1) := by decide +kernel
theorem dX7_place_103 : decode cX7_place 103 = .ok (.if_icmp .le 9, 3) := by decide +kernel
theorem dX7_place_106 : decode cX7_place 106 = .ok (.aload_n 0, 1) := by decide +kernel
theorem dX7_place_107 : decode cX7_place 107 = .ok (.iconst 3, 1) := by decide +kernel
theorem dX7_place_108 : decode cX7_place 108 = .ok (.invokevirtual 135, 3) := by decide +kernel
theorem dX7_place_111 : decode cX7_place 111 = .ok (.ireturn, 1) := by decide +kernel
theorem dX7_place_112 : decode cX7_place 112 = .ok (.bipush 60, 2) := by decide +kernel
theorem dX7_place_114 : decode cX7_place 114 = .ok (.iload_n 1, 1) := by decide +kernel
theorem dX7_place_115 : decode cX7_place 115 = .ok (.imul, 1) := by decide +kernel
theorem dX7_place_116 : decode cX7_place 116 = .ok (.iload_n 3, 1) := by decide +kernel
theorem dX7_place_117 : decode cX7_place 117 = .ok (.iadd, 1) := by decide +kernel
theorem dX7_place_118 : decode cX7_place 118 = .ok (.istore 5, 2) := by decide +kernel
theorem dX7_place_120 : decode cX7_place 120 = .ok (.aload_n 0, 1) := by decide +kernel
theorem dX7_place_121 : decode cX7_place 121 = .ok (.iload 5, 2) := by decide +kernel
theorem dX7_place_123 : decode cX7_place 123 = .ok (.putfield 98, 3) := by decide +kernel
theorem dX7_place_126 : decode cX7_place 126 = .ok (.aload_n 0, 1) := by decide +kernel
theorem dX7_place_127 : decode cX7_place 127 = .ok (.iload 5, 2) := by decide +kernel
theorem dX7_place_129 : decode cX7_place 129 = .ok (.iload 4, 2) := by decide +kernel
theorem dX7_place_131 : decode cX7_place 131 = .ok (.iadd, 1) := by decide +kernel
theorem dX7_place_132 : decode cX7_place 132 = .ok (.putfield 101, 3) := by decide +kernel
theorem dX7_place_135 : decode cX7_place 135 = .ok (.aload_n 0, 1) := by decide +kernel
theorem dX7_place_136 : decode cX7_place 136 = .ok (.invokevirtual 139, 3) := by decide +kernel
theorem dX7_place_139 : decode cX7_place 139 = .ok (.ifCond .ne 14, 3) := by decide +kernel
theorem dX7_place_142 : decode cX7_place 142 = .ok (.bipush (-100), 2) := by decide +kernel
theorem dX7_place_144 : decode cX7_place 144 = .ok (.aload_n 0, 1) := by decide +kernel
theorem dX7_place_145 : decode cX7_place 145 = .ok (.getfield 98, 3) := by decide +kernel
theorem dX7_place_148 : decode cX7_place 148 = .ok (.iload 5, 2) := by decide +kernel
theorem dX7_place_150 : decode cX7_place 150 = .ok (.isub, 1) := by decide +kernel
theorem dX7_place_151 : decode cX7_place 151 = .ok (.isub, 1) := by decide +kernel
theorem dX7_place_152 : decode cX7_place 152 = .ok (.ireturn, 1) := by decide +kernel
theorem dX7_place_153 : decode cX7_place 153 = .ok (.aload_n 0, 1) := by decide +kernel
theorem dX7_place_154 : decode cX7_place 154 = .ok (.iconst 1, 1) := by decide +kernel
theorem dX7_place_155 : decode cX7_place 155 = .ok (.putfield 142, 3) := by decide +kernel
theorem dX7_place_158 : decode cX7_place 158 = .ok (.aload_n 0, 1) := by decide +kernel
theorem dX7_place_159 : decode cX7_place 159 = .ok (.aload_n 0, 1) := by decide +kernel
theorem dX7_place_160 : decode cX7_place 160 = .ok (.getfield 119, 3) := by decide +kernel
theorem dX7_place_163 : decode cX7_place 163 = .ok (.putfield 146, 3) := by decide +kernel
theorem dX7_place_166 : decode cX7_place 166 = .ok (.aload_n 0, 1) := by decide +kernel
theorem dX7_place_167 : decode cX7_place 167 = .ok (.aload_n 0, 1) := by decide +kernel
theorem dX7_place_168 : decode cX7_place 168 = .ok (.getfield 122, 3) := by decide +kernel
theorem dX7_place_171 : decode cX7_place 171 = .ok (.putfield 149, 3) := by decide +kernel
theorem dX7_place_174 : decode cX7_place 174 = .ok (.aload_n 0, 1) := by decide +kernel
theorem dX7_place_175 : decode cX7_place 175 = .ok (.aload_n 0, 1) := by decide +kernel
theorem dX7_place_176 : decode cX7_place 176 = .ok (.getfield 112, 3) := by decide +kernel
theorem dX7_place_179 : decode cX7_place 179 = .ok (.putfield 152, 3) := by decide +kernel
theorem dX7_place_182 : decode cX7_place 182 = .ok (.iconst 0, 1) := by decide +kernel
theorem dX7_place_183 : decode cX7_place 183 = .ok (.istore 6, 2) := by decide +kernel
theorem dX7_place_185 : decode cX7_place 185 = .ok (.iload 6, 2) := by decide +kernel
theorem dX7_place_187 : decode cX7_place 187 = .ok (.aload_n 0, 1) := by decide +kernel
theorem dX7_place_188 : decode cX7_place 188 = .ok (.getfield 152, 3) := by decide +kernel
theorem dX7_place_191 : decode cX7_place 191 = .ok (.if_icmp .ge 45, 3) := by decide +kernel
theorem dX7_place_194 : decode cX7_place 194 = .ok (.aload_n 0, 1) := by decide +kernel
theorem dX7_place_195 : decode cX7_place 195 = .ok (.getfield 19, 3) := by decide +kernel
theorem dX7_place_198 : decode cX7_place 198 = .ok (.iload 6, 2) := by decide +kernel
theorem dX7_place_200 : decode cX7_place 200 = .ok (.aload_n 0, 1) := by decide +kernel
theorem dX7_place_201 : decode cX7_place 201 = .ok (.getfield 28, 3) := by decide +kernel
theorem dX7_place_204 : decode cX7_place 204 = .ok (.iload 6, 2) := by decide +kernel
theorem dX7_place_206 : decode cX7_place 206 = .ok (.iaload, 1) := by decide +kernel
theorem dX7_place_207 : decode cX7_place 207 = .ok (.iastore, 1) := by decide +kernel
theorem dX7_place_208 : decode cX7_place 208 = .ok (.aload_n 0, 1) := by decide +kernel
theorem dX7_place_209 : decode cX7_place 209 = .ok (.getfield 22, 3) := by decide +kernel
theorem dX7_place_212 : decode cX7_place 212 = .ok (.iload 6, 2) := by decide +kernel
theorem dX7_place_214 : decode cX7_place 214 = .ok (.aload_n 0, 1) := by decide +kernel
theorem dX7_place_215 : decode cX7_place 215 = .ok (.getfield 31, 3) := by decide +kernel
theorem dX7_place_218 : decode cX7_place 218 = .ok (.iload 6, 2) := by decide +kernel
theorem dX7_place_220 : decode cX7_place 220 = .ok (.iaload, 1) := by decide +kernel
theorem dX7_place_221 : decode cX7_place 221 = .ok (.iastore, 1) := by decide +kernel
theorem dX7_place_222 : decode cX7_place 222 = .ok (.aload_n 0, 1) := by decide +kernel
theorem dX7_place_223 : decode cX7_place 223 = .ok (.getfield 25, 3) := by decide +kernel
theorem dX7_place_226 : decode cX7_place 226 = .ok (.iload 6, 2) := by decide +kernel
theorem dX7_place_228 : decode cX7_place 228 = .ok (.iconst 0, 1) := by decide +kernel
theorem dX7_place_229 : decode cX7_place 229 = .ok (.iastore, 1) := by decide +kernel
theorem dX7_place_230 : decode cX7_place 230 = .ok (.iinc 6 1, 3) := by decide +kernel
theorem dX7_place_233 : decode cX7_place 233 = .ok (.goto (-48), 3) := by decide +kernel
theorem dX7_place_236 : decode cX7_place 236 = .ok (.aload_n 0, 1) := by decide +kernel
theorem dX7_place_237 : decode cX7_place 237 = .ok (.iconst 0, 1) := by decide +kernel
theorem dX7_place_238 : decode cX7_place 238 = .ok (.putfield 155, 3) := by decide +kernel
theorem dX7_place_241 : decode cX7_place 241 = .ok (.aload_n 0, 1) := by decide +kernel
theorem dX7_place_242 : decode cX7_place 242 = .ok (.iconst 0, 1) := by decide +kernel
theorem dX7_place_243 : decode cX7_place 243 = .ok (.putfield 158, 3) := by decide +kernel
theorem dX7_place_246 : decode cX7_place 246 = .ok (.aload_n 0, 1) := by decide +kernel
theorem dX7_place_247 : decode cX7_place 247 = .ok (.iconst 0, 1) := by decide +kernel
theorem dX7_place_248 : decode cX7_place 248 = .ok (.putfield 161, 3) := by decide +kernel
theorem dX7_place_251 : decode cX7_place 251 = .ok (.aload_n 0, 1) := by decide +kernel
theorem dX7_place_252 : decode cX7_place 252 = .ok (.iconst 0, 1) := by decide +kernel
theorem dX7_place_253 : decode cX7_place 253 = .ok (.putfield 164, 3) := by decide +kernel
theorem dX7_place_256 : decode cX7_place 256 = .ok (.aload_n 0, 1) := by decide +kernel
theorem dX7_place_257 : decode cX7_place 257 = .ok (.iconst 0, 1) := by decide +kernel
theorem dX7_place_258 : decode cX7_place 258 = .ok (.putfield 167, 3) := by decide +kernel
theorem dX7_place_261 : decode cX7_place 261 = .ok (.aload_n 0, 1) := by decide +kernel
theorem dX7_place_262 : decode cX7_place 262 = .ok (.getfield 152, 3) := by decide +kernel
theorem dX7_place_265 : decode cX7_place 265 = .ok (.ireturn, 1) := by decide +kernel
theorem dX7_allTwelfths_0 : decode cX7_allTwelfths 0 = .ok (.iconst 0, 1) := by decide +kernel
theorem dX7_allTwelfths_1 : decode cX7_allTwelfths 1 = .ok (.istore_n 1, 1) := by decide +kernel
theorem dX7_allTwelfths_2 : decode cX7_allTwelfths 2 = .ok (.iconst 0, 1) := by decide +kernel
theorem dX7_allTwelfths_3 : decode cX7_allTwelfths 3 = .ok (.istore_n 2, 1) := by decide +kernel
theorem dX7_allTwelfths_4 : decode cX7_allTwelfths 4 = .ok (.iload_n 2, 1) := by decide +kernel
theorem dX7_allTwelfths_5 : decode cX7_allTwelfths 5 = .ok (.aload_n 0, 1) := by decide +kernel
theorem dX7_allTwelfths_6 : decode cX7_allTwelfths 6 = .ok (.getfield 152, 3) := by decide +kernel
theorem dX7_allTwelfths_9 : decode cX7_allTwelfths 9 = .ok (.if_icmp .ge 18, 3) := by decide +kernel
theorem dX7_allTwelfths_12 : decode cX7_allTwelfths 12 = .ok (.iload_n 1, 1) := by decide +kernel
theorem dX7_allTwelfths_13 : decode cX7_allTwelfths 13 = .ok (.aload_n 0, 1) := by decide +kernel
theorem dX7_allTwelfths_14 : decode cX7_allTwelfths 14 = .ok (.getfield 19, 3) := by decide +kernel
theorem dX7_allTwelfths_17 : decode cX7_allTwelfths 17 = .ok (.iload_n 2, 1) := by decide +kernel
theorem dX7_allTwelfths_18 : decode cX7_allTwelfths 18 = .ok (.iaload, 1) := by decide +kernel
theorem dX7_allTwelfths_19 : decode cX7_allTwelfths 19 = .ok (.iadd, 1) := by decide +kernel
theorem dX7_allTwelfths_20 : decode cX7_allTwelfths 20 = .ok (.istore_n 1, 1) := by decide +kernel
theorem dX7_allTwelfths_21 : decode cX7_allTwelfths 21 = .ok (.iinc 2 1, 3) := by decide +kernel
theorem dX7_allTwelfths_24 : decode cX7_allTwelfths 24 = .ok (.goto (-20), 3) := by decide +kernel
theorem dX7_allTwelfths_27 : decode cX7_allTwelfths 27 = .ok (.iload_n 1, 1) := by decide +kernel
theorem dX7_allTwelfths_28 : decode cX7_allTwelfths 28 = .ok (.ireturn, 1) := by decide +kernel
set_option maxRecDepth 20000 in
theorem ggX7_about_X7_within : GoodIn wsX7_about wsX7_within := goodIn_r _ [10] (by decide +kernel) (by decide +kernel)
set_option maxRecDepth 20000 in
theorem gX7_about_X7_within : GoodIn wsX7_about (va_wsS RX7 94 yX7_within wsX7_within) := goodIn_app (goodIn_of _ (by decide +kernel)) ggX7_about_X7_within
set_option maxRecDepth 20000 in
theorem ggX7_about_X7_allTwelfths : GoodIn wsX7_about wsX7_allTwelfths := goodIn_r _ [14, 15, 16, 17, 18, 19, 20, 21, 22, 23, 24, 25, 26, 27, 28, 29, 30, 31, 32, 33, 34, 35, 36, 37, 38, 39, 40, 41, 42, 43, 44, 45, 46, 47, 48, 49, 50, 51, 52, 53, 54, 55, 56] (by decide +kernel) (by decide +kernel)
set_option maxRecDepth 20000 in
theorem gX7_about_X7_allTwelfths : GoodIn wsX7_about (wsV RX7 170 RX7 yX7_allTwelfths wsX7_allTwelfths) := goodIn_app (goodIn_of _ (by decide +kernel)) ggX7_about_X7_allTwelfths
theorem dX7_about_0 : decode cX7_about 0 = .ok (.iload_n 1, 1) := by decide +kernel
theorem dX7_about_1 : decode cX7_about 1 = .ok (.iconst 0, 1) := by decide +kernel
theorem dX7_about_2 : decode cX7_about 2 = .ok (.iconst 5, 1) := by decide +kernel
theorem dX7_about_3 : decode cX7_about 3 = .ok (.invokestatic 94, 3) := by decide +kernel
theorem dX7_about_6 : decode cX7_about 6 = .ok (.ifCond .ne 6, 3) := by decide +kernel
theorem dX7_about_9 : decode cX7_about 9 = .ok (.bipush (-2), 2) := by decide +kernel
theorem dX7_about_11 : decode cX7_about 11 = .ok (.ireturn, 1) := by decide +kernel
theorem dX7_about_12 : decode cX7_about 12 = .ok (.aload_n 0, 1) := by decide +kernel
theorem dX7_about_13 : decode cX7_about 13 = .ok (.getfield 142, 3) := by decide +kernel
theorem dX7_about_16 : decode cX7_about 16 = .ok (.ifCond .ne 6, 3) := by decide +kernel
theorem dX7_about_19 : decode cX7_about 19 = .ok (.bipush (-3), 2) := by decide +kernel
theorem dX7_about_21 : decode cX7_about 21 = .ok (.ireturn, 1) := by decide +kernel
theorem dX7_about_22 : decode cX7_about 22 = .ok (.iload_n 1, 1) := by decide +kernel
theorem dX7_about_23 : decode cX7_about 23 = .ok (.tableswitch 58 0 4 #[33, 38, 43, 48, 53], 33) := by decide +kernel
theorem dX7_about_56 : decode cX7_about 56 = .ok (.aload_n 0, 1) := by decide +kernel
theorem dX7_about_57 : decode cX7_about 57 = .ok (.getfield 146, 3) := by decide +kernel
theorem dX7_about_60 : decode cX7_about 60 = .ok (.ireturn, 1) := by decide +kernel
theorem dX7_about_61 : decode cX7_about 61 = .ok (.aload_n 0, 1) := by decide +kernel
theorem dX7_about_62 : decode cX7_about 62 = .ok (.getfield 149, 3) := by decide +kernel
theorem dX7_about_65 : decode cX7_about 65 = .ok (.ireturn, 1) := by decide +kernel
theorem dX7_about_66 : decode cX7_about 66 = .ok (.aload_n 0, 1) := by decide +kernel
theorem dX7_about_67 : decode cX7_about 67 = .ok (.invokevirtual 170, 3) := by decide +kernel
theorem dX7_about_70 : decode cX7_about 70 = .ok (.ireturn, 1) := by decide +kernel
theorem dX7_about_71 : decode cX7_about 71 = .ok (.aload_n 0, 1) := by decide +kernel
theorem dX7_about_72 : decode cX7_about 72 = .ok (.getfield 155, 3) := by decide +kernel
theorem dX7_about_75 : decode cX7_about 75 = .ok (.ireturn, 1) := by decide +kernel
theorem dX7_about_76 : decode cX7_about 76 = .ok (.aload_n 0, 1) := by decide +kernel
theorem dX7_about_77 : decode cX7_about 77 = .ok (.getfield 158, 3) := by decide +kernel
theorem dX7_about_80 : decode cX7_about 80 = .ok (.ireturn, 1) := by decide +kernel
theorem dX7_about_81 : decode cX7_about 81 = .ok (.aload_n 0, 1) := by decide +kernel
theorem dX7_about_82 : decode cX7_about 82 = .ok (.getfield 161, 3) := by decide +kernel
theorem dX7_about_85 : decode cX7_about 85 = .ok (.ireturn, 1) := by decide +kernel
theorem dX7_isSort_0 : decode cX7_isSort 0 = .ok (.iload_n 1, 1) := by decide +kernel
theorem dX7_isSort_1 : decode cX7_isSort 1 = .ok (.ifCond .lt 15, 3) := by decide +kernel
theorem dX7_isSort_4 : decode cX7_isSort 4 = .ok (.iload_n 1, 1) := by decide +kernel
theorem dX7_isSort_5 : decode cX7_isSort 5 = .ok (.aload_n 0, 1) := by decide +kernel
theorem dX7_isSort_6 : decode cX7_isSort 6 = .ok (.getfield 152, 3) := by decide +kernel
theorem dX7_isSort_9 : decode cX7_isSort 9 = .ok (.if_icmp .ge 7, 3) := by decide +kernel
theorem dX7_isSort_12 : decode cX7_isSort 12 = .ok (.iconst 1, 1) := by decide +kernel
theorem dX7_isSort_13 : decode cX7_isSort 13 = .ok (.goto 4, 3) := by decide +kernel
theorem dX7_isSort_16 : decode cX7_isSort 16 = .ok (.iconst 0, 1) := by decide +kernel
theorem dX7_isSort_17 : decode cX7_isSort 17 = .ok (.ireturn, 1) := by decide +kernel
theorem dX7_toldMinutes_0 : decode cX7_toldMinutes 0 = .ok (.aload_n 0, 1) := by decide +kernel
theorem dX7_toldMinutes_1 : decode cX7_toldMinutes 1 = .ok (.getfield 146, 3) := by decide +kernel
theorem dX7_toldMinutes_4 : decode cX7_toldMinutes 4 = .ok (.iload_n 2, 1) := by decide +kernel
theorem dX7_toldMinutes_5 : decode cX7_toldMinutes 5 = .ok (.imul, 1) := by decide +kernel
theorem dX7_toldMinutes_6 : decode cX7_toldMinutes 6 = .ok (.istore 4, 2) := by decide +kernel
theorem dX7_toldMinutes_8 : decode cX7_toldMinutes 8 = .ok (.bipush 12, 2) := by decide +kernel
theorem dX7_toldMinutes_10 : decode cX7_toldMinutes 10 = .ok (.iload_n 1, 1) := by decide +kernel
theorem dX7_toldMinutes_11 : decode cX7_toldMinutes 11 = .ok (.imul, 1) := by decide +kernel
theorem dX7_toldMinutes_12 : decode cX7_toldMinutes 12 = .ok (.iload 4, 2) := by decide +kernel
theorem dX7_toldMinutes_14 : decode cX7_toldMinutes 14 = .ok (.iadd, 1) := by decide +kernel
theorem dX7_toldMinutes_15 : decode cX7_toldMinutes 15 = .ok (.iconst 1, 1) := by decide +kernel
theorem dX7_toldMinutes_16 : decode cX7_toldMinutes 16 = .ok (.isub, 1) := by decide +kernel
theorem dX7_toldMinutes_17 : decode cX7_toldMinutes 17 = .ok (.iload 4, 2) := by decide +kernel
theorem dX7_toldMinutes_19 : decode cX7_toldMinutes 19 = .ok (.idiv, 1) := by decide +kernel
theorem dX7_toldMinutes_20 : decode cX7_toldMinutes 20 = .ok (.iload_n 2, 1) := by decide +kernel
theorem dX7_toldMinutes_21 : decode cX7_toldMinutes 21 = .ok (.imul, 1) := by decide +kernel
theorem dX7_toldMinutes_22 : decode cX7_toldMinutes 22 = .ok (.iload_n 3, 1) := by decide +kernel
theorem dX7_toldMinutes_23 : decode cX7_toldMinutes 23 = .ok (.iadd, 1) := by decide +kernel
theorem dX7_toldMinutes_24 : decode cX7_toldMinutes 24 = .ok (.istore 5, 2) := by decide +kernel
theorem dX7_toldMinutes_26 : decode cX7_toldMinutes 26 = .ok (.iload 5, 2) := by decide +kernel
theorem dX7_toldMinutes_28 : decode cX7_toldMinutes 28 = .ok (.ifCond .ge 7, 3) := by decide +kernel
theorem dX7_toldMinutes_31 : decode cX7_toldMinutes 31 = .ok (.iconst 0, 1) := by decide +kernel
theorem dX7_toldMinutes_32 : decode cX7_toldMinutes 32 = .ok (.goto 5, 3) := by decide +kernel
theorem dX7_toldMinutes_35 : decode cX7_toldMinutes 35 = .ok (.iload 5, 2) := by decide +kernel
theorem dX7_toldMinutes_37 : decode cX7_toldMinutes 37 = .ok (.ireturn, 1) := by decide +kernel
set_option maxRecDepth 20000 in
theorem ggX7_hisBar_X7_toldMinutes : GoodIn wsX7_hisBar wsX7_toldMinutes := goodIn_r _ [8, 3, 9, 10, 11, 12, 13, 14, 15, 16, 17, 18, 19, 20, 21, 22, 23, 24, 25, 26, 27, 28, 29, 30, 31, 32, 33, 34, 35, 36, 37, 38, 39, 40, 41, 42, 43, 44, 45, 46, 47, 48] (by decide +kernel) (by decide +kernel)
set_option maxRecDepth 20000 in
theorem gX7_hisBar_X7_toldMinutes : GoodIn wsX7_hisBar (wsV RX7 173 RX7 yX7_toldMinutes wsX7_toldMinutes) := goodIn_app (goodIn_of _ (by decide +kernel)) ggX7_hisBar_X7_toldMinutes
theorem dX7_hisBar_0 : decode cX7_hisBar 0 = .ok (.iconst 0, 1) := by decide +kernel
theorem dX7_hisBar_1 : decode cX7_hisBar 1 = .ok (.istore 5, 2) := by decide +kernel
theorem dX7_hisBar_3 : decode cX7_hisBar 3 = .ok (.iconst 1, 1) := by decide +kernel
theorem dX7_hisBar_4 : decode cX7_hisBar 4 = .ok (.istore 6, 2) := by decide +kernel
theorem dX7_hisBar_6 : decode cX7_hisBar 6 = .ok (.iload 6, 2) := by decide +kernel
theorem dX7_hisBar_8 : decode cX7_hisBar 8 = .ok (.iconst 5, 1) := by decide +kernel
theorem dX7_hisBar_9 : decode cX7_hisBar 9 = .ok (.if_icmp .gt 91, 3) := by decide +kernel
theorem dX7_hisBar_12 : decode cX7_hisBar 12 = .ok (.aload_n 0, 1) := by decide +kernel
theorem dX7_hisBar_13 : decode cX7_hisBar 13 = .ok (.getfield 22, 3) := by decide +kernel
theorem dX7_hisBar_16 : decode cX7_hisBar 16 = .ok (.iload_n 1, 1) := by decide +kernel
theorem dX7_hisBar_17 : decode cX7_hisBar 17 = .ok (.iaload, 1) := by decide +kernel
theorem dX7_hisBar_18 : decode cX7_hisBar 18 = .ok (.iload_n 2, 1) := by decide +kernel
theorem dX7_hisBar_19 : decode cX7_hisBar 19 = .ok (.isub, 1) := by decide +kernel
theorem dX7_hisBar_20 : decode cX7_hisBar 20 = .ok (.istore 7, 2) := by decide +kernel
theorem dX7_hisBar_22 : decode cX7_hisBar 22 = .ok (.iload_n 3, 1) := by decide +kernel
theorem dX7_hisBar_23 : decode cX7_hisBar 23 = .ok (.ifCond .le 30, 3) := by decide +kernel
theorem dX7_hisBar_26 : decode cX7_hisBar 26 = .ok (.iload 7, 2) := by decide +kernel
theorem dX7_hisBar_28 : decode cX7_hisBar 28 = .ok (.aload_n 0, 1) := by decide +kernel
theorem dX7_hisBar_29 : decode cX7_hisBar 29 = .ok (.getfield 149, 3) := by decide +kernel
theorem dX7_hisBar_32 : decode cX7_hisBar 32 = .ok (.aload_n 0, 1) := by decide +kernel
theorem dX7_hisBar_33 : decode cX7_hisBar 33 = .ok (.iload 6, 2) := by decide +kernel
theorem dX7_hisBar_35 : decode cX7_hisBar 35 = .ok (.iload_n 3, 1) := by decide +kernel
theorem dX7_hisBar_36 : decode cX7_hisBar 36 = .ok (.iload 4, 2) := by decide +kernel
theorem dX7_hisBar_38 : decode cX7_hisBar 38 = .ok (.invokevirtual 173, 3) := by decide +kernel
theorem dX7_hisBar_41 : decode cX7_hisBar 41 = .ok (.imul, 1) := by decide +kernel
theorem dX7_hisBar_42 : decode cX7_hisBar 42 = .ok (.if_icmp .lt 7, 3) := by decide +kernel
theorem dX7_hisBar_45 : decode cX7_hisBar 45 = .ok (.iconst 1, 1) := by decide +kernel
theorem dX7_hisBar_46 : decode cX7_hisBar 46 = .ok (.goto 32, 3) := by decide +kernel
theorem dX7_hisBar_49 : decode cX7_hisBar 49 = .ok (.iconst 0, 1) := by decide +kernel
theorem dX7_hisBar_50 : decode cX7_hisBar 50 = .ok (.goto 28, 3) := by decide +kernel
theorem dX7_hisBar_53 : decode cX7_hisBar 53 = .ok (.iload 7, 2) := by decide +kernel
theorem dX7_hisBar_55 : decode cX7_hisBar 55 = .ok (.aload_n 0, 1) := by decide +kernel
theorem dX7_hisBar_56 : decode cX7_hisBar 56 = .ok (.getfield 146, 3) := by decide +kernel
theorem dX7_hisBar_59 : decode cX7_hisBar 59 = .ok (.imul, 1) := by decide +kernel
theorem dX7_hisBar_60 : decode cX7_hisBar 60 = .ok (.aload_n 0, 1) := by decide +kernel
theorem dX7_hisBar_61 : decode cX7_hisBar 61 = .ok (.getfield 149, 3) := by decide +kernel
theorem dX7_hisBar_64 : decode cX7_hisBar 64 = .ok (.bipush 12, 2) := by decide +kernel
theorem dX7_hisBar_66 : decode cX7_hisBar 66 = .ok (.imul, 1) := by decide +kernel
theorem dX7_hisBar_67 : decode cX7_hisBar 67 = .ok (.iload 6, 2) := by decide +kernel
theorem dX7_hisBar_69 : decode cX7_hisBar 69 = .ok (.imul, 1) := by decide +kernel
theorem dX7_hisBar_70 : decode cX7_hisBar 70 = .ok (.if_icmp .lt 7, 3) := by decide +kernel
theorem dX7_hisBar_73 : decode cX7_hisBar 73 = .ok (.iconst 1, 1) := by decide +kernel
theorem dX7_hisBar_74 : decode cX7_hisBar 74 = .ok (.goto 4, 3) := by decide +kernel
theorem dX7_hisBar_77 : decode cX7_hisBar 77 = .ok (.iconst 0, 1) := by decide +kernel
theorem dX7_hisBar_78 : decode cX7_hisBar 78 = .ok (.istore 8, 2) := by decide +kernel
theorem dX7_hisBar_80 : decode cX7_hisBar 80 = .ok (.iload 8, 2) := by decide +kernel
theorem dX7_hisBar_82 : decode cX7_hisBar 82 = .ok (.ifCond .eq 8, 3) := by decide +kernel
theorem dX7_hisBar_85 : decode cX7_hisBar 85 = .ok (.iload 6, 2) := by decide +kernel
theorem dX7_hisBar_87 : decode cX7_hisBar 87 = .ok (.goto 5, 3) := by decide +kernel
theorem dX7_hisBar_90 : decode cX7_hisBar 90 = .ok (.iload 5, 2) := by decide +kernel
theorem dX7_hisBar_92 : decode cX7_hisBar 92 = .ok (.istore 5, 2) := by decide +kernel
theorem dX7_hisBar_94 : decode cX7_hisBar 94 = .ok (.iinc 6 1, 3) := by decide +kernel
theorem dX7_hisBar_97 : decode cX7_hisBar 97 = .ok (.goto (-91), 3) := by decide +kernel
theorem dX7_hisBar_100 : decode cX7_hisBar 100 = .ok (.iload 5, 2) := by decide +kernel
theorem dX7_hisBar_102 : decode cX7_hisBar 102 = .ok (.ireturn, 1) := by decide +kernel
set_option maxRecDepth 20000 in
theorem ggX7_ofSort_X7_isSort : GoodIn wsX7_ofSort wsX7_isSort := goodIn_r _ [11, 12, 23, 24, 25, 26, 27, 28, 29, 30, 31, 32, 33, 34, 35, 36, 37, 38, 39, 40, 41, 42, 43, 44, 45, 46, 47, 48, 49, 50, 51, 52, 53, 54, 55, 56, 57, 58, 59, 60, 61, 62] (by decide +kernel) (by decide +kernel)
set_option maxRecDepth 20000 in
theorem gX7_ofSort_X7_isSort : GoodIn wsX7_ofSort (wsV RX7 177 RX7 yX7_isSort wsX7_isSort) := goodIn_app (goodIn_of _ (by decide +kernel)) ggX7_ofSort_X7_isSort
set_option maxRecDepth 20000 in
theorem ggX7_ofSort_X7_hisBar : GoodIn wsX7_ofSort wsX7_hisBar := goodIn_r _ [16, 2, 17, 18, 19, 20, 21, 10, 22, 23, 24, 25, 26, 27, 28, 29, 30, 31, 32, 33, 34, 35, 36, 37, 38, 39, 40, 41, 42, 43, 44, 45, 46, 47, 48, 49, 50, 51, 52, 53, 54, 55, 56, 57, 58, 59, 60, 61, 62] (by decide +kernel) (by decide +kernel)
set_option maxRecDepth 20000 in
theorem gX7_ofSort_X7_hisBar : GoodIn wsX7_ofSort (wsV RX7 180 RX7 yX7_hisBar wsX7_hisBar) := goodIn_app (goodIn_of _ (by decide +kernel)) ggX7_ofSort_X7_hisBar
theorem dX7_ofSort_0 : decode cX7_ofSort 0 = .ok (.aload_n 0, 1) := by decide +kernel
theorem dX7_ofSort_1 : decode cX7_ofSort 1 = .ok (.iload_n 1, 1) := by decide +kernel
theorem dX7_ofSort_2 : decode cX7_ofSort 2 = .ok (.invokevirtual 177, 3) := by decide +kernel
theorem dX7_ofSort_5 : decode cX7_ofSort 5 = .ok (.ifCond .ne 5, 3) := by decide +kernel
theorem dX7_ofSort_8 : decode cX7_ofSort 8 = .ok (.iconst (-1), 1) := by decide +kernel
theorem dX7_ofSort_9 : decode cX7_ofSort 9 = .ok (.ireturn, 1) := by decide +kernel
theorem dX7_ofSort_10 : decode cX7_ofSort 10 = .ok (.iload_n 2, 1) := by decide +kernel
theorem dX7_ofSort_11 : decode cX7_ofSort 11 = .ok (.tableswitch 68 0 3 #[29, 36, 43, 50], 29) := by decide +kernel
theorem dX7_ofSort_40 : decode cX7_ofSort 40 = .ok (.aload_n 0, 1) := by decide +kernel
theorem dX7_ofSort_41 : decode cX7_ofSort 41 = .ok (.getfield 19, 3) := by decide +kernel
theorem dX7_ofSort_44 : decode cX7_ofSort 44 = .ok (.iload_n 1, 1) := by decide +kernel
theorem dX7_ofSort_45 : decode cX7_ofSort 45 = .ok (.iaload, 1) := by decide +kernel
theorem dX7_ofSort_46 : decode cX7_ofSort 46 = .ok (.ireturn, 1) := by decide +kernel
theorem dX7_ofSort_47 : decode cX7_ofSort 47 = .ok (.aload_n 0, 1) := by decide +kernel
theorem dX7_ofSort_48 : decode cX7_ofSort 48 = .ok (.getfield 22, 3) := by decide +kernel
theorem dX7_ofSort_51 : decode cX7_ofSort 51 = .ok (.iload_n 1, 1) := by decide +kernel
theorem dX7_ofSort_52 : decode cX7_ofSort 52 = .ok (.iaload, 1) := by decide +kernel
theorem dX7_ofSort_53 : decode cX7_ofSort 53 = .ok (.ireturn, 1) := by decide +kernel
theorem dX7_ofSort_54 : decode cX7_ofSort 54 = .ok (.aload_n 0, 1) := by decide +kernel
theorem dX7_ofSort_55 : decode cX7_ofSort 55 = .ok (.getfield 25, 3) := by decide +kernel
theorem dX7_ofSort_58 : decode cX7_ofSort 58 = .ok (.iload_n 1, 1) := by decide +kernel
theorem dX7_ofSort_59 : decode cX7_ofSort 59 = .ok (.iaload, 1) := by decide +kernel
theorem dX7_ofSort_60 : decode cX7_ofSort 60 = .ok (.ireturn, 1) := by decide +kernel
theorem dX7_ofSort_61 : decode cX7_ofSort 61 = .ok (.aload_n 0, 1) := by decide +kernel
theorem dX7_ofSort_62 : decode cX7_ofSort 62 = .ok (.iload_n 1, 1) := by decide +kernel
theorem dX7_ofSort_63 : decode cX7_ofSort 63 = .ok (.aload_n 0, 1) := by decide +kernel
theorem dX7_ofSort_64 : decode cX7_ofSort 64 = .ok (.getfield 155, 3) := by decide +kernel
theorem dX7_ofSort_67 : decode cX7_ofSort 67 = .ok (.aload_n 0, 1) := by decide +kernel
theorem dX7_ofSort_68 : decode cX7_ofSort 68 = .ok (.getfield 158, 3) := by decide +kernel
theorem dX7_ofSort_71 : decode cX7_ofSort 71 = .ok (.aload_n 0, 1) := by decide +kernel
theorem dX7_ofSort_72 : decode cX7_ofSort 72 = .ok (.getfield 161, 3) := by decide +kernel
theorem dX7_ofSort_75 : decode cX7_ofSort 75 = .ok (.invokevirtual 180, 3) := by decide +kernel
theorem dX7_ofSort_78 : decode cX7_ofSort 78 = .ok (.ireturn, 1) := by decide +kernel
theorem dX7_ofSort_79 : decode cX7_ofSort 79 = .ok (.bipush (-2), 2) := by decide +kernel
theorem dX7_ofSort_81 : decode cX7_ofSort 81 = .ok (.ireturn, 1) := by decide +kernel
set_option maxRecDepth 20000 in
theorem ggX7_bar_X7_isSort : GoodIn wsX7_bar wsX7_isSort := goodIn_r _ [6, 7, 11, 12, 13, 14, 15, 16, 17, 18, 19, 20, 21, 22, 23, 24, 25, 26, 27, 28, 29, 30, 31, 32, 33, 34, 35, 36, 37, 38, 39, 40, 41, 42, 43, 44, 45, 46, 47, 48, 49, 50] (by decide +kernel) (by decide +kernel)
set_option maxRecDepth 20000 in
theorem gX7_bar_X7_isSort : GoodIn wsX7_bar (wsV RX7 177 RX7 yX7_isSort wsX7_isSort) := goodIn_app (goodIn_of _ (by decide +kernel)) ggX7_bar_X7_isSort
set_option maxRecDepth 20000 in
theorem ggX7_bar_X7_within : GoodIn wsX7_bar wsX7_within := goodIn_r _ [10] (by decide +kernel) (by decide +kernel)
set_option maxRecDepth 20000 in
theorem gX7_bar_X7_within : GoodIn wsX7_bar (va_wsS RX7 94 yX7_within wsX7_within) := goodIn_app (goodIn_of _ (by decide +kernel)) ggX7_bar_X7_within
theorem dX7_bar_0 : decode cX7_bar 0 = .ok (.aload_n 0, 1) := by decide +kernel
theorem dX7_bar_1 : decode cX7_bar 1 = .ok (.iload_n 1, 1) := by decide +kernel
theorem dX7_bar_2 : decode cX7_bar 2 = .ok (.invokevirtual 177, 3) := by decide +kernel
theorem dX7_bar_5 : decode cX7_bar 5 = .ok (.ifCond .ne 5, 3) := by decide +kernel
theorem dX7_bar_8 : decode cX7_bar 8 = .ok (.iconst (-1), 1) := by decide +kernel
theorem dX7_bar_9 : decode cX7_bar 9 = .ok (.ireturn, 1) := by decide +kernel
theorem dX7_bar_10 : decode cX7_bar 10 = .ok (.iload_n 2, 1) := by decide +kernel
theorem dX7_bar_11 : decode cX7_bar 11 = .ok (.iconst 0, 1) := by decide +kernel
theorem dX7_bar_12 : decode cX7_bar 12 = .ok (.iconst 5, 1) := by decide +kernel
theorem dX7_bar_13 : decode cX7_bar 13 = .ok (.invokestatic 94, 3) := by decide +kernel
theorem dX7_bar_16 : decode cX7_bar 16 = .ok (.ifCond .ne 6, 3) := by decide +kernel
theorem dX7_bar_19 : decode cX7_bar 19 = .ok (.bipush (-2), 2) := by decide +kernel
theorem dX7_bar_21 : decode cX7_bar 21 = .ok (.ireturn, 1) := by decide +kernel
theorem dX7_bar_22 : decode cX7_bar 22 = .ok (.aload_n 0, 1) := by decide +kernel
theorem dX7_bar_23 : decode cX7_bar 23 = .ok (.getfield 25, 3) := by decide +kernel
theorem dX7_bar_26 : decode cX7_bar 26 = .ok (.iload_n 1, 1) := by decide +kernel
theorem dX7_bar_27 : decode cX7_bar 27 = .ok (.iaload, 1) := by decide +kernel
theorem dX7_bar_28 : decode cX7_bar 28 = .ok (.istore_n 3, 1) := by decide +kernel
theorem dX7_bar_29 : decode cX7_bar 29 = .ok (.aload_n 0, 1) := by decide +kernel
theorem dX7_bar_30 : decode cX7_bar 30 = .ok (.getfield 25, 3) := by decide +kernel
theorem dX7_bar_33 : decode cX7_bar 33 = .ok (.iload_n 1, 1) := by decide +kernel
theorem dX7_bar_34 : decode cX7_bar 34 = .ok (.iload_n 2, 1) := by decide +kernel
theorem dX7_bar_35 : decode cX7_bar 35 = .ok (.iastore, 1) := by decide +kernel
theorem dX7_bar_36 : decode cX7_bar 36 = .ok (.iload_n 3, 1) := by decide +kernel
theorem dX7_bar_37 : decode cX7_bar 37 = .ok (.ireturn, 1) := by decide +kernel
set_option maxRecDepth 20000 in
theorem ggX7_toll_X7_within : GoodIn wsX7_toll wsX7_within := goodIn_r _ [6] (by decide +kernel) (by decide +kernel)
set_option maxRecDepth 20000 in
theorem gX7_toll_X7_within : GoodIn wsX7_toll (va_wsS RX7 94 yX7_within wsX7_within) := goodIn_app (goodIn_of _ (by decide +kernel)) ggX7_toll_X7_within
theorem dX7_toll_0 : decode cX7_toll 0 = .ok (.iload_n 1, 1) := by decide +kernel
theorem dX7_toll_1 : decode cX7_toll 1 = .ok (.iconst 0, 1) := by decide +kernel
theorem dX7_toll_2 : decode cX7_toll 2 = .ok (.sipush 999, 3) := by decide +kernel
theorem dX7_toll_5 : decode cX7_toll 5 = .ok (.invokestatic 94, 3) := by decide +kernel
theorem dX7_toll_8 : decode cX7_toll 8 = .ok (.ifCond .ne 6, 3) := by decide +kernel
theorem dX7_toll_11 : decode cX7_toll 11 = .ok (.bipush (-2), 2) := by decide +kernel
theorem dX7_toll_13 : decode cX7_toll 13 = .ok (.ireturn, 1) := by decide +kernel
theorem dX7_toll_14 : decode cX7_toll 14 = .ok (.aload_n 0, 1) := by decide +kernel
theorem dX7_toll_15 : decode cX7_toll 15 = .ok (.getfield 142, 3) := by decide +kernel
theorem dX7_toll_18 : decode cX7_toll 18 = .ok (.ifCond .ne 6, 3) := by decide +kernel
theorem dX7_toll_21 : decode cX7_toll 21 = .ok (.bipush (-3), 2) := by decide +kernel
theorem dX7_toll_23 : decode cX7_toll 23 = .ok (.ireturn, 1) := by decide +kernel
theorem dX7_toll_24 : decode cX7_toll 24 = .ok (.aload_n 0, 1) := by decide +kernel
theorem dX7_toll_25 : decode cX7_toll 25 = .ok (.getfield 155, 3) := by decide +kernel
theorem dX7_toll_28 : decode cX7_toll 28 = .ok (.istore_n 2, 1) := by decide +kernel
theorem dX7_toll_29 : decode cX7_toll 29 = .ok (.aload_n 0, 1) := by decide +kernel
theorem dX7_toll_30 : decode cX7_toll 30 = .ok (.iload_n 1, 1) := by decide +kernel
theorem dX7_toll_31 : decode cX7_toll 31 = .ok (.putfield 155, 3) := by decide +kernel
theorem dX7_toll_34 : decode cX7_toll 34 = .ok (.iload_n 2, 1) := by decide +kernel
theorem dX7_toll_35 : decode cX7_toll 35 = .ok (.ireturn, 1) := by decide +kernel
set_option maxRecDepth 20000 in
theorem ggX7_board_X7_within : GoodIn wsX7_board wsX7_within := goodIn_r _ [7] (by decide +kernel) (by decide +kernel)
set_option maxRecDepth 20000 in
theorem gX7_board_X7_within : GoodIn wsX7_board (va_wsS RX7 94 yX7_within wsX7_within) := goodIn_app (goodIn_of _ (by decide +kernel)) ggX7_board_X7_within
theorem dX7_board_0 : decode cX7_board 0 = .ok (.iload_n 1, 1) := by decide +kernel
theorem dX7_board_1 : decode cX7_board 1 = .ok (.iconst 0, 1) := by decide +kernel
theorem dX7_board_2 : decode cX7_board 2 = .ok (.bipush 20, 2) := by decide +kernel
theorem dX7_board_4 : decode cX7_board 4 = .ok (.invokestatic 94, 3) := by decide +kernel
theorem dX7_board_7 : decode cX7_board 7 = .ok (.ifCond .eq 14, 3) := by decide +kernel
theorem dX7_board_10 : decode cX7_board 10 = .ok (.iload_n 2, 1) := by decide +kernel
theorem dX7_board_11 : decode cX7_board 11 = .ok (.bipush (-20), 2) := by decide +kernel
theorem dX7_board_13 : decode cX7_board 13 = .ok (.bipush 20, 2) := by decide +kernel
theorem dX7_board_15 : decode cX7_board 15 = .ok (.invokestatic 94, 3) := by decide +kernel
theorem dX7_board_18 : decode cX7_board 18 = .ok (.ifCond .ne 6, 3) := by decide +kernel
theorem dX7_board_21 : decode cX7_board 21 = .ok (.bipush (-2), 2) := by decide +kernel
theorem dX7_board_23 : decode cX7_board 23 = .ok (.ireturn, 1) := by decide +kernel
theorem dX7_board_24 : decode cX7_board 24 = .ok (.aload_n 0, 1) := by decide +kernel
theorem dX7_board_25 : decode cX7_board 25 = .ok (.getfield 142, 3) := by decide +kernel
theorem dX7_board_28 : decode cX7_board 28 = .ok (.ifCond .ne 6, 3) := by decide +kernel
theorem dX7_board_31 : decode cX7_board 31 = .ok (.bipush (-3), 2) := by decide +kernel
theorem dX7_board_33 : decode cX7_board 33 = .ok (.ireturn, 1) := by decide +kernel
theorem dX7_board_34 : decode cX7_board 34 = .ok (.iload_n 1, 1) := by decide +kernel
theorem dX7_board_35 : decode cX7_board 35 = .ok (.ifCond .ne 7, 3) := by decide +kernel
theorem dX7_board_38 : decode cX7_board 38 = .ok (.iconst 0, 1) := by decide +kernel
theorem dX7_board_39 : decode cX7_board 39 = .ok (.goto 4, 3) := by decide +kernel
theorem dX7_board_42 : decode cX7_board 42 = .ok (.iload_n 2, 1) := by decide +kernel
theorem dX7_board_43 : decode cX7_board 43 = .ok (.istore_n 3, 1) := by decide +kernel
theorem dX7_board_44 : decode cX7_board 44 = .ok (.aload_n 0, 1) := by decide +kernel
theorem dX7_board_45 : decode cX7_board 45 = .ok (.getfield 158, 3) := by decide +kernel
theorem dX7_board_48 : decode cX7_board 48 = .ok (.iload_n 1, 1) := by decide +kernel
theorem dX7_board_49 : decode cX7_board 49 = .ok (.if_icmp .ne 15, 3) := by decide +kernel
theorem dX7_board_52 : decode cX7_board 52 = .ok (.aload_n 0, 1) := by decide +kernel
theorem dX7_board_53 : decode cX7_board 53 = .ok (.getfield 161, 3) := by decide +kernel
theorem dX7_board_56 : decode cX7_board 56 = .ok (.iload_n 3, 1) := by decide +kernel
theorem dX7_board_57 : decode cX7_board 57 = .ok (.if_icmp .ne 7, 3) := by decide +kernel
theorem dX7_board_60 : decode cX7_board 60 = .ok (.iconst 0, 1) := by decide +kernel
theorem dX7_board_61 : decode cX7_board 61 = .ok (.goto 4, 3) := by decide +kernel
theorem dX7_board_64 : decode cX7_board 64 = .ok (.iconst 1, 1) := by decide +kernel
theorem dX7_board_65 : decode cX7_board 65 = .ok (.istore 4, 2) := by decide +kernel
theorem dX7_board_67 : decode cX7_board 67 = .ok (.aload_n 0, 1) := by decide +kernel
theorem dX7_board_68 : decode cX7_board 68 = .ok (.iload_n 1, 1) := by decide +kernel
theorem dX7_board_69 : decode cX7_board 69 = .ok (.putfield 158, 3) := by decide +kernel
theorem dX7_board_72 : decode cX7_board 72 = .ok (.aload_n 0, 1) := by decide +kernel
theorem dX7_board_73 : decode cX7_board 73 = .ok (.iload_n 3, 1) := by decide +kernel
theorem dX7_board_74 : decode cX7_board 74 = .ok (.putfield 161, 3) := by decide +kernel
theorem dX7_board_77 : decode cX7_board 77 = .ok (.iload 4, 2) := by decide +kernel
theorem dX7_board_79 : decode cX7_board 79 = .ok (.ireturn, 1) := by decide +kernel
theorem dX7_layJoins_0 : decode cX7_layJoins 0 = .ok (.iconst 0, 1) := by decide +kernel
theorem dX7_layJoins_1 : decode cX7_layJoins 1 = .ok (.istore_n 2, 1) := by decide +kernel
theorem dX7_layJoins_2 : decode cX7_layJoins 2 = .ok (.iload_n 2, 1) := by decide +kernel
theorem dX7_layJoins_3 : decode cX7_layJoins 3 = .ok (.iconst 5, 1) := by decide +kernel
theorem dX7_layJoins_4 : decode cX7_layJoins 4 = .ok (.if_icmp .gt 58, 3) := by decide +kernel
theorem dX7_layJoins_7 : decode cX7_layJoins 7 = .ok (.aload_n 0, 1) := by decide +kernel
theorem dX7_layJoins_8 : decode cX7_layJoins 8 = .ok (.getfield 34, 3) := by decide +kernel
theorem dX7_layJoins_11 : decode cX7_layJoins 11 = .ok (.iload_n 2, 1) := by decide +kernel
theorem dX7_layJoins_12 : decode cX7_layJoins 12 = .ok (.iconst 0, 1) := by decide +kernel
theorem dX7_layJoins_13 : decode cX7_layJoins 13 = .ok (.iastore, 1) := by decide +kernel
theorem dX7_layJoins_14 : decode cX7_layJoins 14 = .ok (.iconst 0, 1) := by decide +kernel
theorem dX7_layJoins_15 : decode cX7_layJoins 15 = .ok (.istore_n 3, 1) := by decide +kernel
theorem dX7_layJoins_16 : decode cX7_layJoins 16 = .ok (.iload_n 3, 1) := by decide +kernel
theorem dX7_layJoins_17 : decode cX7_layJoins 17 = .ok (.aload_n 0, 1) := by decide +kernel
theorem dX7_layJoins_18 : decode cX7_layJoins 18 = .ok (.getfield 152, 3) := by decide +kernel
theorem dX7_layJoins_21 : decode cX7_layJoins 21 = .ok (.if_icmp .ge 35, 3) := by decide +kernel
theorem dX7_layJoins_24 : decode cX7_layJoins 24 = .ok (.aload_n 0, 1) := by decide +kernel
theorem dX7_layJoins_25 : decode cX7_layJoins 25 = .ok (.getfield 34, 3) := by decide +kernel
theorem dX7_layJoins_28 : decode cX7_layJoins 28 = .ok (.iload_n 2, 1) := by decide +kernel
theorem dX7_layJoins_29 : decode cX7_layJoins 29 = .ok (.dup2, 1) := by decide +kernel
theorem dX7_layJoins_30 : decode cX7_layJoins 30 = .ok (.iaload, 1) := by decide +kernel
theorem dX7_layJoins_31 : decode cX7_layJoins 31 = .ok (.aload_n 1, 1) := by decide +kernel
theorem dX7_layJoins_32 : decode cX7_layJoins 32 = .ok (.iload_n 3, 1) := by decide +kernel
theorem dX7_layJoins_33 : decode cX7_layJoins 33 = .ok (.iaload, 1) := by decide +kernel
theorem dX7_layJoins_34 : decode cX7_layJoins 34 = .ok (.iload_n 2, 1) := by decide +kernel
theorem dX7_layJoins_35 : decode cX7_layJoins 35 = .ok (.if_icmp .le 12, 3) := by decide +kernel
theorem dX7_layJoins_38 : decode cX7_layJoins 38 = .ok (.aload_n 0, 1) := by decide +kernel
theorem dX7_layJoins_39 : decode cX7_layJoins 39 = .ok (.getfield 19, 3) := by decide +kernel
theorem dX7_layJoins_42 : decode cX7_layJoins 42 = .ok (.iload_n 3, 1) := by decide +kernel
theorem dX7_layJoins_43 : decode cX7_layJoins 43 = .ok (.iaload, 1) := by decide +kernel
theorem dX7_layJoins_44 : decode cX7_layJoins 44 = .ok (.goto 4, 3) := by decide +kernel
theorem dX7_layJoins_47 : decode cX7_layJoins 47 = .ok (.iconst 0, 1) := by decide +kernel
theorem dX7_layJoins_48 : decode cX7_layJoins 48 = .ok (.iadd, 1) := by decide +kernel
theorem dX7_layJoins_49 : decode cX7_layJoins 49 = .ok (.iastore, 1) := by decide +kernel
theorem dX7_layJoins_50 : decode cX7_layJoins 50 = .ok (.iinc 3 1, 3) := by decide +kernel
theorem dX7_layJoins_53 : decode cX7_layJoins 53 = .ok (.goto (-37), 3) := by decide +kernel
theorem dX7_layJoins_56 : decode cX7_layJoins 56 = .ok (.iinc 2 1, 3) := by decide +kernel
theorem dX7_layJoins_59 : decode cX7_layJoins 59 = .ok (.goto (-57), 3) := by decide +kernel
theorem dX7_layJoins_62 : decode cX7_layJoins 62 = .ok (.return_, 1) := by decide +kernel
theorem dX7_layWeights_0 : decode cX7_layWeights 0 = .ok (.iconst 0, 1) := by decide +kernel
theorem dX7_layWeights_1 : decode cX7_layWeights 1 = .ok (.istore_n 2, 1) := by decide +kernel
theorem dX7_layWeights_2 : decode cX7_layWeights 2 = .ok (.iload_n 2, 1) := by decide +kernel
theorem dX7_layWeights_3 : decode cX7_layWeights 3 = .ok (.iload_n 1, 1) := by decide +kernel
theorem dX7_layWeights_4 : decode cX7_layWeights 4 = .ok (.if_icmp .gt 60, 3) := by decide +kernel
theorem dX7_layWeights_7 : decode cX7_layWeights 7 = .ok (.aload_n 0, 1) := by decide +kernel
theorem dX7_layWeights_8 : decode cX7_layWeights 8 = .ok (.getfield 44, 3) := by decide +kernel
theorem dX7_layWeights_11 : decode cX7_layWeights 11 = .ok (.iload_n 2, 1) := by decide +kernel
theorem dX7_layWeights_12 : decode cX7_layWeights 12 = .ok (.lconst 1, 1) := by decide +kernel
theorem dX7_layWeights_13 : decode cX7_layWeights 13 = .ok (.lastore, 1) := by decide +kernel
theorem dX7_layWeights_14 : decode cX7_layWeights 14 = .ok (.iconst 0, 1) := by decide +kernel
theorem dX7_layWeights_15 : decode cX7_layWeights 15 = .ok (.istore_n 3, 1) := by decide +kernel
theorem dX7_layWeights_16 : decode cX7_layWeights 16 = .ok (.iload_n 3, 1) := by decide +kernel
theorem dX7_layWeights_17 : decode cX7_layWeights 17 = .ok (.iload_n 1, 1) := by decide +kernel
theorem dX7_layWeights_18 : decode cX7_layWeights 18 = .ok (.if_icmp .ge 40, 3) := by decide +kernel
theorem dX7_layWeights_21 : decode cX7_layWeights 21 = .ok (.aload_n 0, 1) := by decide +kernel
theorem dX7_layWeights_22 : decode cX7_layWeights 22 = .ok (.getfield 44, 3) := by decide +kernel
theorem dX7_layWeights_25 : decode cX7_layWeights 25 = .ok (.iload_n 2, 1) := by decide +kernel
theorem dX7_layWeights_26 : decode cX7_layWeights 26 = .ok (.dup2, 1) := by decide +kernel
theorem dX7_layWeights_27 : decode cX7_layWeights 27 = .ok (.laload, 1) := by decide +kernel
theorem dX7_layWeights_28 : decode cX7_layWeights 28 = .ok (.iload_n 3, 1) := by decide +kernel
theorem dX7_layWeights_29 : decode cX7_layWeights 29 = .ok (.iload_n 2, 1) := by decide +kernel
theorem dX7_layWeights_30 : decode cX7_layWeights 30 = .ok (.if_icmp .ge 12, 3) := by decide +kernel
theorem dX7_layWeights_33 : decode cX7_layWeights 33 = .ok (.aload_n 0, 1) := by decide +kernel
theorem dX7_layWeights_34 : decode cX7_layWeights 34 = .ok (.getfield 37, 3) := by decide +kernel
theorem dX7_layWeights_37 : decode cX7_layWeights 37 = .ok (.iload_n 3, 1) := by decide +kernel
theorem dX7_layWeights_38 : decode cX7_layWeights 38 = .ok (.laload, 1) := by decide +kernel
theorem dX7_layWeights_39 : decode cX7_layWeights 39 = .ok (.goto 11, 3) := by decide +kernel
theorem dX7_layWeights_42 : decode cX7_layWeights 42 = .ok (.aload_n 0, 1) := by decide +kernel
theorem dX7_layWeights_43 : decode cX7_layWeights 43 = .ok (.getfield 41, 3) := by decide +kernel
theorem dX7_layWeights_46 : decode cX7_layWeights 46 = .ok (.iload_n 3, 1) := by decide +kernel
theorem dX7_layWeights_47 : decode cX7_layWeights 47 = .ok (.iconst 1, 1) := by decide +kernel
theorem dX7_layWeights_48 : decode cX7_layWeights 48 = .ok (.iadd, 1) := by decide +kernel
theorem dX7_layWeights_49 : decode cX7_layWeights 49 = .ok (.laload, 1) := by decide +kernel
theorem dX7_layWeights_50 : decode cX7_layWeights 50 = .ok (.lmul, 1) := by decide +kernel
theorem dX7_layWeights_51 : decode cX7_layWeights 51 = .ok (.lastore, 1) := by decide +kernel
theorem dX7_layWeights_52 : decode cX7_layWeights 52 = .ok (.iinc 3 1, 3) := by decide +kernel
theorem dX7_layWeights_55 : decode cX7_layWeights 55 = .ok (.goto (-39), 3) := by decide +kernel
theorem dX7_layWeights_58 : decode cX7_layWeights 58 = .ok (.iinc 2 1, 3) := by decide +kernel
theorem dX7_layWeights_61 : decode cX7_layWeights 61 = .ok (.goto (-59), 3) := by decide +kernel
theorem dX7_layWeights_64 : decode cX7_layWeights 64 = .ok (.iload_n 1, 1) := by decide +kernel
theorem dX7_layWeights_65 : decode cX7_layWeights 65 = .ok (.iconst 1, 1) := by decide +kernel
theorem dX7_layWeights_66 : decode cX7_layWeights 66 = .ok (.iadd, 1) := by decide +kernel
theorem dX7_layWeights_67 : decode cX7_layWeights 67 = .ok (.istore_n 2, 1) := by decide +kernel
theorem dX7_layWeights_68 : decode cX7_layWeights 68 = .ok (.iload_n 2, 1) := by decide +kernel
theorem dX7_layWeights_69 : decode cX7_layWeights 69 = .ok (.bipush 8, 2) := by decide +kernel
theorem dX7_layWeights_71 : decode cX7_layWeights 71 = .ok (.if_icmp .ge 16, 3) := by decide +kernel
theorem dX7_layWeights_74 : decode cX7_layWeights 74 = .ok (.aload_n 0, 1) := by decide +kernel
theorem dX7_layWeights_75 : decode cX7_layWeights 75 = .ok (.getfield 44, 3) := by decide +kernel
theorem dX7_layWeights_78 : decode cX7_layWeights 78 = .ok (.iload_n 2, 1) := by decide +kernel
theorem dX7_layWeights_79 : decode cX7_layWeights 79 = .ok (.lconst 0, 1) := by decide +kernel
theorem dX7_layWeights_80 : decode cX7_layWeights 80 = .ok (.lastore, 1) := by decide +kernel
theorem dX7_layWeights_81 : decode cX7_layWeights 81 = .ok (.iinc 2 1, 3) := by decide +kernel
theorem dX7_layWeights_84 : decode cX7_layWeights 84 = .ok (.goto (-16), 3) := by decide +kernel
theorem dX7_layWeights_87 : decode cX7_layWeights 87 = .ok (.return_, 1) := by decide +kernel
set_option maxRecDepth 20000 in
theorem ggX7_layRun_X7_layJoins : GoodIn wsX7_layRun wsX7_layJoins := goodIn_r _ [10, 4, 11, 12, 18, 19, 20, 21, 22, 23, 24, 25, 26, 27, 28, 29, 30, 31, 32, 33, 34, 35, 36, 37, 38, 39, 40, 41, 42, 43, 44, 45, 46, 47, 48, 49, 50, 51, 52, 53, 54, 55, 56, 57] (by decide +kernel) (by decide +kernel)
set_option maxRecDepth 20000 in
theorem gX7_layRun_X7_layJoins : GoodIn wsX7_layRun (wsV RX7 184 RX7 yX7_layJoins wsX7_layJoins) := goodIn_app (goodIn_of _ (by decide +kernel)) ggX7_layRun_X7_layJoins
set_option maxRecDepth 20000 in
theorem ggX7_layRun_X7_layWeights : GoodIn wsX7_layRun wsX7_layWeights := goodIn_r _ [16, 17, 1, 5, 18, 19, 20, 21, 22, 23, 24, 25, 26, 27, 28, 29, 30, 31, 32, 33, 34, 35, 36, 37, 38, 39, 40, 41, 42, 43, 44, 45, 46, 47, 48, 49, 50, 51, 52, 53, 54, 55, 56, 57] (by decide +kernel) (by decide +kernel)
set_option maxRecDepth 20000 in
theorem gX7_layRun_X7_layWeights : GoodIn wsX7_layRun (wsV RX7 190 RX7 yX7_layWeights wsX7_layWeights) := goodIn_app (goodIn_of _ (by decide +kernel)) ggX7_layRun_X7_layWeights
theorem dX7_layRun_0 : decode cX7_layRun 0 = .ok (.aload_n 0, 1) := by decide +kernel
theorem dX7_layRun_1 : decode cX7_layRun 1 = .ok (.aload_n 1, 1) := by decide +kernel
theorem dX7_layRun_2 : decode cX7_layRun 2 = .ok (.invokevirtual 184, 3) := by decide +kernel
theorem dX7_layRun_5 : decode cX7_layRun 5 = .ok (.iconst 0, 1) := by decide +kernel
theorem dX7_layRun_6 : decode cX7_layRun 6 = .ok (.istore_n 2, 1) := by decide +kernel
theorem dX7_layRun_7 : decode cX7_layRun 7 = .ok (.iload_n 2, 1) := by decide +kernel
theorem dX7_layRun_8 : decode cX7_layRun 8 = .ok (.iconst 5, 1) := by decide +kernel
theorem dX7_layRun_9 : decode cX7_layRun 9 = .ok (.if_icmp .gt 74, 3) := by decide +kernel
theorem dX7_layRun_12 : decode cX7_layRun 12 = .ok (.aload_n 0, 1) := by decide +kernel
theorem dX7_layRun_13 : decode cX7_layRun 13 = .ok (.getfield 37, 3) := by decide +kernel
theorem dX7_layRun_16 : decode cX7_layRun 16 = .ok (.iload_n 2, 1) := by decide +kernel
theorem dX7_layRun_17 : decode cX7_layRun 17 = .ok (.iload_n 2, 1) := by decide +kernel
theorem dX7_layRun_18 : decode cX7_layRun 18 = .ok (.ifCond .ne 9, 3) := by decide +kernel
theorem dX7_layRun_21 : decode cX7_layRun 21 = .ok (.ldc2_w 188, 3) := by decide +kernel
theorem dX7_layRun_24 : decode cX7_layRun 24 = .ok (.goto 12, 3) := by decide +kernel
theorem dX7_layRun_27 : decode cX7_layRun 27 = .ok (.ldc2_w 188, 3) := by decide +kernel
theorem dX7_layRun_30 : decode cX7_layRun 30 = .ok (.aload_n 0, 1) := by decide +kernel
theorem dX7_layRun_31 : decode cX7_layRun 31 = .ok (.getfield 146, 3) := by decide +kernel
theorem dX7_layRun_34 : decode cX7_layRun 34 = .ok (.i2l, 1) := by decide +kernel
theorem dX7_layRun_35 : decode cX7_layRun 35 = .ok (.lsub, 1) := by decide +kernel
theorem dX7_layRun_36 : decode cX7_layRun 36 = .ok (.aload_n 0, 1) := by decide +kernel
theorem dX7_layRun_37 : decode cX7_layRun 37 = .ok (.getfield 34, 3) := by decide +kernel
theorem dX7_layRun_40 : decode cX7_layRun 40 = .ok (.iload_n 2, 1) := by decide +kernel
theorem dX7_layRun_41 : decode cX7_layRun 41 = .ok (.iaload, 1) := by decide +kernel
theorem dX7_layRun_42 : decode cX7_layRun 42 = .ok (.i2l, 1) := by decide +kernel
theorem dX7_layRun_43 : decode cX7_layRun 43 = .ok (.lmul, 1) := by decide +kernel
theorem dX7_layRun_44 : decode cX7_layRun 44 = .ok (.lastore, 1) := by decide +kernel
theorem dX7_layRun_45 : decode cX7_layRun 45 = .ok (.aload_n 0, 1) := by decide +kernel
theorem dX7_layRun_46 : decode cX7_layRun 46 = .ok (.getfield 41, 3) := by decide +kernel
theorem dX7_layRun_49 : decode cX7_layRun 49 = .ok (.iload_n 2, 1) := by decide +kernel
theorem dX7_layRun_50 : decode cX7_layRun 50 = .ok (.iload_n 2, 1) := by decide +kernel
theorem dX7_layRun_51 : decode cX7_layRun 51 = .ok (.ifCond .ne 7, 3) := by decide +kernel
theorem dX7_layRun_54 : decode cX7_layRun 54 = .ok (.lconst 0, 1) := by decide +kernel
theorem dX7_layRun_55 : decode cX7_layRun 55 = .ok (.goto 21, 3) := by decide +kernel
theorem dX7_layRun_58 : decode cX7_layRun 58 = .ok (.aload_n 0, 1) := by decide +kernel
theorem dX7_layRun_59 : decode cX7_layRun 59 = .ok (.getfield 146, 3) := by decide +kernel
theorem dX7_layRun_62 : decode cX7_layRun 62 = .ok (.i2l, 1) := by decide +kernel
theorem dX7_layRun_63 : decode cX7_layRun 63 = .ok (.bipush 12, 2) := by decide +kernel
theorem dX7_layRun_65 : decode cX7_layRun 65 = .ok (.aload_n 0, 1) := by decide +kernel
theorem dX7_layRun_66 : decode cX7_layRun 66 = .ok (.getfield 34, 3) := by decide +kernel
theorem dX7_layRun_69 : decode cX7_layRun 69 = .ok (.iload_n 2, 1) := by decide +kernel
theorem dX7_layRun_70 : decode cX7_layRun 70 = .ok (.iconst 1, 1) := by decide +kernel
theorem dX7_layRun_71 : decode cX7_layRun 71 = .ok (.isub, 1) := by decide +kernel
theorem dX7_layRun_72 : decode cX7_layRun 72 = .ok (.iaload, 1) := by decide +kernel
theorem dX7_layRun_73 : decode cX7_layRun 73 = .ok (.isub, 1) := by decide +kernel
theorem dX7_layRun_74 : decode cX7_layRun 74 = .ok (.i2l, 1) := by decide +kernel
theorem dX7_layRun_75 : decode cX7_layRun 75 = .ok (.lmul, 1) := by decide +kernel
theorem dX7_layRun_76 : decode cX7_layRun 76 = .ok (.lastore, 1) := by decide +kernel
theorem dX7_layRun_77 : decode cX7_layRun 77 = .ok (.iinc 2 1, 3) := by decide +kernel
theorem dX7_layRun_80 : decode cX7_layRun 80 = .ok (.goto (-73), 3) := by decide +kernel
theorem dX7_layRun_83 : decode cX7_layRun 83 = .ok (.aload_n 0, 1) := by decide +kernel
theorem dX7_layRun_84 : decode cX7_layRun 84 = .ok (.iconst 5, 1) := by decide +kernel
theorem dX7_layRun_85 : decode cX7_layRun 85 = .ok (.invokevirtual 190, 3) := by decide +kernel
theorem dX7_layRun_88 : decode cX7_layRun 88 = .ok (.return_, 1) := by decide +kernel
theorem dX7_allWeights_0 : decode cX7_allWeights 0 = .ok (.lconst 0, 1) := by decide +kernel
theorem dX7_allWeights_1 : decode cX7_allWeights 1 = .ok (.lstore_n 1, 1) := by decide +kernel
theorem dX7_allWeights_2 : decode cX7_allWeights 2 = .ok (.iconst 0, 1) := by decide +kernel
theorem dX7_allWeights_3 : decode cX7_allWeights 3 = .ok (.istore_n 3, 1) := by decide +kernel
theorem dX7_allWeights_4 : decode cX7_allWeights 4 = .ok (.iload_n 3, 1) := by decide +kernel
theorem dX7_allWeights_5 : decode cX7_allWeights 5 = .ok (.iconst 5, 1) := by decide +kernel
theorem dX7_allWeights_6 : decode cX7_allWeights 6 = .ok (.if_icmp .gt 18, 3) := by decide +kernel
theorem dX7_allWeights_9 : decode cX7_allWeights 9 = .ok (.lload_n 1, 1) := by decide +kernel
theorem dX7_allWeights_10 : decode cX7_allWeights 10 = .ok (.aload_n 0, 1) := by decide +kernel
theorem dX7_allWeights_11 : decode cX7_allWeights 11 = .ok (.getfield 44, 3) := by decide +kernel
theorem dX7_allWeights_14 : decode cX7_allWeights 14 = .ok (.iload_n 3, 1) := by decide +kernel
theorem dX7_allWeights_15 : decode cX7_allWeights 15 = .ok (.laload, 1) := by decide +kernel
theorem dX7_allWeights_16 : decode cX7_allWeights 16 = .ok (.ladd, 1) := by decide +kernel
theorem dX7_allWeights_17 : decode cX7_allWeights 17 = .ok (.lstore_n 1, 1) := by decide +kernel
theorem dX7_allWeights_18 : decode cX7_allWeights 18 = .ok (.iinc 3 1, 3) := by decide +kernel
theorem dX7_allWeights_21 : decode cX7_allWeights 21 = .ok (.goto (-17), 3) := by decide +kernel
theorem dX7_allWeights_24 : decode cX7_allWeights 24 = .ok (.lload_n 1, 1) := by decide +kernel
theorem dX7_allWeights_25 : decode cX7_allWeights 25 = .ok (.lreturn, 1) := by decide +kernel
theorem dX7_meanWeights_0 : decode cX7_meanWeights 0 = .ok (.lconst 0, 1) := by decide +kernel
theorem dX7_meanWeights_1 : decode cX7_meanWeights 1 = .ok (.lstore_n 1, 1) := by decide +kernel
theorem dX7_meanWeights_2 : decode cX7_meanWeights 2 = .ok (.iconst 0, 1) := by decide +kernel
theorem dX7_meanWeights_3 : decode cX7_meanWeights 3 = .ok (.istore_n 3, 1) := by decide +kernel
theorem dX7_meanWeights_4 : decode cX7_meanWeights 4 = .ok (.iload_n 3, 1) := by decide +kernel
theorem dX7_meanWeights_5 : decode cX7_meanWeights 5 = .ok (.iconst 5, 1) := by decide +kernel
theorem dX7_meanWeights_6 : decode cX7_meanWeights 6 = .ok (.if_icmp .gt 21, 3) := by decide +kernel
theorem dX7_meanWeights_9 : decode cX7_meanWeights 9 = .ok (.lload_n 1, 1) := by decide +kernel
theorem dX7_meanWeights_10 : decode cX7_meanWeights 10 = .ok (.iload_n 3, 1) := by decide +kernel
theorem dX7_meanWeights_11 : decode cX7_meanWeights 11 = .ok (.i2l, 1) := by decide +kernel
theorem dX7_meanWeights_12 : decode cX7_meanWeights 12 = .ok (.aload_n 0, 1) := by decide +kernel
theorem dX7_meanWeights_13 : decode cX7_meanWeights 13 = .ok (.getfield 44, 3) := by decide +kernel
theorem dX7_meanWeights_16 : decode cX7_meanWeights 16 = .ok (.iload_n 3, 1) := by decide +kernel
theorem dX7_meanWeights_17 : decode cX7_meanWeights 17 = .ok (.laload, 1) := by decide +kernel
theorem dX7_meanWeights_18 : decode cX7_meanWeights 18 = .ok (.lmul, 1) := by decide +kernel
theorem dX7_meanWeights_19 : decode cX7_meanWeights 19 = .ok (.ladd, 1) := by decide +kernel
theorem dX7_meanWeights_20 : decode cX7_meanWeights 20 = .ok (.lstore_n 1, 1) := by decide +kernel
theorem dX7_meanWeights_21 : decode cX7_meanWeights 21 = .ok (.iinc 3 1, 3) := by decide +kernel
theorem dX7_meanWeights_24 : decode cX7_meanWeights 24 = .ok (.goto (-20), 3) := by decide +kernel
theorem dX7_meanWeights_27 : decode cX7_meanWeights 27 = .ok (.lload_n 1, 1) := by decide +kernel
theorem dX7_meanWeights_28 : decode cX7_meanWeights 28 = .ok (.lreturn, 1) := by decide +kernel
theorem dX7_metAt_0 : decode cX7_metAt 0 = .ok (.aload_n 0, 1) := by decide +kernel
theorem dX7_metAt_1 : decode cX7_metAt 1 = .ok (.getfield 44, 3) := by decide +kernel
theorem dX7_metAt_4 : decode cX7_metAt 4 = .ok (.iload_n 1, 1) := by decide +kernel
theorem dX7_metAt_5 : decode cX7_metAt 5 = .ok (.laload, 1) := by decide +kernel
theorem dX7_metAt_6 : decode cX7_metAt 6 = .ok (.iload_n 1, 1) := by decide +kernel
theorem dX7_metAt_7 : decode cX7_metAt 7 = .ok (.ifCond .ne 8, 3) := by decide +kernel
theorem dX7_metAt_10 : decode cX7_metAt 10 = .ok (.bipush 12, 2) := by decide +kernel
theorem dX7_metAt_12 : decode cX7_metAt 12 = .ok (.goto 10, 3) := by decide +kernel
theorem dX7_metAt_15 : decode cX7_metAt 15 = .ok (.bipush 12, 2) := by decide +kernel
theorem dX7_metAt_17 : decode cX7_metAt 17 = .ok (.aload_n 0, 1) := by decide +kernel
theorem dX7_metAt_18 : decode cX7_metAt 18 = .ok (.getfield 146, 3) := by decide +kernel
theorem dX7_metAt_21 : decode cX7_metAt 21 = .ok (.isub, 1) := by decide +kernel
theorem dX7_metAt_22 : decode cX7_metAt 22 = .ok (.i2l, 1) := by decide +kernel
theorem dX7_metAt_23 : decode cX7_metAt 23 = .ok (.lmul, 1) := by decide +kernel
theorem dX7_metAt_24 : decode cX7_metAt 24 = .ok (.aload_n 0, 1) := by decide +kernel
theorem dX7_metAt_25 : decode cX7_metAt 25 = .ok (.getfield 44, 3) := by decide +kernel
theorem dX7_metAt_28 : decode cX7_metAt 28 = .ok (.iload_n 1, 1) := by decide +kernel
theorem dX7_metAt_29 : decode cX7_metAt 29 = .ok (.iconst 1, 1) := by decide +kernel
theorem dX7_metAt_30 : decode cX7_metAt 30 = .ok (.iadd, 1) := by decide +kernel
theorem dX7_metAt_31 : decode cX7_metAt 31 = .ok (.laload, 1) := by decide +kernel
theorem dX7_metAt_32 : decode cX7_metAt 32 = .ok (.aload_n 0, 1) := by decide +kernel
theorem dX7_metAt_33 : decode cX7_metAt 33 = .ok (.getfield 146, 3) := by decide +kernel
theorem dX7_metAt_36 : decode cX7_metAt 36 = .ok (.i2l, 1) := by decide +kernel
theorem dX7_metAt_37 : decode cX7_metAt 37 = .ok (.lmul, 1) := by decide +kernel
theorem dX7_metAt_38 : decode cX7_metAt 38 = .ok (.ladd, 1) := by decide +kernel
theorem dX7_metAt_39 : decode cX7_metAt 39 = .ok (.lreturn, 1) := by decide +kernel
set_option maxRecDepth 20000 in
theorem ggX7_often_X7_within : GoodIn wsX7_often wsX7_within := goodIn_r _ [8] (by decide +kernel) (by decide +kernel)
set_option maxRecDepth 20000 in
theorem gX7_often_X7_within : GoodIn wsX7_often (va_wsS RX7 94 yX7_within wsX7_within) := goodIn_app (goodIn_of _ (by decide +kernel)) ggX7_often_X7_within
set_option maxRecDepth 20000 in
theorem ggX7_often_X7_isWhich : GoodIn wsX7_often wsX7_isWhich := goodIn_r _ [11] (by decide +kernel) (by decide +kernel)
set_option maxRecDepth 20000 in
theorem gX7_often_X7_isWhich : GoodIn wsX7_often (va_wsS RX7 194 yX7_isWhich wsX7_isWhich) := goodIn_app (goodIn_of _ (by decide +kernel)) ggX7_often_X7_isWhich
set_option maxRecDepth 20000 in
theorem ggX7_often_X7_layRun : GoodIn wsX7_often wsX7_layRun := goodIn_r _ [15, 16, 17, 18, 19, 20, 21, 22, 23, 7, 24, 25, 26, 27, 28, 29, 30, 4, 48, 49, 50, 51, 52, 53, 54, 55, 56, 57, 58, 59, 60, 61, 62, 63, 64, 65, 66, 67, 68, 69, 70, 71, 72, 73, 74, 75, 76, 77, 78, 79, 80, 81, 82, 83, 84, 85, 86, 87] (by decide +kernel) (by decide +kernel)
set_option maxRecDepth 20000 in
theorem gX7_often_X7_layRun : GoodIn wsX7_often (wsV RX7 197 RX7 yX7_layRun wsX7_layRun) := goodIn_app (goodIn_of _ (by decide +kernel)) ggX7_often_X7_layRun
set_option maxRecDepth 20000 in
theorem ggX7_often_X7_allWeights : GoodIn wsX7_often wsX7_allWeights := goodIn_r _ [34, 4, 48, 49, 50, 51, 52, 53, 54, 55, 56, 57, 58, 59, 60, 61, 62, 63, 64, 65, 66, 67, 68, 69, 70, 71, 72, 73, 74, 75, 76, 77, 78, 79, 80, 81, 82, 83, 84, 85, 86, 87] (by decide +kernel) (by decide +kernel)
set_option maxRecDepth 20000 in
theorem gX7_often_X7_allWeights : GoodIn wsX7_often (wsV RX7 200 RX7 yX7_allWeights wsX7_allWeights) := goodIn_app (goodIn_of _ (by decide +kernel)) ggX7_often_X7_allWeights
set_option maxRecDepth 20000 in
theorem ggX7_often_X7_share : GoodIn wsX7_often wsX7_share := goodIn_r _ [38, 39, 40, 41, 42, 7, 43, 48, 49, 50, 51, 52, 53, 54, 55, 56, 57, 58, 59, 60, 61, 62, 63, 64, 65, 66, 67, 68, 69, 70, 71, 72, 73, 74, 75, 76, 77, 78, 79, 80, 81, 82, 83, 84, 85, 86, 87] (by decide +kernel) (by decide +kernel)
set_option maxRecDepth 20000 in
theorem gX7_often_X7_share : GoodIn wsX7_often (wsV RX7 204 RX7 yX7_share wsX7_share) := goodIn_app (goodIn_of _ (by decide +kernel)) ggX7_often_X7_share
set_option maxRecDepth 20000 in
theorem ggX7_often_X7_told : GoodIn wsX7_often wsX7_told := goodIn_r _ [47, 39, 40, 48, 49, 50, 51, 52, 53, 54, 55, 56, 57, 58, 59, 60, 61, 62, 63, 64, 65, 66, 67, 68, 69, 70, 71, 72, 73, 74, 75, 76, 77, 78, 79, 80, 81, 82, 83, 84, 85, 86, 87] (by decide +kernel) (by decide +kernel)
set_option maxRecDepth 20000 in
theorem gX7_often_X7_told : GoodIn wsX7_often (wsV RX7 208 RX7 yX7_told wsX7_told) := goodIn_app (goodIn_of _ (by decide +kernel)) ggX7_often_X7_told
theorem dX7_often_0 : decode cX7_often 0 = .ok (.iload_n 1, 1) := by decide +kernel
theorem dX7_often_1 : decode cX7_often 1 = .ok (.iconst 0, 1) := by decide +kernel
theorem dX7_often_2 : decode cX7_often 2 = .ok (.iconst 5, 1) := by decide +kernel
theorem dX7_often_3 : decode cX7_often 3 = .ok (.invokestatic 94, 3) := by decide +kernel
theorem dX7_often_6 : decode cX7_often 6 = .ok (.ifCond .eq 17, 3) := by decide +kernel
theorem dX7_often_9 : decode cX7_often 9 = .ok (.iload_n 2, 1) := by decide +kernel
theorem dX7_often_10 : decode cX7_often 10 = .ok (.invokestatic 194, 3) := by decide +kernel
theorem dX7_often_13 : decode cX7_often 13 = .ok (.ifCond .eq 10, 3) := by decide +kernel
theorem dX7_often_16 : decode cX7_often 16 = .ok (.aload_n 0, 1) := by decide +kernel
theorem dX7_often_17 : decode cX7_often 17 = .ok (.getfield 142, 3) := by decide +kernel
theorem dX7_often_20 : decode cX7_often 20 = .ok (.ifCond .ne 7, 3) := by decide +kernel
theorem dX7_often_23 : decode cX7_often 23 = .ok (.ldc2_w 78, 3) := by decide +kernel
theorem dX7_often_26 : decode cX7_often 26 = .ok (.lreturn, 1) := by decide +kernel
theorem dX7_often_27 : decode cX7_often 27 = .ok (.aload_n 0, 1) := by decide +kernel
theorem dX7_often_28 : decode cX7_often 28 = .ok (.aload_n 0, 1) := by decide +kernel
theorem dX7_often_29 : decode cX7_often 29 = .ok (.getfield 25, 3) := by decide +kernel
theorem dX7_often_32 : decode cX7_often 32 = .ok (.invokevirtual 197, 3) := by decide +kernel
theorem dX7_often_35 : decode cX7_often 35 = .ok (.aload_n 0, 1) := by decide +kernel
theorem dX7_often_36 : decode cX7_often 36 = .ok (.aload_n 0, 1) := by decide +kernel
theorem dX7_often_37 : decode cX7_often 37 = .ok (.getfield 44, 3) := by decide +kernel
theorem dX7_often_40 : decode cX7_often 40 = .ok (.iload_n 1, 1) := by decide +kernel
theorem dX7_often_41 : decode cX7_often 41 = .ok (.laload, 1) := by decide +kernel
theorem dX7_often_42 : decode cX7_often 42 = .ok (.aload_n 0, 1) := by decide +kernel
theorem dX7_often_43 : decode cX7_often 43 = .ok (.invokevirtual 200, 3) := by decide +kernel
theorem dX7_often_46 : decode cX7_often 46 = .ok (.invokevirtual 204, 3) := by decide +kernel
theorem dX7_often_49 : decode cX7_often 49 = .ok (.aload_n 0, 1) := by decide +kernel
theorem dX7_often_50 : decode cX7_often 50 = .ok (.iload_n 2, 1) := by decide +kernel
theorem dX7_often_51 : decode cX7_often 51 = .ok (.invokevirtual 208, 3) := by decide +kernel
theorem dX7_often_54 : decode cX7_often 54 = .ok (.lreturn, 1) := by decide +kernel
set_option maxRecDepth 20000 in
theorem ggX7_mean_X7_isWhich : GoodIn wsX7_mean wsX7_isWhich := goodIn_r _ [7] (by decide +kernel) (by decide +kernel)
set_option maxRecDepth 20000 in
theorem gX7_mean_X7_isWhich : GoodIn wsX7_mean (va_wsS RX7 194 yX7_isWhich wsX7_isWhich) := goodIn_app (goodIn_of _ (by decide +kernel)) ggX7_mean_X7_isWhich
set_option maxRecDepth 20000 in
theorem ggX7_mean_X7_layRun : GoodIn wsX7_mean wsX7_layRun := goodIn_r _ [11, 12, 13, 14, 15, 16, 17, 18, 19, 6, 20, 21, 22, 23, 24, 25, 26, 27, 49, 50, 51, 52, 53, 54, 55, 56, 57, 58, 59, 60, 61, 62, 63, 64, 65, 66, 67, 68, 69, 70, 71, 72, 73, 74, 75, 76, 77, 78, 79, 80, 81, 82, 83, 84, 85, 86, 87, 88] (by decide +kernel) (by decide +kernel)
set_option maxRecDepth 20000 in
theorem gX7_mean_X7_layRun : GoodIn wsX7_mean (wsV RX7 197 RX7 yX7_layRun wsX7_layRun) := goodIn_app (goodIn_of _ (by decide +kernel)) ggX7_mean_X7_layRun
set_option maxRecDepth 20000 in
theorem ggX7_mean_X7_meanWeights : GoodIn wsX7_mean wsX7_meanWeights := goodIn_r _ [31, 27, 49, 50, 51, 52, 53, 54, 55, 56, 57, 58, 59, 60, 61, 62, 63, 64, 65, 66, 67, 68, 69, 70, 71, 72, 73, 74, 75, 76, 77, 78, 79, 80, 81, 82, 83, 84, 85, 86, 87, 88] (by decide +kernel) (by decide +kernel)
set_option maxRecDepth 20000 in
theorem gX7_mean_X7_meanWeights : GoodIn wsX7_mean (wsV RX7 212 RX7 yX7_meanWeights wsX7_meanWeights) := goodIn_app (goodIn_of _ (by decide +kernel)) ggX7_mean_X7_meanWeights
set_option maxRecDepth 20000 in
theorem ggX7_mean_X7_allWeights : GoodIn wsX7_mean wsX7_allWeights := goodIn_r _ [35, 27, 49, 50, 51, 52, 53, 54, 55, 56, 57, 58, 59, 60, 61, 62, 63, 64, 65, 66, 67, 68, 69, 70, 71, 72, 73, 74, 75, 76, 77, 78, 79, 80, 81, 82, 83, 84, 85, 86, 87, 88] (by decide +kernel) (by decide +kernel)
set_option maxRecDepth 20000 in
theorem gX7_mean_X7_allWeights : GoodIn wsX7_mean (wsV RX7 200 RX7 yX7_allWeights wsX7_allWeights) := goodIn_app (goodIn_of _ (by decide +kernel)) ggX7_mean_X7_allWeights
set_option maxRecDepth 20000 in
theorem ggX7_mean_X7_share : GoodIn wsX7_mean wsX7_share := goodIn_r _ [39, 40, 41, 42, 43, 6, 44, 49, 50, 51, 52, 53, 54, 55, 56, 57, 58, 59, 60, 61, 62, 63, 64, 65, 66, 67, 68, 69, 70, 71, 72, 73, 74, 75, 76, 77, 78, 79, 80, 81, 82, 83, 84, 85, 86, 87, 88] (by decide +kernel) (by decide +kernel)
set_option maxRecDepth 20000 in
theorem gX7_mean_X7_share : GoodIn wsX7_mean (wsV RX7 204 RX7 yX7_share wsX7_share) := goodIn_app (goodIn_of _ (by decide +kernel)) ggX7_mean_X7_share
set_option maxRecDepth 20000 in
theorem ggX7_mean_X7_told : GoodIn wsX7_mean wsX7_told := goodIn_r _ [48, 40, 41, 49, 50, 51, 52, 53, 54, 55, 56, 57, 58, 59, 60, 61, 62, 63, 64, 65, 66, 67, 68, 69, 70, 71, 72, 73, 74, 75, 76, 77, 78, 79, 80, 81, 82, 83, 84, 85, 86, 87, 88] (by decide +kernel) (by decide +kernel)
set_option maxRecDepth 20000 in
theorem gX7_mean_X7_told : GoodIn wsX7_mean (wsV RX7 208 RX7 yX7_told wsX7_told) := goodIn_app (goodIn_of _ (by decide +kernel)) ggX7_mean_X7_told
theorem dX7_mean_0 : decode cX7_mean 0 = .ok (.iload_n 1, 1) := by decide +kernel
theorem dX7_mean_1 : decode cX7_mean 1 = .ok (.invokestatic 194, 3) := by decide +kernel
theorem dX7_mean_4 : decode cX7_mean 4 = .ok (.ifCond .eq 10, 3) := by decide +kernel
theorem dX7_mean_7 : decode cX7_mean 7 = .ok (.aload_n 0, 1) := by decide +kernel
theorem dX7_mean_8 : decode cX7_mean 8 = .ok (.getfield 142, 3) := by decide +kernel
theorem dX7_mean_11 : decode cX7_mean 11 = .ok (.ifCond .ne 7, 3) := by decide +kernel
theorem dX7_mean_14 : decode cX7_mean 14 = .ok (.ldc2_w 78, 3) := by decide +kernel
theorem dX7_mean_17 : decode cX7_mean 17 = .ok (.lreturn, 1) := by decide +kernel
theorem dX7_mean_18 : decode cX7_mean 18 = .ok (.aload_n 0, 1) := by decide +kernel
theorem dX7_mean_19 : decode cX7_mean 19 = .ok (.aload_n 0, 1) := by decide +kernel
theorem dX7_mean_20 : decode cX7_mean 20 = .ok (.getfield 25, 3) := by decide +kernel
theorem dX7_mean_23 : decode cX7_mean 23 = .ok (.invokevirtual 197, 3) := by decide +kernel
theorem dX7_mean_26 : decode cX7_mean 26 = .ok (.aload_n 0, 1) := by decide +kernel
theorem dX7_mean_27 : decode cX7_mean 27 = .ok (.aload_n 0, 1) := by decide +kernel
theorem dX7_mean_28 : decode cX7_mean 28 = .ok (.invokevirtual 212, 3) := by decide +kernel
theorem dX7_mean_31 : decode cX7_mean 31 = .ok (.aload_n 0, 1) := by decide +kernel
theorem dX7_mean_32 : decode cX7_mean 32 = .ok (.invokevirtual 200, 3) := by decide +kernel
theorem dX7_mean_35 : decode cX7_mean 35 = .ok (.invokevirtual 204, 3) := by decide +kernel
theorem dX7_mean_38 : decode cX7_mean 38 = .ok (.aload_n 0, 1) := by decide +kernel
theorem dX7_mean_39 : decode cX7_mean 39 = .ok (.iload_n 1, 1) := by decide +kernel
theorem dX7_mean_40 : decode cX7_mean 40 = .ok (.invokevirtual 208, 3) := by decide +kernel
theorem dX7_mean_43 : decode cX7_mean 43 = .ok (.lreturn, 1) := by decide +kernel
set_option maxRecDepth 20000 in
theorem ggX7_on_X7_isSort : GoodIn wsX7_on wsX7_isSort := goodIn_r _ [8, 9, 52, 53, 54, 55, 56, 57, 58, 59, 60, 61, 62, 63, 64, 65, 66, 67, 68, 69, 70, 71, 72, 73, 74, 75, 76, 77, 78, 79, 80, 81, 82, 83, 84, 85, 86, 87, 88, 89, 90, 91] (by decide +kernel) (by decide +kernel)
set_option maxRecDepth 20000 in
theorem gX7_on_X7_isSort : GoodIn wsX7_on (wsV RX7 177 RX7 yX7_isSort wsX7_isSort) := goodIn_app (goodIn_of _ (by decide +kernel)) ggX7_on_X7_isSort
set_option maxRecDepth 20000 in
theorem ggX7_on_X7_isWhich : GoodIn wsX7_on wsX7_isWhich := goodIn_r _ [12] (by decide +kernel) (by decide +kernel)
set_option maxRecDepth 20000 in
theorem gX7_on_X7_isWhich : GoodIn wsX7_on (va_wsS RX7 194 yX7_isWhich wsX7_isWhich) := goodIn_app (goodIn_of _ (by decide +kernel)) ggX7_on_X7_isWhich
set_option maxRecDepth 20000 in
theorem ggX7_on_X7_layRun : GoodIn wsX7_on wsX7_layRun := goodIn_r _ [16, 17, 3, 18, 19, 20, 21, 22, 23, 7, 24, 9, 25, 26, 27, 28, 29, 30, 52, 53, 54, 55, 56, 57, 58, 59, 60, 61, 62, 63, 64, 65, 66, 67, 68, 69, 70, 71, 72, 73, 74, 75, 76, 77, 78, 79, 80, 81, 82, 83, 84, 85, 86, 87, 88, 89, 90, 91] (by decide +kernel) (by decide +kernel)
set_option maxRecDepth 20000 in
theorem gX7_on_X7_layRun : GoodIn wsX7_on (wsV RX7 197 RX7 yX7_layRun wsX7_layRun) := goodIn_app (goodIn_of _ (by decide +kernel)) ggX7_on_X7_layRun
set_option maxRecDepth 20000 in
theorem ggX7_on_X7_metAt : GoodIn wsX7_on wsX7_metAt := goodIn_r _ [34, 30, 18, 52, 53, 54, 55, 56, 57, 58, 59, 60, 61, 62, 63, 64, 65, 66, 67, 68, 69, 70, 71, 72, 73, 74, 75, 76, 77, 78, 79, 80, 81, 82, 83, 84, 85, 86, 87, 88, 89, 90, 91] (by decide +kernel) (by decide +kernel)
set_option maxRecDepth 20000 in
theorem gX7_on_X7_metAt : GoodIn wsX7_on (wsV RX7 215 RX7 yX7_metAt wsX7_metAt) := goodIn_app (goodIn_of _ (by decide +kernel)) ggX7_on_X7_metAt
set_option maxRecDepth 20000 in
theorem ggX7_on_X7_allWeights : GoodIn wsX7_on wsX7_allWeights := goodIn_r _ [38, 30, 52, 53, 54, 55, 56, 57, 58, 59, 60, 61, 62, 63, 64, 65, 66, 67, 68, 69, 70, 71, 72, 73, 74, 75, 76, 77, 78, 79, 80, 81, 82, 83, 84, 85, 86, 87, 88, 89, 90, 91] (by decide +kernel) (by decide +kernel)
set_option maxRecDepth 20000 in
theorem gX7_on_X7_allWeights : GoodIn wsX7_on (wsV RX7 200 RX7 yX7_allWeights wsX7_allWeights) := goodIn_app (goodIn_of _ (by decide +kernel)) ggX7_on_X7_allWeights
set_option maxRecDepth 20000 in
theorem ggX7_on_X7_share : GoodIn wsX7_on wsX7_share := goodIn_r _ [42, 43, 44, 45, 46, 7, 47, 52, 53, 54, 55, 56, 57, 58, 59, 60, 61, 62, 63, 64, 65, 66, 67, 68, 69, 70, 71, 72, 73, 74, 75, 76, 77, 78, 79, 80, 81, 82, 83, 84, 85, 86, 87, 88, 89, 90, 91] (by decide +kernel) (by decide +kernel)
set_option maxRecDepth 20000 in
theorem gX7_on_X7_share : GoodIn wsX7_on (wsV RX7 204 RX7 yX7_share wsX7_share) := goodIn_app (goodIn_of _ (by decide +kernel)) ggX7_on_X7_share
set_option maxRecDepth 20000 in
theorem ggX7_on_X7_told : GoodIn wsX7_on wsX7_told := goodIn_r _ [51, 43, 44, 52, 53, 54, 55, 56, 57, 58, 59, 60, 61, 62, 63, 64, 65, 66, 67, 68, 69, 70, 71, 72, 73, 74, 75, 76, 77, 78, 79, 80, 81, 82, 83, 84, 85, 86, 87, 88, 89, 90, 91] (by decide +kernel) (by decide +kernel)
set_option maxRecDepth 20000 in
theorem gX7_on_X7_told : GoodIn wsX7_on (wsV RX7 208 RX7 yX7_told wsX7_told) := goodIn_app (goodIn_of _ (by decide +kernel)) ggX7_on_X7_told
theorem dX7_on_0 : decode cX7_on 0 = .ok (.aload_n 0, 1) := by decide +kernel
theorem dX7_on_1 : decode cX7_on 1 = .ok (.iload_n 1, 1) := by decide +kernel
theorem dX7_on_2 : decode cX7_on 2 = .ok (.invokevirtual 177, 3) := by decide +kernel
theorem dX7_on_5 : decode cX7_on 5 = .ok (.ifCond .eq 10, 3) := by decide +kernel
theorem dX7_on_8 : decode cX7_on 8 = .ok (.iload_n 2, 1) := by decide +kernel
theorem dX7_on_9 : decode cX7_on 9 = .ok (.invokestatic 194, 3) := by decide +kernel
theorem dX7_on_12 : decode cX7_on 12 = .ok (.ifCond .ne 7, 3) := by decide +kernel
theorem dX7_on_15 : decode cX7_on 15 = .ok (.ldc2_w 78, 3) := by decide +kernel
theorem dX7_on_18 : decode cX7_on 18 = .ok (.lreturn, 1) := by decide +kernel
theorem dX7_on_19 : decode cX7_on 19 = .ok (.aload_n 0, 1) := by decide +kernel
theorem dX7_on_20 : decode cX7_on 20 = .ok (.aload_n 0, 1) := by decide +kernel
theorem dX7_on_21 : decode cX7_on 21 = .ok (.getfield 25, 3) := by decide +kernel
theorem dX7_on_24 : decode cX7_on 24 = .ok (.invokevirtual 197, 3) := by decide +kernel
theorem dX7_on_27 : decode cX7_on 27 = .ok (.lconst 0, 1) := by decide +kernel
theorem dX7_on_28 : decode cX7_on 28 = .ok (.lstore_n 3, 1) := by decide +kernel
theorem dX7_on_29 : decode cX7_on 29 = .ok (.aload_n 0, 1) := by decide +kernel
theorem dX7_on_30 : decode cX7_on 30 = .ok (.getfield 25, 3) := by decide +kernel
theorem dX7_on_33 : decode cX7_on 33 = .ok (.iload_n 1, 1) := by decide +kernel
theorem dX7_on_34 : decode cX7_on 34 = .ok (.iaload, 1) := by decide +kernel
theorem dX7_on_35 : decode cX7_on 35 = .ok (.istore 5, 2) := by decide +kernel
theorem dX7_on_37 : decode cX7_on 37 = .ok (.iload 5, 2) := by decide +kernel
theorem dX7_on_39 : decode cX7_on 39 = .ok (.iconst 5, 1) := by decide +kernel
theorem dX7_on_40 : decode cX7_on 40 = .ok (.if_icmp .gt 18, 3) := by decide +kernel
theorem dX7_on_43 : decode cX7_on 43 = .ok (.lload_n 3, 1) := by decide +kernel
theorem dX7_on_44 : decode cX7_on 44 = .ok (.aload_n 0, 1) := by decide +kernel
theorem dX7_on_45 : decode cX7_on 45 = .ok (.iload 5, 2) := by decide +kernel
theorem dX7_on_47 : decode cX7_on 47 = .ok (.invokevirtual 215, 3) := by decide +kernel
theorem dX7_on_50 : decode cX7_on 50 = .ok (.ladd, 1) := by decide +kernel
theorem dX7_on_51 : decode cX7_on 51 = .ok (.lstore_n 3, 1) := by decide +kernel
theorem dX7_on_52 : decode cX7_on 52 = .ok (.iinc 5 1, 3) := by decide +kernel
theorem dX7_on_55 : decode cX7_on 55 = .ok (.goto (-18), 3) := by decide +kernel
theorem dX7_on_58 : decode cX7_on 58 = .ok (.aload_n 0, 1) := by decide +kernel
theorem dX7_on_59 : decode cX7_on 59 = .ok (.lload_n 3, 1) := by decide +kernel
theorem dX7_on_60 : decode cX7_on 60 = .ok (.ldc2_w 188, 3) := by decide +kernel
theorem dX7_on_63 : decode cX7_on 63 = .ok (.aload_n 0, 1) := by decide +kernel
theorem dX7_on_64 : decode cX7_on 64 = .ok (.invokevirtual 200, 3) := by decide +kernel
theorem dX7_on_67 : decode cX7_on 67 = .ok (.lmul, 1) := by decide +kernel
theorem dX7_on_68 : decode cX7_on 68 = .ok (.invokevirtual 204, 3) := by decide +kernel
theorem dX7_on_71 : decode cX7_on 71 = .ok (.aload_n 0, 1) := by decide +kernel
theorem dX7_on_72 : decode cX7_on 72 = .ok (.iload_n 2, 1) := by decide +kernel
theorem dX7_on_73 : decode cX7_on 73 = .ok (.invokevirtual 208, 3) := by decide +kernel
theorem dX7_on_76 : decode cX7_on 76 = .ok (.lreturn, 1) := by decide +kernel
set_option maxRecDepth 20000 in
theorem ggX7_less_X7_within : GoodIn wsX7_less wsX7_within := goodIn_r _ [13] (by decide +kernel) (by decide +kernel)
set_option maxRecDepth 20000 in
theorem gX7_less_X7_within : GoodIn wsX7_less (va_wsS RX7 94 yX7_within wsX7_within) := goodIn_app (goodIn_of _ (by decide +kernel)) ggX7_less_X7_within
set_option maxRecDepth 20000 in
theorem ggX7_less_X7_isWhich : GoodIn wsX7_less wsX7_isWhich := goodIn_r _ [16] (by decide +kernel) (by decide +kernel)
set_option maxRecDepth 20000 in
theorem gX7_less_X7_isWhich : GoodIn wsX7_less (va_wsS RX7 194 yX7_isWhich wsX7_isWhich) := goodIn_app (goodIn_of _ (by decide +kernel)) ggX7_less_X7_isWhich
set_option maxRecDepth 20000 in
theorem ggX7_less_X7_layRun : GoodIn wsX7_less wsX7_layRun := goodIn_r _ [20, 7, 21, 22, 23, 9, 24, 25, 26, 12, 27, 28, 29, 30, 31, 32, 33, 4, 45, 46, 47, 48, 49, 50, 51, 52, 53, 54, 55, 56, 57, 58, 59, 60, 61, 62, 63, 64, 65, 66, 67, 68, 69, 70, 71, 72, 73, 74, 75, 76, 77, 78, 79, 80, 81, 82, 83, 84] (by decide +kernel) (by decide +kernel)
set_option maxRecDepth 20000 in
theorem gX7_less_X7_layRun : GoodIn wsX7_less (wsV RX7 197 RX7 yX7_layRun wsX7_layRun) := goodIn_app (goodIn_of _ (by decide +kernel)) ggX7_less_X7_layRun
set_option maxRecDepth 20000 in
theorem ggX7_less_X7_share : GoodIn wsX7_less wsX7_share := goodIn_r _ [37, 8, 6, 38, 39, 12, 40, 45, 46, 47, 48, 49, 50, 51, 52, 53, 54, 55, 56, 57, 58, 59, 60, 61, 62, 63, 64, 65, 66, 67, 68, 69, 70, 71, 72, 73, 74, 75, 76, 77, 78, 79, 80, 81, 82, 83, 84] (by decide +kernel) (by decide +kernel)
set_option maxRecDepth 20000 in
theorem gX7_less_X7_share : GoodIn wsX7_less (wsV RX7 204 RX7 yX7_share wsX7_share) := goodIn_app (goodIn_of _ (by decide +kernel)) ggX7_less_X7_share
set_option maxRecDepth 20000 in
theorem ggX7_less_X7_told : GoodIn wsX7_less wsX7_told := goodIn_r _ [44, 8, 6, 45, 46, 47, 48, 49, 50, 51, 52, 53, 54, 55, 56, 57, 58, 59, 60, 61, 62, 63, 64, 65, 66, 67, 68, 69, 70, 71, 72, 73, 74, 75, 76, 77, 78, 79, 80, 81, 82, 83, 84] (by decide +kernel) (by decide +kernel)
set_option maxRecDepth 20000 in
theorem gX7_less_X7_told : GoodIn wsX7_less (wsV RX7 208 RX7 yX7_told wsX7_told) := goodIn_app (goodIn_of _ (by decide +kernel)) ggX7_less_X7_told
theorem dX7_less_0 : decode cX7_less 0 = .ok (.iload_n 1, 1) := by decide +kernel
theorem dX7_less_1 : decode cX7_less 1 = .ok (.iconst 1, 1) := by decide +kernel
theorem dX7_less_2 : decode cX7_less 2 = .ok (.iconst 5, 1) := by decide +kernel
theorem dX7_less_3 : decode cX7_less 3 = .ok (.invokestatic 94, 3) := by decide +kernel
theorem dX7_less_6 : decode cX7_less 6 = .ok (.ifCond .eq 17, 3) := by decide +kernel
theorem dX7_less_9 : decode cX7_less 9 = .ok (.iload_n 2, 1) := by decide +kernel
theorem dX7_less_10 : decode cX7_less 10 = .ok (.invokestatic 194, 3) := by decide +kernel
theorem dX7_less_13 : decode cX7_less 13 = .ok (.ifCond .eq 10, 3) := by decide +kernel
theorem dX7_less_16 : decode cX7_less 16 = .ok (.aload_n 0, 1) := by decide +kernel
theorem dX7_less_17 : decode cX7_less 17 = .ok (.getfield 142, 3) := by decide +kernel
theorem dX7_less_20 : decode cX7_less 20 = .ok (.ifCond .ne 7, 3) := by decide +kernel
theorem dX7_less_23 : decode cX7_less 23 = .ok (.ldc2_w 78, 3) := by decide +kernel
theorem dX7_less_26 : decode cX7_less 26 = .ok (.lreturn, 1) := by decide +kernel
theorem dX7_less_27 : decode cX7_less 27 = .ok (.aload_n 0, 1) := by decide +kernel
theorem dX7_less_28 : decode cX7_less 28 = .ok (.aload_n 0, 1) := by decide +kernel
theorem dX7_less_29 : decode cX7_less 29 = .ok (.getfield 25, 3) := by decide +kernel
theorem dX7_less_32 : decode cX7_less 32 = .ok (.invokevirtual 197, 3) := by decide +kernel
theorem dX7_less_35 : decode cX7_less 35 = .ok (.aload_n 0, 1) := by decide +kernel
theorem dX7_less_36 : decode cX7_less 36 = .ok (.getfield 44, 3) := by decide +kernel
theorem dX7_less_39 : decode cX7_less 39 = .ok (.iload_n 1, 1) := by decide +kernel
theorem dX7_less_40 : decode cX7_less 40 = .ok (.laload, 1) := by decide +kernel
theorem dX7_less_41 : decode cX7_less 41 = .ok (.lconst 0, 1) := by decide +kernel
theorem dX7_less_42 : decode cX7_less 42 = .ok (.lcmp, 1) := by decide +kernel
theorem dX7_less_43 : decode cX7_less 43 = .ok (.ifCond .ne 7, 3) := by decide +kernel
theorem dX7_less_46 : decode cX7_less 46 = .ok (.ldc2_w 78, 3) := by decide +kernel
theorem dX7_less_49 : decode cX7_less 49 = .ok (.lreturn, 1) := by decide +kernel
theorem dX7_less_50 : decode cX7_less 50 = .ok (.aload_n 0, 1) := by decide +kernel
theorem dX7_less_51 : decode cX7_less 51 = .ok (.lconst 0, 1) := by decide +kernel
theorem dX7_less_52 : decode cX7_less 52 = .ok (.lconst 1, 1) := by decide +kernel
theorem dX7_less_53 : decode cX7_less 53 = .ok (.invokevirtual 204, 3) := by decide +kernel
theorem dX7_less_56 : decode cX7_less 56 = .ok (.iconst 5, 1) := by decide +kernel
theorem dX7_less_57 : decode cX7_less 57 = .ok (.istore_n 3, 1) := by decide +kernel
theorem dX7_less_58 : decode cX7_less 58 = .ok (.iload_n 3, 1) := by decide +kernel
theorem dX7_less_59 : decode cX7_less 59 = .ok (.iload_n 1, 1) := by decide +kernel
theorem dX7_less_60 : decode cX7_less 60 = .ok (.if_icmp .lt 44, 3) := by decide +kernel
theorem dX7_less_63 : decode cX7_less 63 = .ok (.aload_n 0, 1) := by decide +kernel
theorem dX7_less_64 : decode cX7_less 64 = .ok (.ldc2_w 218, 3) := by decide +kernel
theorem dX7_less_67 : decode cX7_less 67 = .ok (.aload_n 0, 1) := by decide +kernel
theorem dX7_less_68 : decode cX7_less 68 = .ok (.getfield 88, 3) := by decide +kernel
theorem dX7_less_71 : decode cX7_less 71 = .ok (.lmul, 1) := by decide +kernel
theorem dX7_less_72 : decode cX7_less 72 = .ok (.aload_n 0, 1) := by decide +kernel
theorem dX7_less_73 : decode cX7_less 73 = .ok (.getfield 37, 3) := by decide +kernel
theorem dX7_less_76 : decode cX7_less 76 = .ok (.iload_n 3, 1) := by decide +kernel
theorem dX7_less_77 : decode cX7_less 77 = .ok (.laload, 1) := by decide +kernel
theorem dX7_less_78 : decode cX7_less 78 = .ok (.aload_n 0, 1) := by decide +kernel
theorem dX7_less_79 : decode cX7_less 79 = .ok (.getfield 84, 3) := by decide +kernel
theorem dX7_less_82 : decode cX7_less 82 = .ok (.lmul, 1) := by decide +kernel
theorem dX7_less_83 : decode cX7_less 83 = .ok (.ladd, 1) := by decide +kernel
theorem dX7_less_84 : decode cX7_less 84 = .ok (.aload_n 0, 1) := by decide +kernel
theorem dX7_less_85 : decode cX7_less 85 = .ok (.getfield 41, 3) := by decide +kernel
theorem dX7_less_88 : decode cX7_less 88 = .ok (.iload_n 3, 1) := by decide +kernel
theorem dX7_less_89 : decode cX7_less 89 = .ok (.laload, 1) := by decide +kernel
theorem dX7_less_90 : decode cX7_less 90 = .ok (.aload_n 0, 1) := by decide +kernel
theorem dX7_less_91 : decode cX7_less 91 = .ok (.getfield 88, 3) := by decide +kernel
theorem dX7_less_94 : decode cX7_less 94 = .ok (.lmul, 1) := by decide +kernel
theorem dX7_less_95 : decode cX7_less 95 = .ok (.invokevirtual 204, 3) := by decide +kernel
theorem dX7_less_98 : decode cX7_less 98 = .ok (.iinc 3 (-1), 3) := by decide +kernel
theorem dX7_less_101 : decode cX7_less 101 = .ok (.goto (-43), 3) := by decide +kernel
theorem dX7_less_104 : decode cX7_less 104 = .ok (.aload_n 0, 1) := by decide +kernel
theorem dX7_less_105 : decode cX7_less 105 = .ok (.iload_n 2, 1) := by decide +kernel
theorem dX7_less_106 : decode cX7_less 106 = .ok (.invokevirtual 208, 3) := by decide +kernel
theorem dX7_less_109 : decode cX7_less 109 = .ok (.lreturn, 1) := by decide +kernel
set_option maxRecDepth 20000 in
theorem ggX7_after_X7_within : GoodIn wsX7_after wsX7_within := goodIn_r _ [12] (by decide +kernel) (by decide +kernel)
set_option maxRecDepth 20000 in
theorem gX7_after_X7_within : GoodIn wsX7_after (va_wsS RX7 94 yX7_within wsX7_within) := goodIn_app (goodIn_of _ (by decide +kernel)) ggX7_after_X7_within
set_option maxRecDepth 20000 in
theorem ggX7_after_X7_isWhich : GoodIn wsX7_after wsX7_isWhich := goodIn_r _ [15] (by decide +kernel) (by decide +kernel)
set_option maxRecDepth 20000 in
theorem gX7_after_X7_isWhich : GoodIn wsX7_after (va_wsS RX7 194 yX7_isWhich wsX7_isWhich) := goodIn_app (goodIn_of _ (by decide +kernel)) ggX7_after_X7_isWhich
set_option maxRecDepth 20000 in
theorem ggX7_after_X7_layRun : GoodIn wsX7_after wsX7_layRun := goodIn_r _ [19, 7, 20, 21, 22, 8, 23, 24, 25, 11, 26, 27, 28, 29, 30, 31, 32, 33, 47, 48, 49, 50, 51, 52, 53, 54, 55, 56, 57, 58, 59, 60, 61, 62, 63, 64, 65, 66, 67, 68, 69, 70, 71, 72, 73, 74, 75, 76, 77, 78, 79, 80, 81, 82, 83, 84, 85, 86] (by decide +kernel) (by decide +kernel)
set_option maxRecDepth 20000 in
theorem gX7_after_X7_layRun : GoodIn wsX7_after (wsV RX7 197 RX7 yX7_layRun wsX7_layRun) := goodIn_app (goodIn_of _ (by decide +kernel)) ggX7_after_X7_layRun
set_option maxRecDepth 20000 in
theorem ggX7_after_X7_share : GoodIn wsX7_after wsX7_share := goodIn_r _ [37, 38, 39, 40, 41, 11, 42, 47, 48, 49, 50, 51, 52, 53, 54, 55, 56, 57, 58, 59, 60, 61, 62, 63, 64, 65, 66, 67, 68, 69, 70, 71, 72, 73, 74, 75, 76, 77, 78, 79, 80, 81, 82, 83, 84, 85, 86] (by decide +kernel) (by decide +kernel)
set_option maxRecDepth 20000 in
theorem gX7_after_X7_share : GoodIn wsX7_after (wsV RX7 204 RX7 yX7_share wsX7_share) := goodIn_app (goodIn_of _ (by decide +kernel)) ggX7_after_X7_share
set_option maxRecDepth 20000 in
theorem ggX7_after_X7_told : GoodIn wsX7_after wsX7_told := goodIn_r _ [46, 38, 39, 47, 48, 49, 50, 51, 52, 53, 54, 55, 56, 57, 58, 59, 60, 61, 62, 63, 64, 65, 66, 67, 68, 69, 70, 71, 72, 73, 74, 75, 76, 77, 78, 79, 80, 81, 82, 83, 84, 85, 86] (by decide +kernel) (by decide +kernel)
set_option maxRecDepth 20000 in
theorem gX7_after_X7_told : GoodIn wsX7_after (wsV RX7 208 RX7 yX7_told wsX7_told) := goodIn_app (goodIn_of _ (by decide +kernel)) ggX7_after_X7_told
theorem dX7_after_0 : decode cX7_after 0 = .ok (.iload_n 1, 1) := by decide +kernel
theorem dX7_after_1 : decode cX7_after 1 = .ok (.iconst 0, 1) := by decide +kernel
theorem dX7_after_2 : decode cX7_after 2 = .ok (.bipush 8, 2) := by decide +kernel
theorem dX7_after_4 : decode cX7_after 4 = .ok (.invokestatic 94, 3) := by decide +kernel
theorem dX7_after_7 : decode cX7_after 7 = .ok (.ifCond .eq 36, 3) := by decide +kernel
theorem dX7_after_10 : decode cX7_after 10 = .ok (.iload_n 2, 1) := by decide +kernel
theorem dX7_after_11 : decode cX7_after 11 = .ok (.iconst 0, 1) := by decide +kernel
theorem dX7_after_12 : decode cX7_after 12 = .ok (.iconst 5, 1) := by decide +kernel
theorem dX7_after_13 : decode cX7_after 13 = .ok (.invokestatic 94, 3) := by decide +kernel
theorem dX7_after_16 : decode cX7_after 16 = .ok (.ifCond .eq 27, 3) := by decide +kernel
theorem dX7_after_19 : decode cX7_after 19 = .ok (.iload_n 3, 1) := by decide +kernel
theorem dX7_after_20 : decode cX7_after 20 = .ok (.iconst 0, 1) := by decide +kernel
theorem dX7_after_21 : decode cX7_after 21 = .ok (.iconst 5, 1) := by decide +kernel
theorem dX7_after_22 : decode cX7_after 22 = .ok (.invokestatic 94, 3) := by decide +kernel
theorem dX7_after_25 : decode cX7_after 25 = .ok (.ifCond .eq 18, 3) := by decide +kernel
theorem dX7_after_28 : decode cX7_after 28 = .ok (.iload 4, 2) := by decide +kernel
theorem dX7_after_30 : decode cX7_after 30 = .ok (.invokestatic 194, 3) := by decide +kernel
theorem dX7_after_33 : decode cX7_after 33 = .ok (.ifCond .eq 10, 3) := by decide +kernel
theorem dX7_after_36 : decode cX7_after 36 = .ok (.aload_n 0, 1) := by decide +kernel
theorem dX7_after_37 : decode cX7_after 37 = .ok (.getfield 142, 3) := by decide +kernel
theorem dX7_after_40 : decode cX7_after 40 = .ok (.ifCond .ne 7, 3) := by decide +kernel
theorem dX7_after_43 : decode cX7_after 43 = .ok (.ldc2_w 78, 3) := by decide +kernel
theorem dX7_after_46 : decode cX7_after 46 = .ok (.lreturn, 1) := by decide +kernel
theorem dX7_after_47 : decode cX7_after 47 = .ok (.aload_n 0, 1) := by decide +kernel
theorem dX7_after_48 : decode cX7_after 48 = .ok (.aload_n 0, 1) := by decide +kernel
theorem dX7_after_49 : decode cX7_after 49 = .ok (.getfield 25, 3) := by decide +kernel
theorem dX7_after_52 : decode cX7_after 52 = .ok (.invokevirtual 197, 3) := by decide +kernel
theorem dX7_after_55 : decode cX7_after 55 = .ok (.iconst 0, 1) := by decide +kernel
theorem dX7_after_56 : decode cX7_after 56 = .ok (.istore 5, 2) := by decide +kernel
theorem dX7_after_58 : decode cX7_after 58 = .ok (.iload 5, 2) := by decide +kernel
theorem dX7_after_60 : decode cX7_after 60 = .ok (.bipush 8, 2) := by decide +kernel
theorem dX7_after_62 : decode cX7_after 62 = .ok (.if_icmp .ge 27, 3) := by decide +kernel
theorem dX7_after_65 : decode cX7_after 65 = .ok (.aload_n 0, 1) := by decide +kernel
theorem dX7_after_66 : decode cX7_after 66 = .ok (.getfield 47, 3) := by decide +kernel
theorem dX7_after_69 : decode cX7_after 69 = .ok (.iload 5, 2) := by decide +kernel
theorem dX7_after_71 : decode cX7_after 71 = .ok (.iload 5, 2) := by decide +kernel
theorem dX7_after_73 : decode cX7_after 73 = .ok (.iload_n 2, 1) := by decide +kernel
theorem dX7_after_74 : decode cX7_after 74 = .ok (.if_icmp .ne 7, 3) := by decide +kernel
theorem dX7_after_77 : decode cX7_after 77 = .ok (.lconst 1, 1) := by decide +kernel
theorem dX7_after_78 : decode cX7_after 78 = .ok (.goto 4, 3) := by decide +kernel
theorem dX7_after_81 : decode cX7_after 81 = .ok (.lconst 0, 1) := by decide +kernel
theorem dX7_after_82 : decode cX7_after 82 = .ok (.lastore, 1) := by decide +kernel
theorem dX7_after_83 : decode cX7_after 83 = .ok (.iinc 5 1, 3) := by decide +kernel
theorem dX7_after_86 : decode cX7_after 86 = .ok (.goto (-28), 3) := by decide +kernel
theorem dX7_after_89 : decode cX7_after 89 = .ok (.lconst 1, 1) := by decide +kernel
theorem dX7_after_90 : decode cX7_after 90 = .ok (.lstore 5, 2) := by decide +kernel
theorem dX7_after_92 : decode cX7_after 92 = .ok (.iconst 0, 1) := by decide +kernel
theorem dX7_after_93 : decode cX7_after 93 = .ok (.istore 7, 2) := by decide +kernel
theorem dX7_after_95 : decode cX7_after 95 = .ok (.iload 7, 2) := by decide +kernel
theorem dX7_after_97 : decode cX7_after 97 = .ok (.iload_n 1, 1) := by decide +kernel
theorem dX7_after_98 : decode cX7_after 98 = .ok (.if_icmp .ge 154, 3) := by decide +kernel
theorem dX7_after_101 : decode cX7_after 101 = .ok (.iconst 0, 1) := by decide +kernel
theorem dX7_after_102 : decode cX7_after 102 = .ok (.istore 8, 2) := by decide +kernel
theorem dX7_after_104 : decode cX7_after 104 = .ok (.iload 8, 2) := by decide +kernel
theorem dX7_after_106 : decode cX7_after 106 = .ok (.iconst 5, 1) := by decide +kernel
theorem dX7_after_107 : decode cX7_after 107 = .ok (.if_icmp .gt 102, 3) := by decide +kernel
theorem dX7_after_110 : decode cX7_after 110 = .ok (.aload_n 0, 1) := by decide +kernel
theorem dX7_after_111 : decode cX7_after 111 = .ok (.getfield 50, 3) := by decide +kernel
theorem dX7_after_114 : decode cX7_after 114 = .ok (.iload 8, 2) := by decide +kernel
theorem dX7_after_116 : decode cX7_after 116 = .ok (.aload_n 0, 1) := by decide +kernel
theorem dX7_after_117 : decode cX7_after 117 = .ok (.getfield 47, 3) := by decide +kernel
theorem dX7_after_120 : decode cX7_after 120 = .ok (.iload 8, 2) := by decide +kernel
theorem dX7_after_122 : decode cX7_after 122 = .ok (.laload, 1) := by decide +kernel
theorem dX7_after_123 : decode cX7_after 123 = .ok (.ldc2_w 218, 3) := by decide +kernel
theorem dX7_after_126 : decode cX7_after 126 = .ok (.aload_n 0, 1) := by decide +kernel
theorem dX7_after_127 : decode cX7_after 127 = .ok (.getfield 37, 3) := by decide +kernel
theorem dX7_after_130 : decode cX7_after 130 = .ok (.iload 8, 2) := by decide +kernel
theorem dX7_after_132 : decode cX7_after 132 = .ok (.laload, 1) := by decide +kernel
theorem dX7_after_133 : decode cX7_after 133 = .ok (.lsub, 1) := by decide +kernel
theorem dX7_after_134 : decode cX7_after 134 = .ok (.aload_n 0, 1) := by decide +kernel
theorem dX7_after_135 : decode cX7_after 135 = .ok (.getfield 41, 3) := by decide +kernel
theorem dX7_after_138 : decode cX7_after 138 = .ok (.iload 8, 2) := by decide +kernel
theorem dX7_after_140 : decode cX7_after 140 = .ok (.laload, 1) := by decide +kernel
theorem dX7_after_141 : decode cX7_after 141 = .ok (.lsub, 1) := by decide +kernel
theorem dX7_after_142 : decode cX7_after 142 = .ok (.lmul, 1) := by decide +kernel
theorem dX7_after_143 : decode cX7_after 143 = .ok (.iload 8, 2) := by decide +kernel
theorem dX7_after_145 : decode cX7_after 145 = .ok (.ifCond .le 25, 3) := by decide +kernel
theorem dX7_after_148 : decode cX7_after 148 = .ok (.aload_n 0, 1) := by decide +kernel
theorem dX7_after_149 : decode cX7_after 149 = .ok (.getfield 47, 3) := by decide +kernel
theorem dX7_after_152 : decode cX7_after 152 = .ok (.iload 8, 2) := by decide +kernel
theorem dX7_after_154 : decode cX7_after 154 = .ok (.iconst 1, 1) := by decide +kernel
theorem dX7_after_155 : decode cX7_after 155 = .ok (.isub, 1) := by decide +kernel
theorem dX7_after_156 : decode cX7_after 156 = .ok (.laload, 1) := by decide +kernel
theorem dX7_after_157 : decode cX7_after 157 = .ok (.aload_n 0, 1) := by decide +kernel
theorem dX7_after_158 : decode cX7_after 158 = .ok (.getfield 37, 3) := by decide +kernel
theorem dX7_after_161 : decode cX7_after 161 = .ok (.iload 8, 2) := by decide +kernel
theorem dX7_after_163 : decode cX7_after 163 = .ok (.iconst 1, 1) := by decide +kernel
theorem dX7_after_164 : decode cX7_after 164 = .ok (.isub, 1) := by decide +kernel
theorem dX7_after_165 : decode cX7_after 165 = .ok (.laload, 1) := by decide +kernel
theorem dX7_after_166 : decode cX7_after 166 = .ok (.lmul, 1) := by decide +kernel
theorem dX7_after_167 : decode cX7_after 167 = .ok (.goto 4, 3) := by decide +kernel
theorem dX7_after_170 : decode cX7_after 170 = .ok (.lconst 0, 1) := by decide +kernel
theorem dX7_after_171 : decode cX7_after 171 = .ok (.ladd, 1) := by decide +kernel
theorem dX7_after_172 : decode cX7_after 172 = .ok (.iload 8, 2) := by decide +kernel
theorem dX7_after_174 : decode cX7_after 174 = .ok (.iconst 5, 1) := by decide +kernel
theorem dX7_after_175 : decode cX7_after 175 = .ok (.if_icmp .ge 25, 3) := by decide +kernel
theorem dX7_after_178 : decode cX7_after 178 = .ok (.aload_n 0, 1) := by decide +kernel
theorem dX7_after_179 : decode cX7_after 179 = .ok (.getfield 47, 3) := by decide +kernel
theorem dX7_after_182 : decode cX7_after 182 = .ok (.iload 8, 2) := by decide +kernel
theorem dX7_after_184 : decode cX7_after 184 = .ok (.iconst 1, 1) := by decide +kernel
theorem dX7_after_185 : decode cX7_after 185 = .ok (.iadd, 1) := by decide +kernel
theorem dX7_after_186 : decode cX7_after 186 = .ok (.laload, 1) := by decide +kernel
theorem dX7_after_187 : decode cX7_after 187 = .ok (.aload_n 0, 1) := by decide +kernel
theorem dX7_after_188 : decode cX7_after 188 = .ok (.getfield 41, 3) := by decide +kernel
theorem dX7_after_191 : decode cX7_after 191 = .ok (.iload 8, 2) := by decide +kernel
theorem dX7_after_193 : decode cX7_after 193 = .ok (.iconst 1, 1) := by decide +kernel
theorem dX7_after_194 : decode cX7_after 194 = .ok (.iadd, 1) := by decide +kernel
theorem dX7_after_195 : decode cX7_after 195 = .ok (.laload, 1) := by decide +kernel
theorem dX7_after_196 : decode cX7_after 196 = .ok (.lmul, 1) := by decide +kernel
theorem dX7_after_197 : decode cX7_after 197 = .ok (.goto 4, 3) := by decide +kernel
theorem dX7_after_200 : decode cX7_after 200 = .ok (.lconst 0, 1) := by decide +kernel
theorem dX7_after_201 : decode cX7_after 201 = .ok (.ladd, 1) := by decide +kernel
theorem dX7_after_202 : decode cX7_after 202 = .ok (.lastore, 1) := by decide +kernel
theorem dX7_after_203 : decode cX7_after 203 = .ok (.iinc 8 1, 3) := by decide +kernel
theorem dX7_after_206 : decode cX7_after 206 = .ok (.goto (-102), 3) := by decide +kernel
theorem dX7_after_209 : decode cX7_after 209 = .ok (.iconst 0, 1) := by decide +kernel
theorem dX7_after_210 : decode cX7_after 210 = .ok (.istore 8, 2) := by decide +kernel
theorem dX7_after_212 : decode cX7_after 212 = .ok (.iload 8, 2) := by decide +kernel
theorem dX7_after_214 : decode cX7_after 214 = .ok (.iconst 5, 1) := by decide +kernel
theorem dX7_after_215 : decode cX7_after 215 = .ok (.if_icmp .gt 23, 3) := by decide +kernel
theorem dX7_after_218 : decode cX7_after 218 = .ok (.aload_n 0, 1) := by decide +kernel
theorem dX7_after_219 : decode cX7_after 219 = .ok (.getfield 47, 3) := by decide +kernel
theorem dX7_after_222 : decode cX7_after 222 = .ok (.iload 8, 2) := by decide +kernel
theorem dX7_after_224 : decode cX7_after 224 = .ok (.aload_n 0, 1) := by decide +kernel
theorem dX7_after_225 : decode cX7_after 225 = .ok (.getfield 50, 3) := by decide +kernel
theorem dX7_after_228 : decode cX7_after 228 = .ok (.iload 8, 2) := by decide +kernel
theorem dX7_after_230 : decode cX7_after 230 = .ok (.laload, 1) := by decide +kernel
theorem dX7_after_231 : decode cX7_after 231 = .ok (.lastore, 1) := by decide +kernel
theorem dX7_after_232 : decode cX7_after 232 = .ok (.iinc 8 1, 3) := by decide +kernel
theorem dX7_after_235 : decode cX7_after 235 = .ok (.goto (-23), 3) := by decide +kernel
theorem dX7_after_238 : decode cX7_after 238 = .ok (.lload 5, 2) := by decide +kernel
theorem dX7_after_240 : decode cX7_after 240 = .ok (.ldc2_w 218, 3) := by decide +kernel
theorem dX7_after_243 : decode cX7_after 243 = .ok (.lmul, 1) := by decide +kernel
theorem dX7_after_244 : decode cX7_after 244 = .ok (.lstore 5, 2) := by decide +kernel
theorem dX7_after_246 : decode cX7_after 246 = .ok (.iinc 7 1, 3) := by decide +kernel
theorem dX7_after_249 : decode cX7_after 249 = .ok (.goto (-154), 3) := by decide +kernel
theorem dX7_after_252 : decode cX7_after 252 = .ok (.aload_n 0, 1) := by decide +kernel
theorem dX7_after_253 : decode cX7_after 253 = .ok (.aload_n 0, 1) := by decide +kernel
theorem dX7_after_254 : decode cX7_after 254 = .ok (.getfield 47, 3) := by decide +kernel
theorem dX7_after_257 : decode cX7_after 257 = .ok (.iload_n 3, 1) := by decide +kernel
theorem dX7_after_258 : decode cX7_after 258 = .ok (.laload, 1) := by decide +kernel
theorem dX7_after_259 : decode cX7_after 259 = .ok (.lload 5, 2) := by decide +kernel
theorem dX7_after_261 : decode cX7_after 261 = .ok (.invokevirtual 204, 3) := by decide +kernel
theorem dX7_after_264 : decode cX7_after 264 = .ok (.aload_n 0, 1) := by decide +kernel
theorem dX7_after_265 : decode cX7_after 265 = .ok (.iload 4, 2) := by decide +kernel
theorem dX7_after_267 : decode cX7_after 267 = .ok (.invokevirtual 208, 3) := by decide +kernel
theorem dX7_after_270 : decode cX7_after 270 = .ok (.lreturn, 1) := by decide +kernel
set_option maxRecDepth 20000 in
theorem ggX7_minutes_X7_within : GoodIn wsX7_minutes wsX7_within := goodIn_r _ [10] (by decide +kernel) (by decide +kernel)
set_option maxRecDepth 20000 in
theorem gX7_minutes_X7_within : GoodIn wsX7_minutes (va_wsS RX7 94 yX7_within wsX7_within) := goodIn_app (goodIn_of _ (by decide +kernel)) ggX7_minutes_X7_within
set_option maxRecDepth 20000 in
theorem ggX7_minutes_X7_toldMinutes : GoodIn wsX7_minutes wsX7_toldMinutes := goodIn_r _ [14, 5, 28, 29, 30, 31, 32, 33, 34, 35, 36, 37, 38, 39, 40, 41, 42, 43, 44, 45, 46, 47, 48, 49, 50, 51, 52, 53, 54, 55, 56, 57, 58, 59, 60, 61, 62, 63, 64, 65, 66, 67] (by decide +kernel) (by decide +kernel)
set_option maxRecDepth 20000 in
theorem gX7_minutes_X7_toldMinutes : GoodIn wsX7_minutes (wsV RX7 173 RX7 yX7_toldMinutes wsX7_toldMinutes) := goodIn_app (goodIn_of _ (by decide +kernel)) ggX7_minutes_X7_toldMinutes
set_option maxRecDepth 20000 in
theorem ggX7_minutes_X7_share : GoodIn wsX7_minutes wsX7_share := goodIn_r _ [18, 19, 20, 21, 22, 9, 23, 28, 29, 30, 31, 32, 33, 34, 35, 36, 37, 38, 39, 40, 41, 42, 43, 44, 45, 46, 47, 48, 49, 50, 51, 52, 53, 54, 55, 56, 57, 58, 59, 60, 61, 62, 63, 64, 65, 66, 67] (by decide +kernel) (by decide +kernel)
set_option maxRecDepth 20000 in
theorem gX7_minutes_X7_share : GoodIn wsX7_minutes (wsV RX7 204 RX7 yX7_share wsX7_share) := goodIn_app (goodIn_of _ (by decide +kernel)) ggX7_minutes_X7_share
set_option maxRecDepth 20000 in
theorem ggX7_minutes_X7_told : GoodIn wsX7_minutes wsX7_told := goodIn_r _ [27, 19, 20, 28, 29, 30, 31, 32, 33, 34, 35, 36, 37, 38, 39, 40, 41, 42, 43, 44, 45, 46, 47, 48, 49, 50, 51, 52, 53, 54, 55, 56, 57, 58, 59, 60, 61, 62, 63, 64, 65, 66, 67] (by decide +kernel) (by decide +kernel)
set_option maxRecDepth 20000 in
theorem gX7_minutes_X7_told : GoodIn wsX7_minutes (wsV RX7 208 RX7 yX7_told wsX7_told) := goodIn_app (goodIn_of _ (by decide +kernel)) ggX7_minutes_X7_told
theorem dX7_minutes_0 : decode cX7_minutes 0 = .ok (.iload_n 1, 1) := by decide +kernel
theorem dX7_minutes_1 : decode cX7_minutes 1 = .ok (.iconst 0, 1) := by decide +kernel
theorem dX7_minutes_2 : decode cX7_minutes 2 = .ok (.iconst 5, 1) := by decide +kernel
theorem dX7_minutes_3 : decode cX7_minutes 3 = .ok (.invokestatic 94, 3) := by decide +kernel
theorem dX7_minutes_6 : decode cX7_minutes 6 = .ok (.ifCond .eq 19, 3) := by decide +kernel
theorem dX7_minutes_9 : decode cX7_minutes 9 = .ok (.iload_n 2, 1) := by decide +kernel
theorem dX7_minutes_10 : decode cX7_minutes 10 = .ok (.iconst 0, 1) := by decide +kernel
theorem dX7_minutes_11 : decode cX7_minutes 11 = .ok (.iconst 2, 1) := by decide +kernel
theorem dX7_minutes_12 : decode cX7_minutes 12 = .ok (.invokestatic 94, 3) := by decide +kernel
theorem dX7_minutes_15 : decode cX7_minutes 15 = .ok (.ifCond .eq 10, 3) := by decide +kernel
theorem dX7_minutes_18 : decode cX7_minutes 18 = .ok (.aload_n 0, 1) := by decide +kernel
theorem dX7_minutes_19 : decode cX7_minutes 19 = .ok (.getfield 142, 3) := by decide +kernel
theorem dX7_minutes_22 : decode cX7_minutes 22 = .ok (.ifCond .ne 7, 3) := by decide +kernel
theorem dX7_minutes_25 : decode cX7_minutes 25 = .ok (.ldc2_w 78, 3) := by decide +kernel
theorem dX7_minutes_28 : decode cX7_minutes 28 = .ok (.lreturn, 1) := by decide +kernel
theorem dX7_minutes_29 : decode cX7_minutes 29 = .ok (.iload_n 2, 1) := by decide +kernel
theorem dX7_minutes_30 : decode cX7_minutes 30 = .ok (.iconst 2, 1) := by decide +kernel
theorem dX7_minutes_31 : decode cX7_minutes 31 = .ok (.if_icmp .ne 42, 3) := by decide +kernel
theorem dX7_minutes_34 : decode cX7_minutes 34 = .ok (.aload_n 0, 1) := by decide +kernel
theorem dX7_minutes_35 : decode cX7_minutes 35 = .ok (.getfield 158, 3) := by decide +kernel
theorem dX7_minutes_38 : decode cX7_minutes 38 = .ok (.ifCond .le 22, 3) := by decide +kernel
theorem dX7_minutes_41 : decode cX7_minutes 41 = .ok (.aload_n 0, 1) := by decide +kernel
theorem dX7_minutes_42 : decode cX7_minutes 42 = .ok (.iload_n 1, 1) := by decide +kernel
theorem dX7_minutes_43 : decode cX7_minutes 43 = .ok (.iconst 1, 1) := by decide +kernel
theorem dX7_minutes_44 : decode cX7_minutes 44 = .ok (.iadd, 1) := by decide +kernel
theorem dX7_minutes_45 : decode cX7_minutes 45 = .ok (.aload_n 0, 1) := by decide +kernel
theorem dX7_minutes_46 : decode cX7_minutes 46 = .ok (.getfield 158, 3) := by decide +kernel
theorem dX7_minutes_49 : decode cX7_minutes 49 = .ok (.aload_n 0, 1) := by decide +kernel
theorem dX7_minutes_50 : decode cX7_minutes 50 = .ok (.getfield 161, 3) := by decide +kernel
theorem dX7_minutes_53 : decode cX7_minutes 53 = .ok (.invokevirtual 173, 3) := by decide +kernel
theorem dX7_minutes_56 : decode cX7_minutes 56 = .ok (.i2l, 1) := by decide +kernel
theorem dX7_minutes_57 : decode cX7_minutes 57 = .ok (.goto 15, 3) := by decide +kernel
theorem dX7_minutes_60 : decode cX7_minutes 60 = .ok (.bipush 12, 2) := by decide +kernel
theorem dX7_minutes_62 : decode cX7_minutes 62 = .ok (.iload_n 1, 1) := by decide +kernel
theorem dX7_minutes_63 : decode cX7_minutes 63 = .ok (.iconst 1, 1) := by decide +kernel
theorem dX7_minutes_64 : decode cX7_minutes 64 = .ok (.iadd, 1) := by decide +kernel
theorem dX7_minutes_65 : decode cX7_minutes 65 = .ok (.imul, 1) := by decide +kernel
theorem dX7_minutes_66 : decode cX7_minutes 66 = .ok (.aload_n 0, 1) := by decide +kernel
theorem dX7_minutes_67 : decode cX7_minutes 67 = .ok (.getfield 146, 3) := by decide +kernel
theorem dX7_minutes_70 : decode cX7_minutes 70 = .ok (.idiv, 1) := by decide +kernel
theorem dX7_minutes_71 : decode cX7_minutes 71 = .ok (.i2l, 1) := by decide +kernel
theorem dX7_minutes_72 : decode cX7_minutes 72 = .ok (.lreturn, 1) := by decide +kernel
theorem dX7_minutes_73 : decode cX7_minutes 73 = .ok (.aload_n 0, 1) := by decide +kernel
theorem dX7_minutes_74 : decode cX7_minutes 74 = .ok (.ldc2_w 188, 3) := by decide +kernel
theorem dX7_minutes_77 : decode cX7_minutes 77 = .ok (.iload_n 1, 1) := by decide +kernel
theorem dX7_minutes_78 : decode cX7_minutes 78 = .ok (.iconst 1, 1) := by decide +kernel
theorem dX7_minutes_79 : decode cX7_minutes 79 = .ok (.iadd, 1) := by decide +kernel
theorem dX7_minutes_80 : decode cX7_minutes 80 = .ok (.i2l, 1) := by decide +kernel
theorem dX7_minutes_81 : decode cX7_minutes 81 = .ok (.lmul, 1) := by decide +kernel
theorem dX7_minutes_82 : decode cX7_minutes 82 = .ok (.aload_n 0, 1) := by decide +kernel
theorem dX7_minutes_83 : decode cX7_minutes 83 = .ok (.getfield 146, 3) := by decide +kernel
theorem dX7_minutes_86 : decode cX7_minutes 86 = .ok (.i2l, 1) := by decide +kernel
theorem dX7_minutes_87 : decode cX7_minutes 87 = .ok (.invokevirtual 204, 3) := by decide +kernel
theorem dX7_minutes_90 : decode cX7_minutes 90 = .ok (.aload_n 0, 1) := by decide +kernel
theorem dX7_minutes_91 : decode cX7_minutes 91 = .ok (.iload_n 2, 1) := by decide +kernel
theorem dX7_minutes_92 : decode cX7_minutes 92 = .ok (.invokevirtual 208, 3) := by decide +kernel
theorem dX7_minutes_95 : decode cX7_minutes 95 = .ok (.lreturn, 1) := by decide +kernel
set_option maxRecDepth 20000 in
theorem ggX7_layGain_X7_layRun : GoodIn wsX7_layGain wsX7_layRun := goodIn_r _ [10, 11, 12, 13, 14, 15, 16, 17, 18, 9, 19, 1, 2, 20, 21, 22, 23, 24, 46, 47, 48, 49, 50, 51, 52, 53, 54, 55, 56, 57, 58, 59, 60, 61, 62, 63, 64, 65, 66, 67, 68, 69, 70, 71, 72, 73, 74, 75, 76, 77, 78, 79, 80, 81, 82, 83, 84, 85] (by decide +kernel) (by decide +kernel)
set_option maxRecDepth 20000 in
theorem gX7_layGain_X7_layRun : GoodIn wsX7_layGain (wsV RX7 197 RX7 yX7_layRun wsX7_layRun) := goodIn_app (goodIn_of _ (by decide +kernel)) ggX7_layGain_X7_layRun
set_option maxRecDepth 20000 in
theorem ggX7_layGain_X7_metAt : GoodIn wsX7_layGain wsX7_metAt := goodIn_r _ [28, 24, 13, 46, 47, 48, 49, 50, 51, 52, 53, 54, 55, 56, 57, 58, 59, 60, 61, 62, 63, 64, 65, 66, 67, 68, 69, 70, 71, 72, 73, 74, 75, 76, 77, 78, 79, 80, 81, 82, 83, 84, 85] (by decide +kernel) (by decide +kernel)
set_option maxRecDepth 20000 in
theorem gX7_layGain_X7_metAt : GoodIn wsX7_layGain (wsV RX7 215 RX7 yX7_metAt wsX7_metAt) := goodIn_app (goodIn_of _ (by decide +kernel)) ggX7_layGain_X7_metAt
set_option maxRecDepth 20000 in
theorem ggX7_layGain_X7_meanWeights : GoodIn wsX7_layGain wsX7_meanWeights := goodIn_r _ [32, 24, 46, 47, 48, 49, 50, 51, 52, 53, 54, 55, 56, 57, 58, 59, 60, 61, 62, 63, 64, 65, 66, 67, 68, 69, 70, 71, 72, 73, 74, 75, 76, 77, 78, 79, 80, 81, 82, 83, 84, 85] (by decide +kernel) (by decide +kernel)
set_option maxRecDepth 20000 in
theorem gX7_layGain_X7_meanWeights : GoodIn wsX7_layGain (wsV RX7 212 RX7 yX7_meanWeights wsX7_meanWeights) := goodIn_app (goodIn_of _ (by decide +kernel)) ggX7_layGain_X7_meanWeights
set_option maxRecDepth 20000 in
theorem ggX7_layGain_X7_allWeights : GoodIn wsX7_layGain wsX7_allWeights := goodIn_r _ [36, 24, 46, 47, 48, 49, 50, 51, 52, 53, 54, 55, 56, 57, 58, 59, 60, 61, 62, 63, 64, 65, 66, 67, 68, 69, 70, 71, 72, 73, 74, 75, 76, 77, 78, 79, 80, 81, 82, 83, 84, 85] (by decide +kernel) (by decide +kernel)
set_option maxRecDepth 20000 in
theorem gX7_layGain_X7_allWeights : GoodIn wsX7_layGain (wsV RX7 200 RX7 yX7_allWeights wsX7_allWeights) := goodIn_app (goodIn_of _ (by decide +kernel)) ggX7_layGain_X7_allWeights
set_option maxRecDepth 20000 in
theorem ggX7_layGain_X7_share : GoodIn wsX7_layGain wsX7_share := goodIn_r _ [40, 41, 42, 43, 44, 9, 45, 46, 47, 48, 49, 50, 51, 52, 53, 54, 55, 56, 57, 58, 59, 60, 61, 62, 63, 64, 65, 66, 67, 68, 69, 70, 71, 72, 73, 74, 75, 76, 77, 78, 79, 80, 81, 82, 83, 84, 85] (by decide +kernel) (by decide +kernel)
set_option maxRecDepth 20000 in
theorem gX7_layGain_X7_share : GoodIn wsX7_layGain (wsV RX7 204 RX7 yX7_share wsX7_share) := goodIn_app (goodIn_of _ (by decide +kernel)) ggX7_layGain_X7_share
theorem dX7_layGain_0 : decode cX7_layGain 0 = .ok (.aload_n 0, 1) := by decide +kernel
theorem dX7_layGain_1 : decode cX7_layGain 1 = .ok (.aload_n 1, 1) := by decide +kernel
theorem dX7_layGain_2 : decode cX7_layGain 2 = .ok (.invokevirtual 197, 3) := by decide +kernel
theorem dX7_layGain_5 : decode cX7_layGain 5 = .ok (.lconst 0, 1) := by decide +kernel
theorem dX7_layGain_6 : decode cX7_layGain 6 = .ok (.lstore_n 2, 1) := by decide +kernel
theorem dX7_layGain_7 : decode cX7_layGain 7 = .ok (.iconst 0, 1) := by decide +kernel
theorem dX7_layGain_8 : decode cX7_layGain 8 = .ok (.istore 4, 2) := by decide +kernel
theorem dX7_layGain_10 : decode cX7_layGain 10 = .ok (.iload 4, 2) := by decide +kernel
theorem dX7_layGain_12 : decode cX7_layGain 12 = .ok (.aload_n 0, 1) := by decide +kernel
theorem dX7_layGain_13 : decode cX7_layGain 13 = .ok (.getfield 152, 3) := by decide +kernel
theorem dX7_layGain_16 : decode cX7_layGain 16 = .ok (.if_icmp .ge 64, 3) := by decide +kernel
theorem dX7_layGain_19 : decode cX7_layGain 19 = .ok (.lconst 0, 1) := by decide +kernel
theorem dX7_layGain_20 : decode cX7_layGain 20 = .ok (.lstore 5, 2) := by decide +kernel
theorem dX7_layGain_22 : decode cX7_layGain 22 = .ok (.iconst 0, 1) := by decide +kernel
theorem dX7_layGain_23 : decode cX7_layGain 23 = .ok (.istore 7, 2) := by decide +kernel
theorem dX7_layGain_25 : decode cX7_layGain 25 = .ok (.iload 7, 2) := by decide +kernel
theorem dX7_layGain_27 : decode cX7_layGain 27 = .ok (.aload_n 1, 1) := by decide +kernel
theorem dX7_layGain_28 : decode cX7_layGain 28 = .ok (.iload 4, 2) := by decide +kernel
theorem dX7_layGain_30 : decode cX7_layGain 30 = .ok (.iaload, 1) := by decide +kernel
theorem dX7_layGain_31 : decode cX7_layGain 31 = .ok (.if_icmp .ge 20, 3) := by decide +kernel
theorem dX7_layGain_34 : decode cX7_layGain 34 = .ok (.lload 5, 2) := by decide +kernel
theorem dX7_layGain_36 : decode cX7_layGain 36 = .ok (.aload_n 0, 1) := by decide +kernel
theorem dX7_layGain_37 : decode cX7_layGain 37 = .ok (.iload 7, 2) := by decide +kernel
theorem dX7_layGain_39 : decode cX7_layGain 39 = .ok (.invokevirtual 215, 3) := by decide +kernel
theorem dX7_layGain_42 : decode cX7_layGain 42 = .ok (.ladd, 1) := by decide +kernel
theorem dX7_layGain_43 : decode cX7_layGain 43 = .ok (.lstore 5, 2) := by decide +kernel
theorem dX7_layGain_45 : decode cX7_layGain 45 = .ok (.iinc 7 1, 3) := by decide +kernel
theorem dX7_layGain_48 : decode cX7_layGain 48 = .ok (.goto (-23), 3) := by decide +kernel
theorem dX7_layGain_51 : decode cX7_layGain 51 = .ok (.lload_n 2, 1) := by decide +kernel
theorem dX7_layGain_52 : decode cX7_layGain 52 = .ok (.aload_n 0, 1) := by decide +kernel
theorem dX7_layGain_53 : decode cX7_layGain 53 = .ok (.getfield 19, 3) := by decide +kernel
theorem dX7_layGain_56 : decode cX7_layGain 56 = .ok (.iload 4, 2) := by decide +kernel
theorem dX7_layGain_58 : decode cX7_layGain 58 = .ok (.iaload, 1) := by decide +kernel
theorem dX7_layGain_59 : decode cX7_layGain 59 = .ok (.i2l, 1) := by decide +kernel
theorem dX7_layGain_60 : decode cX7_layGain 60 = .ok (.aload_n 0, 1) := by decide +kernel
theorem dX7_layGain_61 : decode cX7_layGain 61 = .ok (.getfield 22, 3) := by decide +kernel
theorem dX7_layGain_64 : decode cX7_layGain 64 = .ok (.iload 4, 2) := by decide +kernel
theorem dX7_layGain_66 : decode cX7_layGain 66 = .ok (.iaload, 1) := by decide +kernel
theorem dX7_layGain_67 : decode cX7_layGain 67 = .ok (.i2l, 1) := by decide +kernel
theorem dX7_layGain_68 : decode cX7_layGain 68 = .ok (.lmul, 1) := by decide +kernel
theorem dX7_layGain_69 : decode cX7_layGain 69 = .ok (.lload 5, 2) := by decide +kernel
theorem dX7_layGain_71 : decode cX7_layGain 71 = .ok (.lmul, 1) := by decide +kernel
theorem dX7_layGain_72 : decode cX7_layGain 72 = .ok (.ladd, 1) := by decide +kernel
theorem dX7_layGain_73 : decode cX7_layGain 73 = .ok (.lstore_n 2, 1) := by decide +kernel
theorem dX7_layGain_74 : decode cX7_layGain 74 = .ok (.iinc 4 1, 3) := by decide +kernel
theorem dX7_layGain_77 : decode cX7_layGain 77 = .ok (.goto (-67), 3) := by decide +kernel
theorem dX7_layGain_80 : decode cX7_layGain 80 = .ok (.aload_n 0, 1) := by decide +kernel
theorem dX7_layGain_81 : decode cX7_layGain 81 = .ok (.lload_n 2, 1) := by decide +kernel
theorem dX7_layGain_82 : decode cX7_layGain 82 = .ok (.ldc2_w 218, 3) := by decide +kernel
theorem dX7_layGain_85 : decode cX7_layGain 85 = .ok (.aload_n 0, 1) := by decide +kernel
theorem dX7_layGain_86 : decode cX7_layGain 86 = .ok (.getfield 149, 3) := by decide +kernel
theorem dX7_layGain_89 : decode cX7_layGain 89 = .ok (.i2l, 1) := by decide +kernel
theorem dX7_layGain_90 : decode cX7_layGain 90 = .ok (.lmul, 1) := by decide +kernel
theorem dX7_layGain_91 : decode cX7_layGain 91 = .ok (.aload_n 0, 1) := by decide +kernel
theorem dX7_layGain_92 : decode cX7_layGain 92 = .ok (.invokevirtual 212, 3) := by decide +kernel
theorem dX7_layGain_95 : decode cX7_layGain 95 = .ok (.lmul, 1) := by decide +kernel
theorem dX7_layGain_96 : decode cX7_layGain 96 = .ok (.lsub, 1) := by decide +kernel
theorem dX7_layGain_97 : decode cX7_layGain 97 = .ok (.ldc2_w 218, 3) := by decide +kernel
theorem dX7_layGain_100 : decode cX7_layGain 100 = .ok (.aload_n 0, 1) := by decide +kernel
theorem dX7_layGain_101 : decode cX7_layGain 101 = .ok (.invokevirtual 200, 3) := by decide +kernel
theorem dX7_layGain_104 : decode cX7_layGain 104 = .ok (.lmul, 1) := by decide +kernel
theorem dX7_layGain_105 : decode cX7_layGain 105 = .ok (.invokevirtual 204, 3) := by decide +kernel
theorem dX7_layGain_108 : decode cX7_layGain 108 = .ok (.return_, 1) := by decide +kernel
set_option maxRecDepth 20000 in
theorem ggX7_gain_X7_isWhich : GoodIn wsX7_gain wsX7_isWhich := goodIn_r _ [7] (by decide +kernel) (by decide +kernel)
set_option maxRecDepth 20000 in
theorem gX7_gain_X7_isWhich : GoodIn wsX7_gain (va_wsS RX7 194 yX7_isWhich wsX7_isWhich) := goodIn_app (goodIn_of _ (by decide +kernel)) ggX7_gain_X7_isWhich
set_option maxRecDepth 20000 in
theorem ggX7_gain_X7_layGain : GoodIn wsX7_gain wsX7_layGain := goodIn_r _ [11, 12, 13, 14, 15, 16, 17, 18, 19, 6, 20, 21, 22, 23, 24, 25, 26, 27, 28, 29, 30, 31, 32, 33, 34, 35, 36, 37, 38, 39, 40, 41, 42, 43, 44, 45, 46, 47, 48, 49, 50, 51, 52, 53, 54, 55, 60, 61, 62, 63, 64, 65, 66, 67, 68, 69, 70, 71, 72, 73, 74, 75, 76, 77, 78, 79, 80, 81, 82, 83, 84, 85, 86, 87, 88, 89, 90, 91, 92, 93, 94, 95, 96, 97, 98, 99] (by decide +kernel) (by decide +kernel)
set_option maxRecDepth 20000 in
theorem gX7_gain_X7_layGain : GoodIn wsX7_gain (wsV RX7 220 RX7 yX7_layGain wsX7_layGain) := goodIn_app (goodIn_of _ (by decide +kernel)) ggX7_gain_X7_layGain
set_option maxRecDepth 20000 in
theorem ggX7_gain_X7_told : GoodIn wsX7_gain wsX7_told := goodIn_r _ [59, 51, 52, 60, 61, 62, 63, 64, 65, 66, 67, 68, 69, 70, 71, 72, 73, 74, 75, 76, 77, 78, 79, 80, 81, 82, 83, 84, 85, 86, 87, 88, 89, 90, 91, 92, 93, 94, 95, 96, 97, 98, 99] (by decide +kernel) (by decide +kernel)
set_option maxRecDepth 20000 in
theorem gX7_gain_X7_told : GoodIn wsX7_gain (wsV RX7 208 RX7 yX7_told wsX7_told) := goodIn_app (goodIn_of _ (by decide +kernel)) ggX7_gain_X7_told
theorem dX7_gain_0 : decode cX7_gain 0 = .ok (.iload_n 1, 1) := by decide +kernel
theorem dX7_gain_1 : decode cX7_gain 1 = .ok (.invokestatic 194, 3) := by decide +kernel
theorem dX7_gain_4 : decode cX7_gain 4 = .ok (.ifCond .eq 10, 3) := by decide +kernel
theorem dX7_gain_7 : decode cX7_gain 7 = .ok (.aload_n 0, 1) := by decide +kernel
theorem dX7_gain_8 : decode cX7_gain 8 = .ok (.getfield 142, 3) := by decide +kernel
theorem dX7_gain_11 : decode cX7_gain 11 = .ok (.ifCond .ne 7, 3) := by decide +kernel
theorem dX7_gain_14 : decode cX7_gain 14 = .ok (.ldc2_w 78, 3) := by decide +kernel
theorem dX7_gain_17 : decode cX7_gain 17 = .ok (.lreturn, 1) := by decide +kernel
theorem dX7_gain_18 : decode cX7_gain 18 = .ok (.aload_n 0, 1) := by decide +kernel
theorem dX7_gain_19 : decode cX7_gain 19 = .ok (.aload_n 0, 1) := by decide +kernel
theorem dX7_gain_20 : decode cX7_gain 20 = .ok (.getfield 25, 3) := by decide +kernel
theorem dX7_gain_23 : decode cX7_gain 23 = .ok (.invokevirtual 220, 3) := by decide +kernel
theorem dX7_gain_26 : decode cX7_gain 26 = .ok (.aload_n 0, 1) := by decide +kernel
theorem dX7_gain_27 : decode cX7_gain 27 = .ok (.iload_n 1, 1) := by decide +kernel
theorem dX7_gain_28 : decode cX7_gain 28 = .ok (.invokevirtual 208, 3) := by decide +kernel
theorem dX7_gain_31 : decode cX7_gain 31 = .ok (.lreturn, 1) := by decide +kernel
theorem dX7_allRows_0 : decode cX7_allRows 0 = .ok (.aload_n 0, 1) := by decide +kernel
theorem dX7_allRows_1 : decode cX7_allRows 1 = .ok (.getfield 152, 3) := by decide +kernel
theorem dX7_allRows_4 : decode cX7_allRows 4 = .ok (.ifCond .ne 7, 3) := by decide +kernel
theorem dX7_allRows_7 : decode cX7_allRows 7 = .ok (.iconst 1, 1) := by decide +kernel
theorem dX7_allRows_8 : decode cX7_allRows 8 = .ok (.goto 32, 3) := by decide +kernel
theorem dX7_allRows_11 : decode cX7_allRows 11 = .ok (.aload_n 0, 1) := by decide +kernel
theorem dX7_allRows_12 : decode cX7_allRows 12 = .ok (.getfield 152, 3) := by decide +kernel
theorem dX7_allRows_15 : decode cX7_allRows 15 = .ok (.iconst 1, 1) := by decide +kernel
theorem dX7_allRows_16 : decode cX7_allRows 16 = .ok (.if_icmp .ne 8, 3) := by decide +kernel
theorem dX7_allRows_19 : decode cX7_allRows 19 = .ok (.bipush 6, 2) := by decide +kernel
theorem dX7_allRows_21 : decode cX7_allRows 21 = .ok (.goto 19, 3) := by decide +kernel
theorem dX7_allRows_24 : decode cX7_allRows 24 = .ok (.aload_n 0, 1) := by decide +kernel
theorem dX7_allRows_25 : decode cX7_allRows 25 = .ok (.getfield 152, 3) := by decide +kernel
theorem dX7_allRows_28 : decode cX7_allRows 28 = .ok (.iconst 2, 1) := by decide +kernel
theorem dX7_allRows_29 : decode cX7_allRows 29 = .ok (.if_icmp .ne 8, 3) := by decide +kernel
theorem dX7_allRows_32 : decode cX7_allRows 32 = .ok (.bipush 36, 2) := by decide +kernel
theorem dX7_allRows_34 : decode cX7_allRows 34 = .ok (.goto 6, 3) := by decide +kernel
theorem dX7_allRows_37 : decode cX7_allRows 37 = .ok (.sipush 216, 3) := by decide +kernel
theorem dX7_allRows_40 : decode cX7_allRows 40 = .ok (.ireturn, 1) := by decide +kernel
theorem dX7_layRow_0 : decode cX7_layRow 0 = .ok (.iload_n 1, 1) := by decide +kernel
theorem dX7_layRow_1 : decode cX7_layRow 1 = .ok (.istore_n 2, 1) := by decide +kernel
theorem dX7_layRow_2 : decode cX7_layRow 2 = .ok (.aload_n 0, 1) := by decide +kernel
theorem dX7_layRow_3 : decode cX7_layRow 3 = .ok (.getfield 152, 3) := by decide +kernel
theorem dX7_layRow_6 : decode cX7_layRow 6 = .ok (.iconst 1, 1) := by decide +kernel
theorem dX7_layRow_7 : decode cX7_layRow 7 = .ok (.isub, 1) := by decide +kernel
theorem dX7_layRow_8 : decode cX7_layRow 8 = .ok (.istore_n 3, 1) := by decide +kernel
theorem dX7_layRow_9 : decode cX7_layRow 9 = .ok (.iload_n 3, 1) := by decide +kernel
theorem dX7_layRow_10 : decode cX7_layRow 10 = .ok (.ifCond .lt 24, 3) := by decide +kernel
theorem dX7_layRow_13 : decode cX7_layRow 13 = .ok (.aload_n 0, 1) := by decide +kernel
theorem dX7_layRow_14 : decode cX7_layRow 14 = .ok (.getfield 53, 3) := by decide +kernel
theorem dX7_layRow_17 : decode cX7_layRow 17 = .ok (.iload_n 3, 1) := by decide +kernel
theorem dX7_layRow_18 : decode cX7_layRow 18 = .ok (.iload_n 2, 1) := by decide +kernel
theorem dX7_layRow_19 : decode cX7_layRow 19 = .ok (.bipush 6, 2) := by decide +kernel
theorem dX7_layRow_21 : decode cX7_layRow 21 = .ok (.irem, 1) := by decide +kernel
theorem dX7_layRow_22 : decode cX7_layRow 22 = .ok (.iastore, 1) := by decide +kernel
theorem dX7_layRow_23 : decode cX7_layRow 23 = .ok (.iload_n 2, 1) := by decide +kernel
theorem dX7_layRow_24 : decode cX7_layRow 24 = .ok (.bipush 6, 2) := by decide +kernel
theorem dX7_layRow_26 : decode cX7_layRow 26 = .ok (.idiv, 1) := by decide +kernel
theorem dX7_layRow_27 : decode cX7_layRow 27 = .ok (.istore_n 2, 1) := by decide +kernel
theorem dX7_layRow_28 : decode cX7_layRow 28 = .ok (.iinc 3 (-1), 3) := by decide +kernel
theorem dX7_layRow_31 : decode cX7_layRow 31 = .ok (.goto (-22), 3) := by decide +kernel
theorem dX7_layRow_34 : decode cX7_layRow 34 = .ok (.return_, 1) := by decide +kernel
set_option maxRecDepth 20000 in
theorem ggX7_findBest_X7_allRows : GoodIn wsX7_findBest wsX7_allRows := goodIn_r _ [10, 4, 66, 67, 68, 69, 70, 71, 72, 73, 74, 75, 76, 77, 78, 79, 80, 81, 82, 83, 84, 85, 86, 87, 88, 89, 90, 91, 92, 93, 94, 95, 96, 97, 98, 99, 100, 101, 102, 103, 104, 105] (by decide +kernel) (by decide +kernel)
set_option maxRecDepth 20000 in
theorem gX7_findBest_X7_allRows : GoodIn wsX7_findBest (wsV RX7 223 RX7 yX7_allRows wsX7_allRows) := goodIn_app (goodIn_of _ (by decide +kernel)) ggX7_findBest_X7_allRows
set_option maxRecDepth 20000 in
theorem ggX7_findBest_X7_layRow : GoodIn wsX7_findBest wsX7_layRow := goodIn_r _ [14, 4, 1, 66, 67, 68, 69, 70, 71, 72, 73, 74, 75, 76, 77, 78, 79, 80, 81, 82, 83, 84, 85, 86, 87, 88, 89, 90, 91, 92, 93, 94, 95, 96, 97, 98, 99, 100, 101, 102, 103, 104, 105] (by decide +kernel) (by decide +kernel)
set_option maxRecDepth 20000 in
theorem gX7_findBest_X7_layRow : GoodIn wsX7_findBest (wsV RX7 226 RX7 yX7_layRow wsX7_layRow) := goodIn_app (goodIn_of _ (by decide +kernel)) ggX7_findBest_X7_layRow
set_option maxRecDepth 20000 in
theorem ggX7_findBest_X7_layGain : GoodIn wsX7_findBest wsX7_layGain := goodIn_r _ [18, 4, 19, 20, 21, 22, 23, 24, 25, 9, 26, 27, 28, 29, 30, 31, 32, 33, 34, 35, 36, 37, 38, 39, 40, 41, 42, 43, 44, 45, 46, 47, 48, 49, 50, 51, 52, 53, 54, 55, 56, 2, 3, 57, 58, 59, 66, 67, 68, 69, 70, 71, 72, 73, 74, 75, 76, 77, 78, 79, 80, 81, 82, 83, 84, 85, 86, 87, 88, 89, 90, 91, 92, 93, 94, 95, 96, 97, 98, 99, 100, 101, 102, 103, 104, 105] (by decide +kernel) (by decide +kernel)
set_option maxRecDepth 20000 in
theorem gX7_findBest_X7_layGain : GoodIn wsX7_findBest (wsV RX7 220 RX7 yX7_layGain wsX7_layGain) := goodIn_app (goodIn_of _ (by decide +kernel)) ggX7_findBest_X7_layGain
set_option maxRecDepth 20000 in
theorem ggX7_findBest_X7_compare : GoodIn wsX7_findBest wsX7_compare := goodIn_r _ [62, 63, 64, 9, 65] (by decide +kernel) (by decide +kernel)
set_option maxRecDepth 20000 in
theorem gX7_findBest_X7_compare : GoodIn wsX7_findBest (va_wsS RX7 229 yX7_compare wsX7_compare) := goodIn_app (goodIn_of _ (by decide +kernel)) ggX7_findBest_X7_compare
theorem dX7_findBest_0 : decode cX7_findBest 0 = .ok (.lconst 0, 1) := by decide +kernel
theorem dX7_findBest_1 : decode cX7_findBest 1 = .ok (.lstore_n 1, 1) := by decide +kernel
theorem dX7_findBest_2 : decode cX7_findBest 2 = .ok (.lconst 1, 1) := by decide +kernel
theorem dX7_findBest_3 : decode cX7_findBest 3 = .ok (.lstore_n 3, 1) := by decide +kernel
theorem dX7_findBest_4 : decode cX7_findBest 4 = .ok (.iconst 0, 1) := by decide +kernel
theorem dX7_findBest_5 : decode cX7_findBest 5 = .ok (.istore 5, 2) := by decide +kernel
theorem dX7_findBest_7 : decode cX7_findBest 7 = .ok (.iload 5, 2) := by decide +kernel
theorem dX7_findBest_9 : decode cX7_findBest 9 = .ok (.aload_n 0, 1) := by decide +kernel
theorem dX7_findBest_10 : decode cX7_findBest 10 = .ok (.invokevirtual 223, 3) := by decide +kernel
theorem dX7_findBest_13 : decode cX7_findBest 13 = .ok (.if_icmp .ge 86, 3) := by decide +kernel
theorem dX7_findBest_16 : decode cX7_findBest 16 = .ok (.aload_n 0, 1) := by decide +kernel
theorem dX7_findBest_17 : decode cX7_findBest 17 = .ok (.iload 5, 2) := by decide +kernel
theorem dX7_findBest_19 : decode cX7_findBest 19 = .ok (.invokevirtual 226, 3) := by decide +kernel
theorem dX7_findBest_22 : decode cX7_findBest 22 = .ok (.aload_n 0, 1) := by decide +kernel
theorem dX7_findBest_23 : decode cX7_findBest 23 = .ok (.aload_n 0, 1) := by decide +kernel
theorem dX7_findBest_24 : decode cX7_findBest 24 = .ok (.getfield 53, 3) := by decide +kernel
theorem dX7_findBest_27 : decode cX7_findBest 27 = .ok (.invokevirtual 220, 3) := by decide +kernel
theorem dX7_findBest_30 : decode cX7_findBest 30 = .ok (.iload 5, 2) := by decide +kernel
theorem dX7_findBest_32 : decode cX7_findBest 32 = .ok (.ifCond .eq 19, 3) := by decide +kernel
theorem dX7_findBest_35 : decode cX7_findBest 35 = .ok (.aload_n 0, 1) := by decide +kernel
theorem dX7_findBest_36 : decode cX7_findBest 36 = .ok (.getfield 84, 3) := by decide +kernel
theorem dX7_findBest_39 : decode cX7_findBest 39 = .ok (.aload_n 0, 1) := by decide +kernel
theorem dX7_findBest_40 : decode cX7_findBest 40 = .ok (.getfield 88, 3) := by decide +kernel
theorem dX7_findBest_43 : decode cX7_findBest 43 = .ok (.lload_n 1, 1) := by decide +kernel
theorem dX7_findBest_44 : decode cX7_findBest 44 = .ok (.lload_n 3, 1) := by decide +kernel
theorem dX7_findBest_45 : decode cX7_findBest 45 = .ok (.invokestatic 229, 3) := by decide +kernel
theorem dX7_findBest_48 : decode cX7_findBest 48 = .ok (.ifCond .le 45, 3) := by decide +kernel
theorem dX7_findBest_51 : decode cX7_findBest 51 = .ok (.aload_n 0, 1) := by decide +kernel
theorem dX7_findBest_52 : decode cX7_findBest 52 = .ok (.getfield 84, 3) := by decide +kernel
theorem dX7_findBest_55 : decode cX7_findBest 55 = .ok (.lstore_n 1, 1) := by decide +kernel
theorem dX7_findBest_56 : decode cX7_findBest 56 = .ok (.aload_n 0, 1) := by decide +kernel
theorem dX7_findBest_57 : decode cX7_findBest 57 = .ok (.getfield 88, 3) := by decide +kernel
theorem dX7_findBest_60 : decode cX7_findBest 60 = .ok (.lstore_n 3, 1) := by decide +kernel
theorem dX7_findBest_61 : decode cX7_findBest 61 = .ok (.iconst 0, 1) := by decide +kernel
theorem dX7_findBest_62 : decode cX7_findBest 62 = .ok (.istore 6, 2) := by decide +kernel
theorem dX7_findBest_64 : decode cX7_findBest 64 = .ok (.iload 6, 2) := by decide +kernel
theorem dX7_findBest_66 : decode cX7_findBest 66 = .ok (.aload_n 0, 1) := by decide +kernel
theorem dX7_findBest_67 : decode cX7_findBest 67 = .ok (.getfield 152, 3) := by decide +kernel
theorem dX7_findBest_70 : decode cX7_findBest 70 = .ok (.if_icmp .ge 23, 3) := by decide +kernel
theorem dX7_findBest_73 : decode cX7_findBest 73 = .ok (.aload_n 0, 1) := by decide +kernel
theorem dX7_findBest_74 : decode cX7_findBest 74 = .ok (.getfield 56, 3) := by decide +kernel
theorem dX7_findBest_77 : decode cX7_findBest 77 = .ok (.iload 6, 2) := by decide +kernel
theorem dX7_findBest_79 : decode cX7_findBest 79 = .ok (.aload_n 0, 1) := by decide +kernel
theorem dX7_findBest_80 : decode cX7_findBest 80 = .ok (.getfield 53, 3) := by decide +kernel
theorem dX7_findBest_83 : decode cX7_findBest 83 = .ok (.iload 6, 2) := by decide +kernel
theorem dX7_findBest_85 : decode cX7_findBest 85 = .ok (.iaload, 1) := by decide +kernel
theorem dX7_findBest_86 : decode cX7_findBest 86 = .ok (.iastore, 1) := by decide +kernel
theorem dX7_findBest_87 : decode cX7_findBest 87 = .ok (.iinc 6 1, 3) := by decide +kernel
theorem dX7_findBest_90 : decode cX7_findBest 90 = .ok (.goto (-26), 3) := by decide +kernel
theorem dX7_findBest_93 : decode cX7_findBest 93 = .ok (.iinc 5 1, 3) := by decide +kernel
theorem dX7_findBest_96 : decode cX7_findBest 96 = .ok (.goto (-89), 3) := by decide +kernel
theorem dX7_findBest_99 : decode cX7_findBest 99 = .ok (.return_, 1) := by decide +kernel
set_option maxRecDepth 20000 in
theorem ggX7_best_X7_isSort : GoodIn wsX7_best wsX7_isSort := goodIn_r _ [6, 7, 74, 75, 76, 77, 78, 79, 80, 81, 82, 83, 84, 85, 86, 87, 88, 89, 90, 91, 92, 93, 94, 95, 96, 97, 98, 99, 100, 101, 102, 103, 104, 105, 106, 107, 108, 109, 110, 111, 112, 113] (by decide +kernel) (by decide +kernel)
set_option maxRecDepth 20000 in
theorem gX7_best_X7_isSort : GoodIn wsX7_best (wsV RX7 177 RX7 yX7_isSort wsX7_isSort) := goodIn_app (goodIn_of _ (by decide +kernel)) ggX7_best_X7_isSort
set_option maxRecDepth 20000 in
theorem ggX7_best_X7_findBest : GoodIn wsX7_best wsX7_findBest := goodIn_r _ [11, 12, 13, 14, 7, 1, 15, 16, 17, 5, 18, 19, 20, 21, 22, 23, 24, 25, 26, 27, 28, 29, 30, 31, 32, 33, 34, 35, 36, 37, 38, 39, 40, 41, 42, 43, 44, 45, 46, 47, 48, 49, 50, 51, 52, 53, 54, 55, 56, 57, 58, 59, 60, 61, 62, 63, 64, 65, 66, 67, 68, 69, 70, 71, 72, 73, 74, 75, 76, 77, 78, 79, 80, 81, 82, 83, 84, 85, 86, 87, 88, 89, 90, 91, 92, 93, 94, 95, 96, 97, 98, 99, 100, 101, 102, 103, 104, 105, 106, 107, 108, 109, 110, 111, 112, 113] (by decide +kernel) (by decide +kernel)
set_option maxRecDepth 20000 in
theorem gX7_best_X7_findBest : GoodIn wsX7_best (wsV RX7 233 RX7 yX7_findBest wsX7_findBest) := goodIn_app (goodIn_of _ (by decide +kernel)) ggX7_best_X7_findBest
theorem dX7_best_0 : decode cX7_best 0 = .ok (.aload_n 0, 1) := by decide +kernel
theorem dX7_best_1 : decode cX7_best 1 = .ok (.iload_n 1, 1) := by decide +kernel
theorem dX7_best_2 : decode cX7_best 2 = .ok (.invokevirtual 177, 3) := by decide +kernel
theorem dX7_best_5 : decode cX7_best 5 = .ok (.ifCond .ne 5, 3) := by decide +kernel
theorem dX7_best_8 : decode cX7_best 8 = .ok (.iconst (-1), 1) := by decide +kernel
theorem dX7_best_9 : decode cX7_best 9 = .ok (.ireturn, 1) := by decide +kernel
theorem dX7_best_10 : decode cX7_best 10 = .ok (.aload_n 0, 1) := by decide +kernel
theorem dX7_best_11 : decode cX7_best 11 = .ok (.invokevirtual 233, 3) := by decide +kernel
theorem dX7_best_14 : decode cX7_best 14 = .ok (.aload_n 0, 1) := by decide +kernel
theorem dX7_best_15 : decode cX7_best 15 = .ok (.getfield 56, 3) := by decide +kernel
theorem dX7_best_18 : decode cX7_best 18 = .ok (.iload_n 1, 1) := by decide +kernel
theorem dX7_best_19 : decode cX7_best 19 = .ok (.iaload, 1) := by decide +kernel
theorem dX7_best_20 : decode cX7_best 20 = .ok (.ireturn, 1) := by decide +kernel
set_option maxRecDepth 20000 in
theorem ggX7_bars_X7_within : GoodIn wsX7_bars wsX7_within := goodIn_r _ [11] (by decide +kernel) (by decide +kernel)
set_option maxRecDepth 20000 in
theorem gX7_bars_X7_within : GoodIn wsX7_bars (va_wsS RX7 94 yX7_within wsX7_within) := goodIn_app (goodIn_of _ (by decide +kernel)) ggX7_bars_X7_within
set_option maxRecDepth 20000 in
theorem ggX7_bars_X7_findBest : GoodIn wsX7_bars wsX7_findBest := goodIn_r _ [15, 16, 17, 18, 2, 6, 19, 20, 21, 10, 22, 23, 24, 25, 26, 27, 28, 29, 30, 31, 32, 33, 34, 35, 36, 37, 38, 39, 40, 41, 42, 43, 44, 45, 46, 47, 48, 49, 50, 51, 52, 53, 54, 55, 56, 57, 58, 59, 60, 61, 62, 63, 64, 65, 66, 67, 68, 69, 70, 71, 72, 73, 74, 75, 76, 77, 86, 87, 88, 89, 90, 91, 92, 93, 94, 95, 96, 97, 98, 99, 100, 101, 102, 103, 104, 105, 106, 107, 108, 109, 110, 111, 112, 113, 114, 115, 116, 117, 118, 119, 120, 121, 122, 123, 124, 125] (by decide +kernel) (by decide +kernel)
set_option maxRecDepth 20000 in
theorem gX7_bars_X7_findBest : GoodIn wsX7_bars (wsV RX7 233 RX7 yX7_findBest wsX7_findBest) := goodIn_app (goodIn_of _ (by decide +kernel)) ggX7_bars_X7_findBest
set_option maxRecDepth 20000 in
theorem ggX7_bars_X7_hisBar : GoodIn wsX7_bars wsX7_hisBar := goodIn_r _ [81, 32, 34, 41, 82, 83, 84, 10, 85, 86, 87, 88, 89, 90, 91, 92, 93, 94, 95, 96, 97, 98, 99, 100, 101, 102, 103, 104, 105, 106, 107, 108, 109, 110, 111, 112, 113, 114, 115, 116, 117, 118, 119, 120, 121, 122, 123, 124, 125] (by decide +kernel) (by decide +kernel)
set_option maxRecDepth 20000 in
theorem gX7_bars_X7_hisBar : GoodIn wsX7_bars (wsV RX7 180 RX7 yX7_hisBar wsX7_hisBar) := goodIn_app (goodIn_of _ (by decide +kernel)) ggX7_bars_X7_hisBar
theorem dX7_bars_0 : decode cX7_bars 0 = .ok (.iload_n 1, 1) := by decide +kernel
theorem dX7_bars_1 : decode cX7_bars 1 = .ok (.iconst 0, 1) := by decide +kernel
theorem dX7_bars_2 : decode cX7_bars 2 = .ok (.iconst 2, 1) := by decide +kernel
theorem dX7_bars_3 : decode cX7_bars 3 = .ok (.invokestatic 94, 3) := by decide +kernel
theorem dX7_bars_6 : decode cX7_bars 6 = .ok (.ifCond .ne 6, 3) := by decide +kernel
theorem dX7_bars_9 : decode cX7_bars 9 = .ok (.bipush (-2), 2) := by decide +kernel
theorem dX7_bars_11 : decode cX7_bars 11 = .ok (.ireturn, 1) := by decide +kernel
theorem dX7_bars_12 : decode cX7_bars 12 = .ok (.aload_n 0, 1) := by decide +kernel
theorem dX7_bars_13 : decode cX7_bars 13 = .ok (.getfield 142, 3) := by decide +kernel
theorem dX7_bars_16 : decode cX7_bars 16 = .ok (.ifCond .ne 6, 3) := by decide +kernel
theorem dX7_bars_19 : decode cX7_bars 19 = .ok (.bipush (-3), 2) := by decide +kernel
theorem dX7_bars_21 : decode cX7_bars 21 = .ok (.ireturn, 1) := by decide +kernel
theorem dX7_bars_22 : decode cX7_bars 22 = .ok (.iload_n 1, 1) := by decide +kernel
theorem dX7_bars_23 : decode cX7_bars 23 = .ok (.iconst 1, 1) := by decide +kernel
theorem dX7_bars_24 : decode cX7_bars 24 = .ok (.if_icmp .ne 7, 3) := by decide +kernel
theorem dX7_bars_27 : decode cX7_bars 27 = .ok (.aload_n 0, 1) := by decide +kernel
theorem dX7_bars_28 : decode cX7_bars 28 = .ok (.invokevirtual 233, 3) := by decide +kernel
theorem dX7_bars_31 : decode cX7_bars 31 = .ok (.iconst 0, 1) := by decide +kernel
theorem dX7_bars_32 : decode cX7_bars 32 = .ok (.istore_n 2, 1) := by decide +kernel
theorem dX7_bars_33 : decode cX7_bars 33 = .ok (.iconst 0, 1) := by decide +kernel
theorem dX7_bars_34 : decode cX7_bars 34 = .ok (.istore_n 3, 1) := by decide +kernel
theorem dX7_bars_35 : decode cX7_bars 35 = .ok (.iload_n 3, 1) := by decide +kernel
theorem dX7_bars_36 : decode cX7_bars 36 = .ok (.aload_n 0, 1) := by decide +kernel
theorem dX7_bars_37 : decode cX7_bars 37 = .ok (.getfield 152, 3) := by decide +kernel
theorem dX7_bars_40 : decode cX7_bars 40 = .ok (.if_icmp .ge 77, 3) := by decide +kernel
theorem dX7_bars_43 : decode cX7_bars 43 = .ok (.iload_n 1, 1) := by decide +kernel
theorem dX7_bars_44 : decode cX7_bars 44 = .ok (.ifCond .ne 23, 3) := by decide +kernel
theorem dX7_bars_47 : decode cX7_bars 47 = .ok (.aload_n 0, 1) := by decide +kernel
theorem dX7_bars_48 : decode cX7_bars 48 = .ok (.iload_n 3, 1) := by decide +kernel
theorem dX7_bars_49 : decode cX7_bars 49 = .ok (.aload_n 0, 1) := by decide +kernel
theorem dX7_bars_50 : decode cX7_bars 50 = .ok (.getfield 155, 3) := by decide +kernel
theorem dX7_bars_53 : decode cX7_bars 53 = .ok (.aload_n 0, 1) := by decide +kernel
theorem dX7_bars_54 : decode cX7_bars 54 = .ok (.getfield 158, 3) := by decide +kernel
theorem dX7_bars_57 : decode cX7_bars 57 = .ok (.aload_n 0, 1) := by decide +kernel
theorem dX7_bars_58 : decode cX7_bars 58 = .ok (.getfield 161, 3) := by decide +kernel
theorem dX7_bars_61 : decode cX7_bars 61 = .ok (.invokevirtual 180, 3) := by decide +kernel
theorem dX7_bars_64 : decode cX7_bars 64 = .ok (.goto 18, 3) := by decide +kernel
theorem dX7_bars_67 : decode cX7_bars 67 = .ok (.iload_n 1, 1) := by decide +kernel
theorem dX7_bars_68 : decode cX7_bars 68 = .ok (.iconst 1, 1) := by decide +kernel
theorem dX7_bars_69 : decode cX7_bars 69 = .ok (.if_icmp .ne 12, 3) := by decide +kernel
theorem dX7_bars_72 : decode cX7_bars 72 = .ok (.aload_n 0, 1) := by decide +kernel
theorem dX7_bars_73 : decode cX7_bars 73 = .ok (.getfield 56, 3) := by decide +kernel
theorem dX7_bars_76 : decode cX7_bars 76 = .ok (.iload_n 3, 1) := by decide +kernel
theorem dX7_bars_77 : decode cX7_bars 77 = .ok (.iaload, 1) := by decide +kernel
theorem dX7_bars_78 : decode cX7_bars 78 = .ok (.goto 4, 3) := by decide +kernel
theorem dX7_bars_81 : decode cX7_bars 81 = .ok (.iconst 5, 1) := by decide +kernel
theorem dX7_bars_82 : decode cX7_bars 82 = .ok (.istore 4, 2) := by decide +kernel
theorem dX7_bars_84 : decode cX7_bars 84 = .ok (.iload_n 2, 1) := by decide +kernel
theorem dX7_bars_85 : decode cX7_bars 85 = .ok (.aload_n 0, 1) := by decide +kernel
theorem dX7_bars_86 : decode cX7_bars 86 = .ok (.getfield 25, 3) := by decide +kernel
theorem dX7_bars_89 : decode cX7_bars 89 = .ok (.iload_n 3, 1) := by decide +kernel
theorem dX7_bars_90 : decode cX7_bars 90 = .ok (.iaload, 1) := by decide +kernel
theorem dX7_bars_91 : decode cX7_bars 91 = .ok (.iload 4, 2) := by decide +kernel
theorem dX7_bars_93 : decode cX7_bars 93 = .ok (.if_icmp .ne 7, 3) := by decide +kernel
theorem dX7_bars_96 : decode cX7_bars 96 = .ok (.iconst 0, 1) := by decide +kernel
theorem dX7_bars_97 : decode cX7_bars 97 = .ok (.goto 4, 3) := by decide +kernel
theorem dX7_bars_100 : decode cX7_bars 100 = .ok (.iconst 1, 1) := by decide +kernel
theorem dX7_bars_101 : decode cX7_bars 101 = .ok (.iadd, 1) := by decide +kernel
theorem dX7_bars_102 : decode cX7_bars 102 = .ok (.istore_n 2, 1) := by decide +kernel
theorem dX7_bars_103 : decode cX7_bars 103 = .ok (.aload_n 0, 1) := by decide +kernel
theorem dX7_bars_104 : decode cX7_bars 104 = .ok (.getfield 25, 3) := by decide +kernel
theorem dX7_bars_107 : decode cX7_bars 107 = .ok (.iload_n 3, 1) := by decide +kernel
theorem dX7_bars_108 : decode cX7_bars 108 = .ok (.iload 4, 2) := by decide +kernel
theorem dX7_bars_110 : decode cX7_bars 110 = .ok (.iastore, 1) := by decide +kernel
theorem dX7_bars_111 : decode cX7_bars 111 = .ok (.iinc 3 1, 3) := by decide +kernel
theorem dX7_bars_114 : decode cX7_bars 114 = .ok (.goto (-79), 3) := by decide +kernel
theorem dX7_bars_117 : decode cX7_bars 117 = .ok (.iload_n 2, 1) := by decide +kernel
theorem dX7_bars_118 : decode cX7_bars 118 = .ok (.ireturn, 1) := by decide +kernel
set_option maxRecDepth 20000 in
theorem ggX7_against_X7_allRows : GoodIn wsX7_against wsX7_allRows := goodIn_r _ [9, 10, 69, 70, 71, 72, 73, 74, 75, 76, 77, 78, 79, 80, 81, 82, 83, 84, 85, 86, 87, 88, 89, 90, 91, 92, 93, 94, 95, 96, 97, 98, 99, 100, 101, 102, 103, 104, 105, 106, 107, 108] (by decide +kernel) (by decide +kernel)
set_option maxRecDepth 20000 in
theorem gX7_against_X7_allRows : GoodIn wsX7_against (wsV RX7 223 RX7 yX7_allRows wsX7_allRows) := goodIn_app (goodIn_of _ (by decide +kernel)) ggX7_against_X7_allRows
set_option maxRecDepth 20000 in
theorem ggX7_against_X7_within : GoodIn wsX7_against wsX7_within := goodIn_r _ [13] (by decide +kernel) (by decide +kernel)
set_option maxRecDepth 20000 in
theorem gX7_against_X7_within : GoodIn wsX7_against (va_wsS RX7 94 yX7_within wsX7_within) := goodIn_app (goodIn_of _ (by decide +kernel)) ggX7_against_X7_within
set_option maxRecDepth 20000 in
theorem ggX7_against_X7_layRow : GoodIn wsX7_against wsX7_layRow := goodIn_r _ [17, 10, 2, 69, 70, 71, 72, 73, 74, 75, 76, 77, 78, 79, 80, 81, 82, 83, 84, 85, 86, 87, 88, 89, 90, 91, 92, 93, 94, 95, 96, 97, 98, 99, 100, 101, 102, 103, 104, 105, 106, 107, 108] (by decide +kernel) (by decide +kernel)
set_option maxRecDepth 20000 in
theorem gX7_against_X7_layRow : GoodIn wsX7_against (wsV RX7 226 RX7 yX7_layRow wsX7_layRow) := goodIn_app (goodIn_of _ (by decide +kernel)) ggX7_against_X7_layRow
set_option maxRecDepth 20000 in
theorem ggX7_against_X7_layGain : GoodIn wsX7_against wsX7_layGain := goodIn_r _ [21, 10, 22, 23, 24, 25, 26, 27, 28, 8, 29, 30, 31, 32, 33, 34, 35, 36, 37, 38, 39, 40, 41, 42, 43, 44, 45, 46, 47, 48, 49, 50, 51, 52, 53, 54, 55, 56, 57, 58, 59, 3, 4, 60, 61, 62, 69, 70, 71, 72, 73, 74, 75, 76, 77, 78, 79, 80, 81, 82, 83, 84, 85, 86, 87, 88, 89, 90, 91, 92, 93, 94, 95, 96, 97, 98, 99, 100, 101, 102, 103, 104, 105, 106, 107, 108] (by decide +kernel) (by decide +kernel)
set_option maxRecDepth 20000 in
theorem gX7_against_X7_layGain : GoodIn wsX7_against (wsV RX7 220 RX7 yX7_layGain wsX7_layGain) := goodIn_app (goodIn_of _ (by decide +kernel)) ggX7_against_X7_layGain
set_option maxRecDepth 20000 in
theorem ggX7_against_X7_compare : GoodIn wsX7_against wsX7_compare := goodIn_r _ [65, 66, 67, 8, 68] (by decide +kernel) (by decide +kernel)
set_option maxRecDepth 20000 in
theorem gX7_against_X7_compare : GoodIn wsX7_against (va_wsS RX7 229 yX7_compare wsX7_compare) := goodIn_app (goodIn_of _ (by decide +kernel)) ggX7_against_X7_compare
theorem dX7_against_0 : decode cX7_against 0 = .ok (.iload_n 1, 1) := by decide +kernel
theorem dX7_against_1 : decode cX7_against 1 = .ok (.iconst 0, 1) := by decide +kernel
theorem dX7_against_2 : decode cX7_against 2 = .ok (.aload_n 0, 1) := by decide +kernel
theorem dX7_against_3 : decode cX7_against 3 = .ok (.invokevirtual 223, 3) := by decide +kernel
theorem dX7_against_6 : decode cX7_against 6 = .ok (.iconst 1, 1) := by decide +kernel
theorem dX7_against_7 : decode cX7_against 7 = .ok (.isub, 1) := by decide +kernel
theorem dX7_against_8 : decode cX7_against 8 = .ok (.invokestatic 94, 3) := by decide +kernel
theorem dX7_against_11 : decode cX7_against 11 = .ok (.ifCond .eq 17, 3) := by decide +kernel
theorem dX7_against_14 : decode cX7_against 14 = .ok (.iload_n 2, 1) := by decide +kernel
theorem dX7_against_15 : decode cX7_against 15 = .ok (.iconst 0, 1) := by decide +kernel
theorem dX7_against_16 : decode cX7_against 16 = .ok (.aload_n 0, 1) := by decide +kernel
theorem dX7_against_17 : decode cX7_against 17 = .ok (.invokevirtual 223, 3) := by decide +kernel
theorem dX7_against_20 : decode cX7_against 20 = .ok (.iconst 1, 1) := by decide +kernel
theorem dX7_against_21 : decode cX7_against 21 = .ok (.isub, 1) := by decide +kernel
theorem dX7_against_22 : decode cX7_against 22 = .ok (.invokestatic 94, 3) := by decide +kernel
theorem dX7_against_25 : decode cX7_against 25 = .ok (.ifCond .ne 6, 3) := by decide +kernel
theorem dX7_against_28 : decode cX7_against 28 = .ok (.bipush (-2), 2) := by decide +kernel
theorem dX7_against_30 : decode cX7_against 30 = .ok (.ireturn, 1) := by decide +kernel
theorem dX7_against_31 : decode cX7_against 31 = .ok (.aload_n 0, 1) := by decide +kernel
theorem dX7_against_32 : decode cX7_against 32 = .ok (.getfield 142, 3) := by decide +kernel
theorem dX7_against_35 : decode cX7_against 35 = .ok (.ifCond .ne 6, 3) := by decide +kernel
theorem dX7_against_38 : decode cX7_against 38 = .ok (.bipush (-3), 2) := by decide +kernel
theorem dX7_against_40 : decode cX7_against 40 = .ok (.ireturn, 1) := by decide +kernel
theorem dX7_against_41 : decode cX7_against 41 = .ok (.aload_n 0, 1) := by decide +kernel
theorem dX7_against_42 : decode cX7_against 42 = .ok (.iload_n 1, 1) := by decide +kernel
theorem dX7_against_43 : decode cX7_against 43 = .ok (.invokevirtual 226, 3) := by decide +kernel
theorem dX7_against_46 : decode cX7_against 46 = .ok (.aload_n 0, 1) := by decide +kernel
theorem dX7_against_47 : decode cX7_against 47 = .ok (.aload_n 0, 1) := by decide +kernel
theorem dX7_against_48 : decode cX7_against 48 = .ok (.getfield 53, 3) := by decide +kernel
theorem dX7_against_51 : decode cX7_against 51 = .ok (.invokevirtual 220, 3) := by decide +kernel
theorem dX7_against_54 : decode cX7_against 54 = .ok (.aload_n 0, 1) := by decide +kernel
theorem dX7_against_55 : decode cX7_against 55 = .ok (.getfield 84, 3) := by decide +kernel
theorem dX7_against_58 : decode cX7_against 58 = .ok (.lstore_n 3, 1) := by decide +kernel
theorem dX7_against_59 : decode cX7_against 59 = .ok (.aload_n 0, 1) := by decide +kernel
theorem dX7_against_60 : decode cX7_against 60 = .ok (.getfield 88, 3) := by decide +kernel
theorem dX7_against_63 : decode cX7_against 63 = .ok (.lstore 5, 2) := by decide +kernel
theorem dX7_against_65 : decode cX7_against 65 = .ok (.aload_n 0, 1) := by decide +kernel
theorem dX7_against_66 : decode cX7_against 66 = .ok (.iload_n 2, 1) := by decide +kernel
theorem dX7_against_67 : decode cX7_against 67 = .ok (.invokevirtual 226, 3) := by decide +kernel
theorem dX7_against_70 : decode cX7_against 70 = .ok (.aload_n 0, 1) := by decide +kernel
theorem dX7_against_71 : decode cX7_against 71 = .ok (.aload_n 0, 1) := by decide +kernel
theorem dX7_against_72 : decode cX7_against 72 = .ok (.getfield 53, 3) := by decide +kernel
theorem dX7_against_75 : decode cX7_against 75 = .ok (.invokevirtual 220, 3) := by decide +kernel
theorem dX7_against_78 : decode cX7_against 78 = .ok (.lload_n 3, 1) := by decide +kernel
theorem dX7_against_79 : decode cX7_against 79 = .ok (.lload 5, 2) := by decide +kernel
theorem dX7_against_81 : decode cX7_against 81 = .ok (.aload_n 0, 1) := by decide +kernel
theorem dX7_against_82 : decode cX7_against 82 = .ok (.getfield 84, 3) := by decide +kernel
theorem dX7_against_85 : decode cX7_against 85 = .ok (.aload_n 0, 1) := by decide +kernel
theorem dX7_against_86 : decode cX7_against 86 = .ok (.getfield 88, 3) := by decide +kernel
theorem dX7_against_89 : decode cX7_against 89 = .ok (.invokestatic 229, 3) := by decide +kernel
theorem dX7_against_92 : decode cX7_against 92 = .ok (.ireturn, 1) := by decide +kernel
set_option maxRecDepth 20000 in
theorem ggX7_mends_X7_within : GoodIn wsX7_mends wsX7_within := goodIn_r _ [7] (by decide +kernel) (by decide +kernel)
set_option maxRecDepth 20000 in
theorem gX7_mends_X7_within : GoodIn wsX7_mends (va_wsS RX7 94 yX7_within wsX7_within) := goodIn_app (goodIn_of _ (by decide +kernel)) ggX7_mends_X7_within
set_option maxRecDepth 20000 in
theorem ggX7_mends_X7_findBest : GoodIn wsX7_mends wsX7_findBest := goodIn_r _ [11, 12, 13, 14, 2, 3, 15, 16, 17, 6, 18, 19, 20, 21, 22, 23, 24, 25, 26, 27, 28, 29, 30, 31, 32, 33, 34, 35, 36, 37, 38, 39, 40, 41, 42, 43, 44, 45, 46, 47, 48, 49, 50, 51, 52, 53, 54, 55, 56, 57, 58, 59, 60, 61, 62, 63, 64, 65, 66, 67, 68, 69, 70, 71, 72, 73, 82, 83, 84, 85, 86, 87, 88, 89, 90, 91, 92, 93, 94, 95, 96, 97, 98, 99, 100, 101, 102, 103, 104, 105, 106, 107, 108, 109, 110, 111, 112, 113, 114, 115, 116, 117, 118, 119, 120, 121] (by decide +kernel) (by decide +kernel)
set_option maxRecDepth 20000 in
theorem gX7_mends_X7_findBest : GoodIn wsX7_mends (wsV RX7 233 RX7 yX7_findBest wsX7_findBest) := goodIn_app (goodIn_of _ (by decide +kernel)) ggX7_mends_X7_findBest
set_option maxRecDepth 20000 in
theorem ggX7_mends_X7_hisBar : GoodIn wsX7_mends wsX7_hisBar := goodIn_r _ [77, 28, 30, 37, 78, 79, 80, 6, 81, 82, 83, 84, 85, 86, 87, 88, 89, 90, 91, 92, 93, 94, 95, 96, 97, 98, 99, 100, 101, 102, 103, 104, 105, 106, 107, 108, 109, 110, 111, 112, 113, 114, 115, 116, 117, 118, 119, 120, 121] (by decide +kernel) (by decide +kernel)
set_option maxRecDepth 20000 in
theorem gX7_mends_X7_hisBar : GoodIn wsX7_mends (wsV RX7 180 RX7 yX7_hisBar wsX7_hisBar) := goodIn_app (goodIn_of _ (by decide +kernel)) ggX7_mends_X7_hisBar
theorem dX7_mends_0 : decode cX7_mends 0 = .ok (.iload_n 1, 1) := by decide +kernel
theorem dX7_mends_1 : decode cX7_mends 1 = .ok (.iconst 0, 1) := by decide +kernel
theorem dX7_mends_2 : decode cX7_mends 2 = .ok (.iconst 2, 1) := by decide +kernel
theorem dX7_mends_3 : decode cX7_mends 3 = .ok (.invokestatic 94, 3) := by decide +kernel
theorem dX7_mends_6 : decode cX7_mends 6 = .ok (.ifCond .ne 6, 3) := by decide +kernel
theorem dX7_mends_9 : decode cX7_mends 9 = .ok (.bipush (-2), 2) := by decide +kernel
theorem dX7_mends_11 : decode cX7_mends 11 = .ok (.ireturn, 1) := by decide +kernel
theorem dX7_mends_12 : decode cX7_mends 12 = .ok (.aload_n 0, 1) := by decide +kernel
theorem dX7_mends_13 : decode cX7_mends 13 = .ok (.getfield 142, 3) := by decide +kernel
theorem dX7_mends_16 : decode cX7_mends 16 = .ok (.ifCond .ne 6, 3) := by decide +kernel
theorem dX7_mends_19 : decode cX7_mends 19 = .ok (.bipush (-3), 2) := by decide +kernel
theorem dX7_mends_21 : decode cX7_mends 21 = .ok (.ireturn, 1) := by decide +kernel
theorem dX7_mends_22 : decode cX7_mends 22 = .ok (.aload_n 0, 1) := by decide +kernel
theorem dX7_mends_23 : decode cX7_mends 23 = .ok (.invokevirtual 233, 3) := by decide +kernel
theorem dX7_mends_26 : decode cX7_mends 26 = .ok (.bipush (-9), 2) := by decide +kernel
theorem dX7_mends_28 : decode cX7_mends 28 = .ok (.istore_n 2, 1) := by decide +kernel
theorem dX7_mends_29 : decode cX7_mends 29 = .ok (.bipush (-9), 2) := by decide +kernel
theorem dX7_mends_31 : decode cX7_mends 31 = .ok (.istore_n 3, 1) := by decide +kernel
theorem dX7_mends_32 : decode cX7_mends 32 = .ok (.iconst 0, 1) := by decide +kernel
theorem dX7_mends_33 : decode cX7_mends 33 = .ok (.istore 4, 2) := by decide +kernel
theorem dX7_mends_35 : decode cX7_mends 35 = .ok (.iconst 0, 1) := by decide +kernel
theorem dX7_mends_36 : decode cX7_mends 36 = .ok (.istore 5, 2) := by decide +kernel
theorem dX7_mends_38 : decode cX7_mends 38 = .ok (.iload 5, 2) := by decide +kernel
theorem dX7_mends_40 : decode cX7_mends 40 = .ok (.sipush 1000, 3) := by decide +kernel
theorem dX7_mends_43 : decode cX7_mends 43 = .ok (.if_icmp .ge 84, 3) := by decide +kernel
theorem dX7_mends_46 : decode cX7_mends 46 = .ok (.iconst 1, 1) := by decide +kernel
theorem dX7_mends_47 : decode cX7_mends 47 = .ok (.istore 6, 2) := by decide +kernel
theorem dX7_mends_49 : decode cX7_mends 49 = .ok (.iconst 0, 1) := by decide +kernel
theorem dX7_mends_50 : decode cX7_mends 50 = .ok (.istore 7, 2) := by decide +kernel
theorem dX7_mends_52 : decode cX7_mends 52 = .ok (.iload 7, 2) := by decide +kernel
theorem dX7_mends_54 : decode cX7_mends 54 = .ok (.aload_n 0, 1) := by decide +kernel
theorem dX7_mends_55 : decode cX7_mends 55 = .ok (.getfield 152, 3) := by decide +kernel
theorem dX7_mends_58 : decode cX7_mends 58 = .ok (.if_icmp .ge 39, 3) := by decide +kernel
theorem dX7_mends_61 : decode cX7_mends 61 = .ok (.iload 6, 2) := by decide +kernel
theorem dX7_mends_63 : decode cX7_mends 63 = .ok (.aload_n 0, 1) := by decide +kernel
theorem dX7_mends_64 : decode cX7_mends 64 = .ok (.iload 7, 2) := by decide +kernel
theorem dX7_mends_66 : decode cX7_mends 66 = .ok (.iload 5, 2) := by decide +kernel
theorem dX7_mends_68 : decode cX7_mends 68 = .ok (.iconst 0, 1) := by decide +kernel
theorem dX7_mends_69 : decode cX7_mends 69 = .ok (.iconst 0, 1) := by decide +kernel
theorem dX7_mends_70 : decode cX7_mends 70 = .ok (.invokevirtual 180, 3) := by decide +kernel
theorem dX7_mends_73 : decode cX7_mends 73 = .ok (.aload_n 0, 1) := by decide +kernel
theorem dX7_mends_74 : decode cX7_mends 74 = .ok (.getfield 56, 3) := by decide +kernel
theorem dX7_mends_77 : decode cX7_mends 77 = .ok (.iload 7, 2) := by decide +kernel
theorem dX7_mends_79 : decode cX7_mends 79 = .ok (.iaload, 1) := by decide +kernel
theorem dX7_mends_80 : decode cX7_mends 80 = .ok (.if_icmp .ne 7, 3) := by decide +kernel
theorem dX7_mends_83 : decode cX7_mends 83 = .ok (.iconst 1, 1) := by decide +kernel
theorem dX7_mends_84 : decode cX7_mends 84 = .ok (.goto 4, 3) := by decide +kernel
theorem dX7_mends_87 : decode cX7_mends 87 = .ok (.iconst 0, 1) := by decide +kernel
theorem dX7_mends_88 : decode cX7_mends 88 = .ok (.iand, 1) := by decide +kernel
theorem dX7_mends_89 : decode cX7_mends 89 = .ok (.istore 6, 2) := by decide +kernel
theorem dX7_mends_91 : decode cX7_mends 91 = .ok (.iinc 7 1, 3) := by decide +kernel
theorem dX7_mends_94 : decode cX7_mends 94 = .ok (.goto (-42), 3) := by decide +kernel
theorem dX7_mends_97 : decode cX7_mends 97 = .ok (.iload 6, 2) := by decide +kernel
theorem dX7_mends_99 : decode cX7_mends 99 = .ok (.ifCond .eq 22, 3) := by decide +kernel
theorem dX7_mends_102 : decode cX7_mends 102 = .ok (.iload_n 2, 1) := by decide +kernel
theorem dX7_mends_103 : decode cX7_mends 103 = .ok (.bipush (-9), 2) := by decide +kernel
theorem dX7_mends_105 : decode cX7_mends 105 = .ok (.if_icmp .ne 8, 3) := by decide +kernel
theorem dX7_mends_108 : decode cX7_mends 108 = .ok (.iload 5, 2) := by decide +kernel
theorem dX7_mends_110 : decode cX7_mends 110 = .ok (.goto 4, 3) := by decide +kernel
theorem dX7_mends_113 : decode cX7_mends 113 = .ok (.iload_n 2, 1) := by decide +kernel
theorem dX7_mends_114 : decode cX7_mends 114 = .ok (.istore_n 2, 1) := by decide +kernel
theorem dX7_mends_115 : decode cX7_mends 115 = .ok (.iload 5, 2) := by decide +kernel
theorem dX7_mends_117 : decode cX7_mends 117 = .ok (.istore_n 3, 1) := by decide +kernel
theorem dX7_mends_118 : decode cX7_mends 118 = .ok (.iinc 4 1, 3) := by decide +kernel
theorem dX7_mends_121 : decode cX7_mends 121 = .ok (.iinc 5 1, 3) := by decide +kernel
theorem dX7_mends_124 : decode cX7_mends 124 = .ok (.goto (-86), 3) := by decide +kernel
theorem dX7_mends_127 : decode cX7_mends 127 = .ok (.iload_n 1, 1) := by decide +kernel
theorem dX7_mends_128 : decode cX7_mends 128 = .ok (.ifCond .ne 7, 3) := by decide +kernel
theorem dX7_mends_131 : decode cX7_mends 131 = .ok (.iload_n 2, 1) := by decide +kernel
theorem dX7_mends_132 : decode cX7_mends 132 = .ok (.goto 14, 3) := by decide +kernel
theorem dX7_mends_135 : decode cX7_mends 135 = .ok (.iload_n 1, 1) := by decide +kernel
theorem dX7_mends_136 : decode cX7_mends 136 = .ok (.iconst 1, 1) := by decide +kernel
theorem dX7_mends_137 : decode cX7_mends 137 = .ok (.if_icmp .ne 7, 3) := by decide +kernel
theorem dX7_mends_140 : decode cX7_mends 140 = .ok (.iload_n 3, 1) := by decide +kernel
theorem dX7_mends_141 : decode cX7_mends 141 = .ok (.goto 5, 3) := by decide +kernel
theorem dX7_mends_144 : decode cX7_mends 144 = .ok (.iload 4, 2) := by decide +kernel
theorem dX7_mends_146 : decode cX7_mends 146 = .ok (.ireturn, 1) := by decide +kernel
set_option maxRecDepth 20000 in
theorem ggX7_layBlind_X7_layWeights : GoodIn wsX7_layBlind wsX7_layWeights := goodIn_r _ [11, 12, 2, 5, 13, 14, 15, 16, 17, 18, 19, 20, 21, 22, 23, 24, 25, 26, 27, 28, 29, 30, 31, 32, 33, 34, 35, 36, 37, 38, 39, 40, 41, 42, 43, 44, 45, 46, 47, 48, 49, 50, 51, 52] (by decide +kernel) (by decide +kernel)
set_option maxRecDepth 20000 in
theorem gX7_layBlind_X7_layWeights : GoodIn wsX7_layBlind (wsV RX7 190 RX7 yX7_layWeights wsX7_layWeights) := goodIn_app (goodIn_of _ (by decide +kernel)) ggX7_layBlind_X7_layWeights
theorem dX7_layBlind_0 : decode cX7_layBlind 0 = .ok (.aload_n 0, 1) := by decide +kernel
theorem dX7_layBlind_1 : decode cX7_layBlind 1 = .ok (.getfield 19, 3) := by decide +kernel
theorem dX7_layBlind_4 : decode cX7_layBlind 4 = .ok (.iconst 0, 1) := by decide +kernel
theorem dX7_layBlind_5 : decode cX7_layBlind 5 = .ok (.iaload, 1) := by decide +kernel
theorem dX7_layBlind_6 : decode cX7_layBlind 6 = .ok (.i2l, 1) := by decide +kernel
theorem dX7_layBlind_7 : decode cX7_layBlind 7 = .ok (.iload_n 1, 1) := by decide +kernel
theorem dX7_layBlind_8 : decode cX7_layBlind 8 = .ok (.i2l, 1) := by decide +kernel
theorem dX7_layBlind_9 : decode cX7_layBlind 9 = .ok (.lmul, 1) := by decide +kernel
theorem dX7_layBlind_10 : decode cX7_layBlind 10 = .ok (.lstore_n 2, 1) := by decide +kernel
theorem dX7_layBlind_11 : decode cX7_layBlind 11 = .ok (.iconst 0, 1) := by decide +kernel
theorem dX7_layBlind_12 : decode cX7_layBlind 12 = .ok (.istore 4, 2) := by decide +kernel
theorem dX7_layBlind_14 : decode cX7_layBlind 14 = .ok (.iload 4, 2) := by decide +kernel
theorem dX7_layBlind_16 : decode cX7_layBlind 16 = .ok (.iconst 4, 1) := by decide +kernel
theorem dX7_layBlind_17 : decode cX7_layBlind 17 = .ok (.if_icmp .gt 75, 3) := by decide +kernel
theorem dX7_layBlind_20 : decode cX7_layBlind 20 = .ok (.aload_n 0, 1) := by decide +kernel
theorem dX7_layBlind_21 : decode cX7_layBlind 21 = .ok (.getfield 37, 3) := by decide +kernel
theorem dX7_layBlind_24 : decode cX7_layBlind 24 = .ok (.iload 4, 2) := by decide +kernel
theorem dX7_layBlind_26 : decode cX7_layBlind 26 = .ok (.iload 4, 2) := by decide +kernel
theorem dX7_layBlind_28 : decode cX7_layBlind 28 = .ok (.iconst 4, 1) := by decide +kernel
theorem dX7_layBlind_29 : decode cX7_layBlind 29 = .ok (.if_icmp .ne 7, 3) := by decide +kernel
theorem dX7_layBlind_32 : decode cX7_layBlind 32 = .ok (.lconst 0, 1) := by decide +kernel
theorem dX7_layBlind_33 : decode cX7_layBlind 33 = .ok (.goto 25, 3) := by decide +kernel
theorem dX7_layBlind_36 : decode cX7_layBlind 36 = .ok (.iload 4, 2) := by decide +kernel
theorem dX7_layBlind_38 : decode cX7_layBlind 38 = .ok (.ifCond .ne 9, 3) := by decide +kernel
theorem dX7_layBlind_41 : decode cX7_layBlind 41 = .ok (.ldc2_w 188, 3) := by decide +kernel
theorem dX7_layBlind_44 : decode cX7_layBlind 44 = .ok (.goto 12, 3) := by decide +kernel
theorem dX7_layBlind_47 : decode cX7_layBlind 47 = .ok (.ldc2_w 188, 3) := by decide +kernel
theorem dX7_layBlind_50 : decode cX7_layBlind 50 = .ok (.aload_n 0, 1) := by decide +kernel
theorem dX7_layBlind_51 : decode cX7_layBlind 51 = .ok (.getfield 146, 3) := by decide +kernel
theorem dX7_layBlind_54 : decode cX7_layBlind 54 = .ok (.i2l, 1) := by decide +kernel
theorem dX7_layBlind_55 : decode cX7_layBlind 55 = .ok (.lsub, 1) := by decide +kernel
theorem dX7_layBlind_56 : decode cX7_layBlind 56 = .ok (.lload_n 2, 1) := by decide +kernel
theorem dX7_layBlind_57 : decode cX7_layBlind 57 = .ok (.lmul, 1) := by decide +kernel
theorem dX7_layBlind_58 : decode cX7_layBlind 58 = .ok (.lastore, 1) := by decide +kernel
theorem dX7_layBlind_59 : decode cX7_layBlind 59 = .ok (.aload_n 0, 1) := by decide +kernel
theorem dX7_layBlind_60 : decode cX7_layBlind 60 = .ok (.getfield 41, 3) := by decide +kernel
theorem dX7_layBlind_63 : decode cX7_layBlind 63 = .ok (.iload 4, 2) := by decide +kernel
theorem dX7_layBlind_65 : decode cX7_layBlind 65 = .ok (.iload 4, 2) := by decide +kernel
theorem dX7_layBlind_67 : decode cX7_layBlind 67 = .ok (.ifCond .ne 7, 3) := by decide +kernel
theorem dX7_layBlind_70 : decode cX7_layBlind 70 = .ok (.lconst 0, 1) := by decide +kernel
theorem dX7_layBlind_71 : decode cX7_layBlind 71 = .ok (.goto 14, 3) := by decide +kernel
theorem dX7_layBlind_74 : decode cX7_layBlind 74 = .ok (.aload_n 0, 1) := by decide +kernel
theorem dX7_layBlind_75 : decode cX7_layBlind 75 = .ok (.getfield 146, 3) := by decide +kernel
theorem dX7_layBlind_78 : decode cX7_layBlind 78 = .ok (.i2l, 1) := by decide +kernel
theorem dX7_layBlind_79 : decode cX7_layBlind 79 = .ok (.ldc2_w 218, 3) := by decide +kernel
theorem dX7_layBlind_82 : decode cX7_layBlind 82 = .ok (.lload_n 2, 1) := by decide +kernel
theorem dX7_layBlind_83 : decode cX7_layBlind 83 = .ok (.lsub, 1) := by decide +kernel
theorem dX7_layBlind_84 : decode cX7_layBlind 84 = .ok (.lmul, 1) := by decide +kernel
theorem dX7_layBlind_85 : decode cX7_layBlind 85 = .ok (.lastore, 1) := by decide +kernel
theorem dX7_layBlind_86 : decode cX7_layBlind 86 = .ok (.iinc 4 1, 3) := by decide +kernel
theorem dX7_layBlind_89 : decode cX7_layBlind 89 = .ok (.goto (-75), 3) := by decide +kernel
theorem dX7_layBlind_92 : decode cX7_layBlind 92 = .ok (.aload_n 0, 1) := by decide +kernel
theorem dX7_layBlind_93 : decode cX7_layBlind 93 = .ok (.iconst 4, 1) := by decide +kernel
theorem dX7_layBlind_94 : decode cX7_layBlind 94 = .ok (.invokevirtual 190, 3) := by decide +kernel
theorem dX7_layBlind_97 : decode cX7_layBlind 97 = .ok (.return_, 1) := by decide +kernel
set_option maxRecDepth 20000 in
theorem ggX7_blind_X7_within : GoodIn wsX7_blind wsX7_within := goodIn_r _ [8] (by decide +kernel) (by decide +kernel)
set_option maxRecDepth 20000 in
theorem gX7_blind_X7_within : GoodIn wsX7_blind (va_wsS RX7 94 yX7_within wsX7_within) := goodIn_app (goodIn_of _ (by decide +kernel)) ggX7_blind_X7_within
set_option maxRecDepth 20000 in
theorem ggX7_blind_X7_isWhich : GoodIn wsX7_blind wsX7_isWhich := goodIn_r _ [11] (by decide +kernel) (by decide +kernel)
set_option maxRecDepth 20000 in
theorem gX7_blind_X7_isWhich : GoodIn wsX7_blind (va_wsS RX7 194 yX7_isWhich wsX7_isWhich) := goodIn_app (goodIn_of _ (by decide +kernel)) ggX7_blind_X7_isWhich
set_option maxRecDepth 20000 in
theorem ggX7_blind_X7_layBlind : GoodIn wsX7_blind wsX7_layBlind := goodIn_r _ [15, 16, 17, 18, 19, 20, 21, 22, 23, 24, 7, 25, 4, 43, 44, 45, 46, 47, 48, 49, 50, 51, 52, 53, 54, 55, 56, 57, 58, 59, 60, 61, 62, 63, 64, 65, 66, 67, 68, 69, 70, 71, 72, 73, 74, 75, 76, 77, 78, 79, 80, 81, 82] (by decide +kernel) (by decide +kernel)
set_option maxRecDepth 20000 in
theorem gX7_blind_X7_layBlind : GoodIn wsX7_blind (wsV RX7 236 RX7 yX7_layBlind wsX7_layBlind) := goodIn_app (goodIn_of _ (by decide +kernel)) ggX7_blind_X7_layBlind
set_option maxRecDepth 20000 in
theorem ggX7_blind_X7_allWeights : GoodIn wsX7_blind wsX7_allWeights := goodIn_r _ [29, 4, 43, 44, 45, 46, 47, 48, 49, 50, 51, 52, 53, 54, 55, 56, 57, 58, 59, 60, 61, 62, 63, 64, 65, 66, 67, 68, 69, 70, 71, 72, 73, 74, 75, 76, 77, 78, 79, 80, 81, 82] (by decide +kernel) (by decide +kernel)
set_option maxRecDepth 20000 in
theorem gX7_blind_X7_allWeights : GoodIn wsX7_blind (wsV RX7 200 RX7 yX7_allWeights wsX7_allWeights) := goodIn_app (goodIn_of _ (by decide +kernel)) ggX7_blind_X7_allWeights
set_option maxRecDepth 20000 in
theorem ggX7_blind_X7_share : GoodIn wsX7_blind wsX7_share := goodIn_r _ [33, 34, 35, 36, 37, 7, 38, 43, 44, 45, 46, 47, 48, 49, 50, 51, 52, 53, 54, 55, 56, 57, 58, 59, 60, 61, 62, 63, 64, 65, 66, 67, 68, 69, 70, 71, 72, 73, 74, 75, 76, 77, 78, 79, 80, 81, 82] (by decide +kernel) (by decide +kernel)
set_option maxRecDepth 20000 in
theorem gX7_blind_X7_share : GoodIn wsX7_blind (wsV RX7 204 RX7 yX7_share wsX7_share) := goodIn_app (goodIn_of _ (by decide +kernel)) ggX7_blind_X7_share
set_option maxRecDepth 20000 in
theorem ggX7_blind_X7_told : GoodIn wsX7_blind wsX7_told := goodIn_r _ [42, 34, 35, 43, 44, 45, 46, 47, 48, 49, 50, 51, 52, 53, 54, 55, 56, 57, 58, 59, 60, 61, 62, 63, 64, 65, 66, 67, 68, 69, 70, 71, 72, 73, 74, 75, 76, 77, 78, 79, 80, 81, 82] (by decide +kernel) (by decide +kernel)
set_option maxRecDepth 20000 in
theorem gX7_blind_X7_told : GoodIn wsX7_blind (wsV RX7 208 RX7 yX7_told wsX7_told) := goodIn_app (goodIn_of _ (by decide +kernel)) ggX7_blind_X7_told
theorem dX7_blind_0 : decode cX7_blind 0 = .ok (.iload_n 1, 1) := by decide +kernel
theorem dX7_blind_1 : decode cX7_blind 1 = .ok (.iconst 0, 1) := by decide +kernel
theorem dX7_blind_2 : decode cX7_blind 2 = .ok (.bipush 12, 2) := by decide +kernel
theorem dX7_blind_4 : decode cX7_blind 4 = .ok (.invokestatic 94, 3) := by decide +kernel
theorem dX7_blind_7 : decode cX7_blind 7 = .ok (.ifCond .eq 34, 3) := by decide +kernel
theorem dX7_blind_10 : decode cX7_blind 10 = .ok (.iload_n 2, 1) := by decide +kernel
theorem dX7_blind_11 : decode cX7_blind 11 = .ok (.iconst 0, 1) := by decide +kernel
theorem dX7_blind_12 : decode cX7_blind 12 = .ok (.iconst 4, 1) := by decide +kernel
theorem dX7_blind_13 : decode cX7_blind 13 = .ok (.invokestatic 94, 3) := by decide +kernel
theorem dX7_blind_16 : decode cX7_blind 16 = .ok (.ifCond .eq 25, 3) := by decide +kernel
theorem dX7_blind_19 : decode cX7_blind 19 = .ok (.iload_n 3, 1) := by decide +kernel
theorem dX7_blind_20 : decode cX7_blind 20 = .ok (.invokestatic 194, 3) := by decide +kernel
theorem dX7_blind_23 : decode cX7_blind 23 = .ok (.ifCond .eq 18, 3) := by decide +kernel
theorem dX7_blind_26 : decode cX7_blind 26 = .ok (.aload_n 0, 1) := by decide +kernel
theorem dX7_blind_27 : decode cX7_blind 27 = .ok (.getfield 142, 3) := by decide +kernel
theorem dX7_blind_30 : decode cX7_blind 30 = .ok (.ifCond .eq 11, 3) := by decide +kernel
theorem dX7_blind_33 : decode cX7_blind 33 = .ok (.aload_n 0, 1) := by decide +kernel
theorem dX7_blind_34 : decode cX7_blind 34 = .ok (.getfield 152, 3) := by decide +kernel
theorem dX7_blind_37 : decode cX7_blind 37 = .ok (.iconst 1, 1) := by decide +kernel
theorem dX7_blind_38 : decode cX7_blind 38 = .ok (.if_icmp .eq 7, 3) := by decide +kernel
theorem dX7_blind_41 : decode cX7_blind 41 = .ok (.ldc2_w 78, 3) := by decide +kernel
theorem dX7_blind_44 : decode cX7_blind 44 = .ok (.lreturn, 1) := by decide +kernel
theorem dX7_blind_45 : decode cX7_blind 45 = .ok (.aload_n 0, 1) := by decide +kernel
theorem dX7_blind_46 : decode cX7_blind 46 = .ok (.iload_n 1, 1) := by decide +kernel
theorem dX7_blind_47 : decode cX7_blind 47 = .ok (.invokevirtual 236, 3) := by decide +kernel
theorem dX7_blind_50 : decode cX7_blind 50 = .ok (.aload_n 0, 1) := by decide +kernel
theorem dX7_blind_51 : decode cX7_blind 51 = .ok (.aload_n 0, 1) := by decide +kernel
theorem dX7_blind_52 : decode cX7_blind 52 = .ok (.getfield 44, 3) := by decide +kernel
theorem dX7_blind_55 : decode cX7_blind 55 = .ok (.iload_n 2, 1) := by decide +kernel
theorem dX7_blind_56 : decode cX7_blind 56 = .ok (.laload, 1) := by decide +kernel
theorem dX7_blind_57 : decode cX7_blind 57 = .ok (.aload_n 0, 1) := by decide +kernel
theorem dX7_blind_58 : decode cX7_blind 58 = .ok (.invokevirtual 200, 3) := by decide +kernel
theorem dX7_blind_61 : decode cX7_blind 61 = .ok (.invokevirtual 204, 3) := by decide +kernel
theorem dX7_blind_64 : decode cX7_blind 64 = .ok (.aload_n 0, 1) := by decide +kernel
theorem dX7_blind_65 : decode cX7_blind 65 = .ok (.iload_n 3, 1) := by decide +kernel
theorem dX7_blind_66 : decode cX7_blind 66 = .ok (.invokevirtual 208, 3) := by decide +kernel
theorem dX7_blind_69 : decode cX7_blind 69 = .ok (.lreturn, 1) := by decide +kernel
set_option maxRecDepth 20000 in
theorem ggX7_rest_X7_layBlind : GoodIn wsX7_rest wsX7_layBlind := goodIn_r _ [11, 12, 13, 4, 6, 14, 15, 16, 17, 18, 10, 19, 20, 31, 32, 33, 34, 35, 36, 37, 38, 39, 40, 41, 42, 43, 44, 45, 46, 47, 48, 49, 50, 51, 52, 53, 54, 55, 56, 57, 58, 59, 60, 61, 62, 63, 64, 65, 66, 67, 68, 69, 70] (by decide +kernel) (by decide +kernel)
set_option maxRecDepth 20000 in
theorem gX7_rest_X7_layBlind : GoodIn wsX7_rest (wsV RX7 236 RX7 yX7_layBlind wsX7_layBlind) := goodIn_app (goodIn_of _ (by decide +kernel)) ggX7_rest_X7_layBlind
set_option maxRecDepth 20000 in
theorem ggX7_rest_X7_metAt : GoodIn wsX7_rest wsX7_metAt := goodIn_r _ [24, 20, 6, 31, 32, 33, 34, 35, 36, 37, 38, 39, 40, 41, 42, 43, 44, 45, 46, 47, 48, 49, 50, 51, 52, 53, 54, 55, 56, 57, 58, 59, 60, 61, 62, 63, 64, 65, 66, 67, 68, 69, 70] (by decide +kernel) (by decide +kernel)
set_option maxRecDepth 20000 in
theorem gX7_rest_X7_metAt : GoodIn wsX7_rest (wsV RX7 215 RX7 yX7_metAt wsX7_metAt) := goodIn_app (goodIn_of _ (by decide +kernel)) ggX7_rest_X7_metAt
set_option maxRecDepth 20000 in
theorem ggX7_rest_X7_compare : GoodIn wsX7_rest wsX7_compare := goodIn_r _ [27, 28, 29, 10, 30] (by decide +kernel) (by decide +kernel)
set_option maxRecDepth 20000 in
theorem gX7_rest_X7_compare : GoodIn wsX7_rest (va_wsS RX7 229 yX7_compare wsX7_compare) := goodIn_app (goodIn_of _ (by decide +kernel)) ggX7_rest_X7_compare
theorem dX7_rest_0 : decode cX7_rest 0 = .ok (.aload_n 0, 1) := by decide +kernel
theorem dX7_rest_1 : decode cX7_rest 1 = .ok (.getfield 142, 3) := by decide +kernel
theorem dX7_rest_4 : decode cX7_rest 4 = .ok (.ifCond .eq 11, 3) := by decide +kernel
theorem dX7_rest_7 : decode cX7_rest 7 = .ok (.aload_n 0, 1) := by decide +kernel
theorem dX7_rest_8 : decode cX7_rest 8 = .ok (.getfield 152, 3) := by decide +kernel
theorem dX7_rest_11 : decode cX7_rest 11 = .ok (.iconst 1, 1) := by decide +kernel
theorem dX7_rest_12 : decode cX7_rest 12 = .ok (.if_icmp .eq 6, 3) := by decide +kernel
theorem dX7_rest_15 : decode cX7_rest 15 = .ok (.bipush (-3), 2) := by decide +kernel
theorem dX7_rest_17 : decode cX7_rest 17 = .ok (.ireturn, 1) := by decide +kernel
theorem dX7_rest_18 : decode cX7_rest 18 = .ok (.iconst 0, 1) := by decide +kernel
theorem dX7_rest_19 : decode cX7_rest 19 = .ok (.istore_n 1, 1) := by decide +kernel
theorem dX7_rest_20 : decode cX7_rest 20 = .ok (.iconst 1, 1) := by decide +kernel
theorem dX7_rest_21 : decode cX7_rest 21 = .ok (.istore_n 2, 1) := by decide +kernel
theorem dX7_rest_22 : decode cX7_rest 22 = .ok (.iload_n 2, 1) := by decide +kernel
theorem dX7_rest_23 : decode cX7_rest 23 = .ok (.bipush 12, 2) := by decide +kernel
theorem dX7_rest_25 : decode cX7_rest 25 = .ok (.if_icmp .gt 97, 3) := by decide +kernel
theorem dX7_rest_28 : decode cX7_rest 28 = .ok (.aload_n 0, 1) := by decide +kernel
theorem dX7_rest_29 : decode cX7_rest 29 = .ok (.iload_n 2, 1) := by decide +kernel
theorem dX7_rest_30 : decode cX7_rest 30 = .ok (.invokevirtual 236, 3) := by decide +kernel
theorem dX7_rest_33 : decode cX7_rest 33 = .ok (.lconst 0, 1) := by decide +kernel
theorem dX7_rest_34 : decode cX7_rest 34 = .ok (.lstore_n 3, 1) := by decide +kernel
theorem dX7_rest_35 : decode cX7_rest 35 = .ok (.lconst 0, 1) := by decide +kernel
theorem dX7_rest_36 : decode cX7_rest 36 = .ok (.lstore 5, 2) := by decide +kernel
theorem dX7_rest_38 : decode cX7_rest 38 = .ok (.iconst 0, 1) := by decide +kernel
theorem dX7_rest_39 : decode cX7_rest 39 = .ok (.istore 7, 2) := by decide +kernel
theorem dX7_rest_41 : decode cX7_rest 41 = .ok (.iload 7, 2) := by decide +kernel
theorem dX7_rest_43 : decode cX7_rest 43 = .ok (.iconst 4, 1) := by decide +kernel
theorem dX7_rest_44 : decode cX7_rest 44 = .ok (.if_icmp .ge 35, 3) := by decide +kernel
theorem dX7_rest_47 : decode cX7_rest 47 = .ok (.lload_n 3, 1) := by decide +kernel
theorem dX7_rest_48 : decode cX7_rest 48 = .ok (.aload_n 0, 1) := by decide +kernel
theorem dX7_rest_49 : decode cX7_rest 49 = .ok (.iload 7, 2) := by decide +kernel
theorem dX7_rest_51 : decode cX7_rest 51 = .ok (.invokevirtual 215, 3) := by decide +kernel
theorem dX7_rest_54 : decode cX7_rest 54 = .ok (.ladd, 1) := by decide +kernel
theorem dX7_rest_55 : decode cX7_rest 55 = .ok (.lstore_n 3, 1) := by decide +kernel
theorem dX7_rest_56 : decode cX7_rest 56 = .ok (.lload 5, 2) := by decide +kernel
theorem dX7_rest_58 : decode cX7_rest 58 = .ok (.aload_n 0, 1) := by decide +kernel
theorem dX7_rest_59 : decode cX7_rest 59 = .ok (.iload 7, 2) := by decide +kernel
theorem dX7_rest_61 : decode cX7_rest 61 = .ok (.invokevirtual 215, 3) := by decide +kernel
theorem dX7_rest_64 : decode cX7_rest 64 = .ok (.iload 7, 2) := by decide +kernel
theorem dX7_rest_66 : decode cX7_rest 66 = .ok (.iconst 1, 1) := by decide +kernel
theorem dX7_rest_67 : decode cX7_rest 67 = .ok (.iadd, 1) := by decide +kernel
theorem dX7_rest_68 : decode cX7_rest 68 = .ok (.i2l, 1) := by decide +kernel
theorem dX7_rest_69 : decode cX7_rest 69 = .ok (.lmul, 1) := by decide +kernel
theorem dX7_rest_70 : decode cX7_rest 70 = .ok (.ladd, 1) := by decide +kernel
theorem dX7_rest_71 : decode cX7_rest 71 = .ok (.lstore 5, 2) := by decide +kernel
theorem dX7_rest_73 : decode cX7_rest 73 = .ok (.iinc 7 1, 3) := by decide +kernel
theorem dX7_rest_76 : decode cX7_rest 76 = .ok (.goto (-35), 3) := by decide +kernel
theorem dX7_rest_79 : decode cX7_rest 79 = .ok (.aload_n 0, 1) := by decide +kernel
theorem dX7_rest_80 : decode cX7_rest 80 = .ok (.getfield 22, 3) := by decide +kernel
theorem dX7_rest_83 : decode cX7_rest 83 = .ok (.iconst 0, 1) := by decide +kernel
theorem dX7_rest_84 : decode cX7_rest 84 = .ok (.iaload, 1) := by decide +kernel
theorem dX7_rest_85 : decode cX7_rest 85 = .ok (.i2l, 1) := by decide +kernel
theorem dX7_rest_86 : decode cX7_rest 86 = .ok (.ldc2_w 188, 3) := by decide +kernel
theorem dX7_rest_89 : decode cX7_rest 89 = .ok (.aload_n 0, 1) := by decide +kernel
theorem dX7_rest_90 : decode cX7_rest 90 = .ok (.getfield 149, 3) := by decide +kernel
theorem dX7_rest_93 : decode cX7_rest 93 = .ok (.i2l, 1) := by decide +kernel
theorem dX7_rest_94 : decode cX7_rest 94 = .ok (.lmul, 1) := by decide +kernel
theorem dX7_rest_95 : decode cX7_rest 95 = .ok (.lload 5, 2) := by decide +kernel
theorem dX7_rest_97 : decode cX7_rest 97 = .ok (.lload_n 3, 1) := by decide +kernel
theorem dX7_rest_98 : decode cX7_rest 98 = .ok (.aload_n 0, 1) := by decide +kernel
theorem dX7_rest_99 : decode cX7_rest 99 = .ok (.getfield 146, 3) := by decide +kernel
theorem dX7_rest_102 : decode cX7_rest 102 = .ok (.i2l, 1) := by decide +kernel
theorem dX7_rest_103 : decode cX7_rest 103 = .ok (.lmul, 1) := by decide +kernel
theorem dX7_rest_104 : decode cX7_rest 104 = .ok (.invokestatic 229, 3) := by decide +kernel
theorem dX7_rest_107 : decode cX7_rest 107 = .ok (.ifCond .lt 7, 3) := by decide +kernel
theorem dX7_rest_110 : decode cX7_rest 110 = .ok (.iload_n 2, 1) := by decide +kernel
theorem dX7_rest_111 : decode cX7_rest 111 = .ok (.goto 4, 3) := by decide +kernel
theorem dX7_rest_114 : decode cX7_rest 114 = .ok (.iload_n 1, 1) := by decide +kernel
theorem dX7_rest_115 : decode cX7_rest 115 = .ok (.istore_n 1, 1) := by decide +kernel
theorem dX7_rest_116 : decode cX7_rest 116 = .ok (.iinc 2 1, 3) := by decide +kernel
theorem dX7_rest_119 : decode cX7_rest 119 = .ok (.goto (-97), 3) := by decide +kernel
theorem dX7_rest_122 : decode cX7_rest 122 = .ok (.iload_n 1, 1) := by decide +kernel
theorem dX7_rest_123 : decode cX7_rest 123 = .ok (.ireturn, 1) := by decide +kernel
set_option maxRecDepth 20000 in
theorem ggX7_order_X7_within : GoodIn wsX7_order wsX7_within := goodIn_r _ [5] (by decide +kernel) (by decide +kernel)
set_option maxRecDepth 20000 in
theorem gX7_order_X7_within : GoodIn wsX7_order (va_wsS RX7 94 yX7_within wsX7_within) := goodIn_app (goodIn_of _ (by decide +kernel)) ggX7_order_X7_within
theorem dX7_order_0 : decode cX7_order 0 = .ok (.iload_n 1, 1) := by decide +kernel
theorem dX7_order_1 : decode cX7_order 1 = .ok (.iconst 0, 1) := by decide +kernel
theorem dX7_order_2 : decode cX7_order 2 = .ok (.iconst 2, 1) := by decide +kernel
theorem dX7_order_3 : decode cX7_order 3 = .ok (.invokestatic 94, 3) := by decide +kernel
theorem dX7_order_6 : decode cX7_order 6 = .ok (.ifCond .ne 6, 3) := by decide +kernel
theorem dX7_order_9 : decode cX7_order 9 = .ok (.bipush (-2), 2) := by decide +kernel
theorem dX7_order_11 : decode cX7_order 11 = .ok (.ireturn, 1) := by decide +kernel
theorem dX7_order_12 : decode cX7_order 12 = .ok (.aload_n 0, 1) := by decide +kernel
theorem dX7_order_13 : decode cX7_order 13 = .ok (.getfield 239, 3) := by decide +kernel
theorem dX7_order_16 : decode cX7_order 16 = .ok (.istore_n 2, 1) := by decide +kernel
theorem dX7_order_17 : decode cX7_order 17 = .ok (.aload_n 0, 1) := by decide +kernel
theorem dX7_order_18 : decode cX7_order 18 = .ok (.iload_n 1, 1) := by decide +kernel
theorem dX7_order_19 : decode cX7_order 19 = .ok (.putfield 239, 3) := by decide +kernel
theorem dX7_order_22 : decode cX7_order 22 = .ok (.iload_n 2, 1) := by decide +kernel
theorem dX7_order_23 : decode cX7_order 23 = .ok (.ireturn, 1) := by decide +kernel
theorem dX7_standing_0 : decode cX7_standing 0 = .ok (.iconst 0, 1) := by decide +kernel
theorem dX7_standing_1 : decode cX7_standing 1 = .ok (.istore_n 1, 1) := by decide +kernel
theorem dX7_standing_2 : decode cX7_standing 2 = .ok (.iconst 0, 1) := by decide +kernel
theorem dX7_standing_3 : decode cX7_standing 3 = .ok (.istore_n 2, 1) := by decide +kernel
theorem dX7_standing_4 : decode cX7_standing 4 = .ok (.iload_n 2, 1) := by decide +kernel
theorem dX7_standing_5 : decode cX7_standing 5 = .ok (.aload_n 0, 1) := by decide +kernel
theorem dX7_standing_6 : decode cX7_standing 6 = .ok (.getfield 164, 3) := by decide +kernel
theorem dX7_standing_9 : decode cX7_standing 9 = .ok (.if_icmp .ge 27, 3) := by decide +kernel
theorem dX7_standing_12 : decode cX7_standing 12 = .ok (.iload_n 1, 1) := by decide +kernel
theorem dX7_standing_13 : decode cX7_standing 13 = .ok (.aload_n 0, 1) := by decide +kernel
theorem dX7_standing_14 : decode cX7_standing 14 = .ok (.getfield 62, 3) := by decide +kernel
theorem dX7_standing_17 : decode cX7_standing 17 = .ok (.iload_n 2, 1) := by decide +kernel
theorem dX7_standing_18 : decode cX7_standing 18 = .ok (.iaload, 1) := by decide +kernel
theorem dX7_standing_19 : decode cX7_standing 19 = .ok (.iconst 1, 1) := by decide +kernel
theorem dX7_standing_20 : decode cX7_standing 20 = .ok (.if_icmp .ne 7, 3) := by decide +kernel
theorem dX7_standing_23 : decode cX7_standing 23 = .ok (.iconst 1, 1) := by decide +kernel
theorem dX7_standing_24 : decode cX7_standing 24 = .ok (.goto 4, 3) := by decide +kernel
theorem dX7_standing_27 : decode cX7_standing 27 = .ok (.iconst 0, 1) := by decide +kernel
theorem dX7_standing_28 : decode cX7_standing 28 = .ok (.iadd, 1) := by decide +kernel
theorem dX7_standing_29 : decode cX7_standing 29 = .ok (.istore_n 1, 1) := by decide +kernel
theorem dX7_standing_30 : decode cX7_standing 30 = .ok (.iinc 2 1, 3) := by decide +kernel
theorem dX7_standing_33 : decode cX7_standing 33 = .ok (.goto (-29), 3) := by decide +kernel
theorem dX7_standing_36 : decode cX7_standing 36 = .ok (.iload_n 1, 1) := by decide +kernel
theorem dX7_standing_37 : decode cX7_standing 37 = .ok (.ireturn, 1) := by decide +kernel
theorem dX7_nextServed_0 : decode cX7_nextServed 0 = .ok (.bipush (-9), 2) := by decide +kernel
theorem dX7_nextServed_2 : decode cX7_nextServed 2 = .ok (.istore_n 1, 1) := by decide +kernel
theorem dX7_nextServed_3 : decode cX7_nextServed 3 = .ok (.iconst 0, 1) := by decide +kernel
theorem dX7_nextServed_4 : decode cX7_nextServed 4 = .ok (.istore_n 2, 1) := by decide +kernel
theorem dX7_nextServed_5 : decode cX7_nextServed 5 = .ok (.iload_n 2, 1) := by decide +kernel
theorem dX7_nextServed_6 : decode cX7_nextServed 6 = .ok (.aload_n 0, 1) := by decide +kernel
theorem dX7_nextServed_7 : decode cX7_nextServed 7 = .ok (.getfield 164, 3) := by decide +kernel
theorem dX7_nextServed_10 : decode cX7_nextServed 10 = .ok (.if_icmp .ge 85, 3) := by decide +kernel
theorem dX7_nextServed_13 : decode cX7_nextServed 13 = .ok (.aload_n 0, 1) := by decide +kernel
theorem dX7_nextServed_14 : decode cX7_nextServed 14 = .ok (.getfield 62, 3) := by decide +kernel
theorem dX7_nextServed_17 : decode cX7_nextServed 17 = .ok (.iload_n 2, 1) := by decide +kernel
theorem dX7_nextServed_18 : decode cX7_nextServed 18 = .ok (.iaload, 1) := by decide +kernel
theorem dX7_nextServed_19 : decode cX7_nextServed 19 = .ok (.iconst 1, 1) := by decide +kernel
theorem dX7_nextServed_20 : decode cX7_nextServed 20 = .ok (.if_icmp .eq 6, 3) := by decide +kernel
theorem dX7_nextServed_23 : decode cX7_nextServed 23 = .ok (.goto 66, 3) := by decide +kernel
theorem dX7_nextServed_26 : decode cX7_nextServed 26 = .ok (.iload_n 1, 1) := by decide +kernel
theorem dX7_nextServed_27 : decode cX7_nextServed 27 = .ok (.bipush (-9), 2) := by decide +kernel
theorem dX7_nextServed_29 : decode cX7_nextServed 29 = .ok (.if_icmp .eq 44, 3) := by decide +kernel
theorem dX7_nextServed_32 : decode cX7_nextServed 32 = .ok (.aload_n 0, 1) := by decide +kernel
theorem dX7_nextServed_33 : decode cX7_nextServed 33 = .ok (.getfield 239, 3) := by decide +kernel
theorem dX7_nextServed_36 : decode cX7_nextServed 36 = .ok (.iconst 1, 1) := by decide +kernel
theorem dX7_nextServed_37 : decode cX7_nextServed 37 = .ok (.if_icmp .eq 36, 3) := by decide +kernel
theorem dX7_nextServed_40 : decode cX7_nextServed 40 = .ok (.aload_n 0, 1) := by decide +kernel
theorem dX7_nextServed_41 : decode cX7_nextServed 41 = .ok (.getfield 239, 3) := by decide +kernel
theorem dX7_nextServed_44 : decode cX7_nextServed 44 = .ok (.iconst 2, 1) := by decide +kernel
theorem dX7_nextServed_45 : decode cX7_nextServed 45 = .ok (.if_icmp .ne 32, 3) := by decide +kernel
theorem dX7_nextServed_48 : decode cX7_nextServed 48 = .ok (.aload_n 0, 1) := by decide +kernel
theorem dX7_nextServed_49 : decode cX7_nextServed 49 = .ok (.getfield 22, 3) := by decide +kernel
theorem dX7_nextServed_52 : decode cX7_nextServed 52 = .ok (.aload_n 0, 1) := by decide +kernel
theorem dX7_nextServed_53 : decode cX7_nextServed 53 = .ok (.getfield 59, 3) := by decide +kernel
theorem dX7_nextServed_56 : decode cX7_nextServed 56 = .ok (.iload_n 2, 1) := by decide +kernel
theorem dX7_nextServed_57 : decode cX7_nextServed 57 = .ok (.iaload, 1) := by decide +kernel
theorem dX7_nextServed_58 : decode cX7_nextServed 58 = .ok (.iaload, 1) := by decide +kernel
theorem dX7_nextServed_59 : decode cX7_nextServed 59 = .ok (.aload_n 0, 1) := by decide +kernel
theorem dX7_nextServed_60 : decode cX7_nextServed 60 = .ok (.getfield 22, 3) := by decide +kernel
theorem dX7_nextServed_63 : decode cX7_nextServed 63 = .ok (.aload_n 0, 1) := by decide +kernel
theorem dX7_nextServed_64 : decode cX7_nextServed 64 = .ok (.getfield 59, 3) := by decide +kernel
theorem dX7_nextServed_67 : decode cX7_nextServed 67 = .ok (.iload_n 1, 1) := by decide +kernel
theorem dX7_nextServed_68 : decode cX7_nextServed 68 = .ok (.iaload, 1) := by decide +kernel
theorem dX7_nextServed_69 : decode cX7_nextServed 69 = .ok (.iaload, 1) := by decide +kernel
theorem dX7_nextServed_70 : decode cX7_nextServed 70 = .ok (.if_icmp .le 7, 3) := by decide +kernel
theorem dX7_nextServed_73 : decode cX7_nextServed 73 = .ok (.iconst 1, 1) := by decide +kernel
theorem dX7_nextServed_74 : decode cX7_nextServed 74 = .ok (.goto 4, 3) := by decide +kernel
theorem dX7_nextServed_77 : decode cX7_nextServed 77 = .ok (.iconst 0, 1) := by decide +kernel
theorem dX7_nextServed_78 : decode cX7_nextServed 78 = .ok (.istore_n 3, 1) := by decide +kernel
theorem dX7_nextServed_79 : decode cX7_nextServed 79 = .ok (.iload_n 3, 1) := by decide +kernel
theorem dX7_nextServed_80 : decode cX7_nextServed 80 = .ok (.ifCond .eq 7, 3) := by decide +kernel
theorem dX7_nextServed_83 : decode cX7_nextServed 83 = .ok (.iload_n 2, 1) := by decide +kernel
theorem dX7_nextServed_84 : decode cX7_nextServed 84 = .ok (.goto 4, 3) := by decide +kernel
theorem dX7_nextServed_87 : decode cX7_nextServed 87 = .ok (.iload_n 1, 1) := by decide +kernel
theorem dX7_nextServed_88 : decode cX7_nextServed 88 = .ok (.istore_n 1, 1) := by decide +kernel
theorem dX7_nextServed_89 : decode cX7_nextServed 89 = .ok (.iinc 2 1, 3) := by decide +kernel
theorem dX7_nextServed_92 : decode cX7_nextServed 92 = .ok (.goto (-87), 3) := by decide +kernel
theorem dX7_nextServed_95 : decode cX7_nextServed 95 = .ok (.iload_n 1, 1) := by decide +kernel
theorem dX7_nextServed_96 : decode cX7_nextServed 96 = .ok (.ireturn, 1) := by decide +kernel
theorem dX7_sortBy_0 : decode cX7_sortBy 0 = .ok (.iload_n 1, 1) := by decide +kernel
theorem dX7_sortBy_1 : decode cX7_sortBy 1 = .ok (.istore_n 2, 1) := by decide +kernel
theorem dX7_sortBy_2 : decode cX7_sortBy 2 = .ok (.iconst 0, 1) := by decide +kernel
theorem dX7_sortBy_3 : decode cX7_sortBy 3 = .ok (.istore_n 3, 1) := by decide +kernel
theorem dX7_sortBy_4 : decode cX7_sortBy 4 = .ok (.iload_n 3, 1) := by decide +kernel
theorem dX7_sortBy_5 : decode cX7_sortBy 5 = .ok (.aload_n 0, 1) := by decide +kernel
theorem dX7_sortBy_6 : decode cX7_sortBy 6 = .ok (.getfield 152, 3) := by decide +kernel
theorem dX7_sortBy_9 : decode cX7_sortBy 9 = .ok (.if_icmp .ge 30, 3) := by decide +kernel
theorem dX7_sortBy_12 : decode cX7_sortBy 12 = .ok (.iload_n 2, 1) := by decide +kernel
theorem dX7_sortBy_13 : decode cX7_sortBy 13 = .ok (.aload_n 0, 1) := by decide +kernel
theorem dX7_sortBy_14 : decode cX7_sortBy 14 = .ok (.getfield 19, 3) := by decide +kernel
theorem dX7_sortBy_17 : decode cX7_sortBy 17 = .ok (.iload_n 3, 1) := by decide +kernel
theorem dX7_sortBy_18 : decode cX7_sortBy 18 = .ok (.iaload, 1) := by decide +kernel
theorem dX7_sortBy_19 : decode cX7_sortBy 19 = .ok (.if_icmp .ge 5, 3) := by decide +kernel
theorem dX7_sortBy_22 : decode cX7_sortBy 22 = .ok (.iload_n 3, 1) := by decide +kernel
theorem dX7_sortBy_23 : decode cX7_sortBy 23 = .ok (.ireturn, 1) := by decide +kernel
theorem dX7_sortBy_24 : decode cX7_sortBy 24 = .ok (.iload_n 2, 1) := by decide +kernel
theorem dX7_sortBy_25 : decode cX7_sortBy 25 = .ok (.aload_n 0, 1) := by decide +kernel
theorem dX7_sortBy_26 : decode cX7_sortBy 26 = .ok (.getfield 19, 3) := by decide +kernel
theorem dX7_sortBy_29 : decode cX7_sortBy 29 = .ok (.iload_n 3, 1) := by decide +kernel
theorem dX7_sortBy_30 : decode cX7_sortBy 30 = .ok (.iaload, 1) := by decide +kernel
theorem dX7_sortBy_31 : decode cX7_sortBy 31 = .ok (.isub, 1) := by decide +kernel
theorem dX7_sortBy_32 : decode cX7_sortBy 32 = .ok (.istore_n 2, 1) := by decide +kernel
theorem dX7_sortBy_33 : decode cX7_sortBy 33 = .ok (.iinc 3 1, 3) := by decide +kernel
theorem dX7_sortBy_36 : decode cX7_sortBy 36 = .ok (.goto (-32), 3) := by decide +kernel
theorem dX7_sortBy_39 : decode cX7_sortBy 39 = .ok (.bipush (-9), 2) := by decide +kernel
theorem dX7_sortBy_41 : decode cX7_sortBy 41 = .ok (.ireturn, 1) := by decide +kernel
set_option maxRecDepth 20000 in
theorem ggX7_minute_X7_within : GoodIn wsX7_minute wsX7_within := goodIn_r _ [14] (by decide +kernel) (by decide +kernel)
set_option maxRecDepth 20000 in
theorem gX7_minute_X7_within : GoodIn wsX7_minute (va_wsS RX7 94 yX7_within wsX7_within) := goodIn_app (goodIn_of _ (by decide +kernel)) ggX7_minute_X7_within
set_option maxRecDepth 20000 in
theorem ggX7_minute_X7_sortBy : GoodIn wsX7_minute wsX7_sortBy := goodIn_r _ [18, 19, 20, 31, 32, 33, 34, 35, 36, 37, 38, 39, 40, 41, 42, 43, 44, 45, 46, 47, 48, 49, 50, 51, 52, 53, 54, 55, 56, 57, 58, 59, 60, 61, 62, 63, 64, 65, 66, 67, 68, 69, 70] (by decide +kernel) (by decide +kernel)
set_option maxRecDepth 20000 in
theorem gX7_minute_X7_sortBy : GoodIn wsX7_minute (wsV RX7 242 RX7 yX7_sortBy wsX7_sortBy) := goodIn_app (goodIn_of _ (by decide +kernel)) ggX7_minute_X7_sortBy
set_option maxRecDepth 20000 in
theorem ggX7_minute_X7_nextServed : GoodIn wsX7_minute wsX7_nextServed := goodIn_r _ [24, 2, 4, 25, 26, 9, 31, 32, 33, 34, 35, 36, 37, 38, 39, 40, 41, 42, 43, 44, 45, 46, 47, 48, 49, 50, 51, 52, 53, 54, 55, 56, 57, 58, 59, 60, 61, 62, 63, 64, 65, 66, 67, 68, 69, 70] (by decide +kernel) (by decide +kernel)
set_option maxRecDepth 20000 in
theorem gX7_minute_X7_nextServed : GoodIn wsX7_minute (wsV RX7 245 RX7 yX7_nextServed wsX7_nextServed) := goodIn_app (goodIn_of _ (by decide +kernel)) ggX7_minute_X7_nextServed
set_option maxRecDepth 20000 in
theorem ggX7_minute_X7_standing : GoodIn wsX7_minute wsX7_standing := goodIn_r _ [30, 2, 4, 31, 32, 33, 34, 35, 36, 37, 38, 39, 40, 41, 42, 43, 44, 45, 46, 47, 48, 49, 50, 51, 52, 53, 54, 55, 56, 57, 58, 59, 60, 61, 62, 63, 64, 65, 66, 67, 68, 69, 70] (by decide +kernel) (by decide +kernel)
set_option maxRecDepth 20000 in
theorem gX7_minute_X7_standing : GoodIn wsX7_minute (wsV RX7 248 RX7 yX7_standing wsX7_standing) := goodIn_app (goodIn_of _ (by decide +kernel)) ggX7_minute_X7_standing
theorem dX7_minute_0 : decode cX7_minute 0 = .ok (.iload_n 1, 1) := by decide +kernel
theorem dX7_minute_1 : decode cX7_minute 1 = .ok (.iconst 0, 1) := by decide +kernel
theorem dX7_minute_2 : decode cX7_minute 2 = .ok (.bipush 11, 2) := by decide +kernel
theorem dX7_minute_4 : decode cX7_minute 4 = .ok (.invokestatic 94, 3) := by decide +kernel
theorem dX7_minute_7 : decode cX7_minute 7 = .ok (.ifCond .eq 13, 3) := by decide +kernel
theorem dX7_minute_10 : decode cX7_minute 10 = .ok (.iload_n 2, 1) := by decide +kernel
theorem dX7_minute_11 : decode cX7_minute 11 = .ok (.iconst 0, 1) := by decide +kernel
theorem dX7_minute_12 : decode cX7_minute 12 = .ok (.bipush 11, 2) := by decide +kernel
theorem dX7_minute_14 : decode cX7_minute 14 = .ok (.invokestatic 94, 3) := by decide +kernel
theorem dX7_minute_17 : decode cX7_minute 17 = .ok (.ifCond .ne 6, 3) := by decide +kernel
theorem dX7_minute_20 : decode cX7_minute 20 = .ok (.bipush (-2), 2) := by decide +kernel
theorem dX7_minute_22 : decode cX7_minute 22 = .ok (.ireturn, 1) := by decide +kernel
theorem dX7_minute_23 : decode cX7_minute 23 = .ok (.aload_n 0, 1) := by decide +kernel
theorem dX7_minute_24 : decode cX7_minute 24 = .ok (.getfield 142, 3) := by decide +kernel
theorem dX7_minute_27 : decode cX7_minute 27 = .ok (.ifCond .ne 6, 3) := by decide +kernel
theorem dX7_minute_30 : decode cX7_minute 30 = .ok (.bipush (-3), 2) := by decide +kernel
theorem dX7_minute_32 : decode cX7_minute 32 = .ok (.ireturn, 1) := by decide +kernel
theorem dX7_minute_33 : decode cX7_minute 33 = .ok (.aload_n 0, 1) := by decide +kernel
theorem dX7_minute_34 : decode cX7_minute 34 = .ok (.iload_n 2, 1) := by decide +kernel
theorem dX7_minute_35 : decode cX7_minute 35 = .ok (.invokevirtual 242, 3) := by decide +kernel
theorem dX7_minute_38 : decode cX7_minute 38 = .ok (.istore_n 3, 1) := by decide +kernel
theorem dX7_minute_39 : decode cX7_minute 39 = .ok (.iload_n 3, 1) := by decide +kernel
theorem dX7_minute_40 : decode cX7_minute 40 = .ok (.bipush (-9), 2) := by decide +kernel
theorem dX7_minute_42 : decode cX7_minute 42 = .ok (.if_icmp .eq 15, 3) := by decide +kernel
theorem dX7_minute_45 : decode cX7_minute 45 = .ok (.aload_n 0, 1) := by decide +kernel
theorem dX7_minute_46 : decode cX7_minute 46 = .ok (.getfield 164, 3) := by decide +kernel
theorem dX7_minute_49 : decode cX7_minute 49 = .ok (.bipush 40, 2) := by decide +kernel
theorem dX7_minute_51 : decode cX7_minute 51 = .ok (.if_icmp .ne 6, 3) := by decide +kernel
theorem dX7_minute_54 : decode cX7_minute 54 = .ok (.bipush (-4), 2) := by decide +kernel
theorem dX7_minute_56 : decode cX7_minute 56 = .ok (.ireturn, 1) := by decide +kernel
theorem dX7_minute_57 : decode cX7_minute 57 = .ok (.aload_n 0, 1) := by decide +kernel
theorem dX7_minute_58 : decode cX7_minute 58 = .ok (.invokevirtual 245, 3) := by decide +kernel
theorem dX7_minute_61 : decode cX7_minute 61 = .ok (.istore 4, 2) := by decide +kernel
theorem dX7_minute_63 : decode cX7_minute 63 = .ok (.iconst 0, 1) := by decide +kernel
theorem dX7_minute_64 : decode cX7_minute 64 = .ok (.istore 5, 2) := by decide +kernel
theorem dX7_minute_66 : decode cX7_minute 66 = .ok (.iload 5, 2) := by decide +kernel
theorem dX7_minute_68 : decode cX7_minute 68 = .ok (.aload_n 0, 1) := by decide +kernel
theorem dX7_minute_69 : decode cX7_minute 69 = .ok (.getfield 164, 3) := by decide +kernel
theorem dX7_minute_72 : decode cX7_minute 72 = .ok (.if_icmp .ge 35, 3) := by decide +kernel
theorem dX7_minute_75 : decode cX7_minute 75 = .ok (.aload_n 0, 1) := by decide +kernel
theorem dX7_minute_76 : decode cX7_minute 76 = .ok (.getfield 65, 3) := by decide +kernel
theorem dX7_minute_79 : decode cX7_minute 79 = .ok (.iload 5, 2) := by decide +kernel
theorem dX7_minute_81 : decode cX7_minute 81 = .ok (.dup2, 1) := by decide +kernel
theorem dX7_minute_82 : decode cX7_minute 82 = .ok (.iaload, 1) := by decide +kernel
theorem dX7_minute_83 : decode cX7_minute 83 = .ok (.aload_n 0, 1) := by decide +kernel
theorem dX7_minute_84 : decode cX7_minute 84 = .ok (.getfield 62, 3) := by decide +kernel
theorem dX7_minute_87 : decode cX7_minute 87 = .ok (.iload 5, 2) := by decide +kernel
theorem dX7_minute_89 : decode cX7_minute 89 = .ok (.iaload, 1) := by decide +kernel
theorem dX7_minute_90 : decode cX7_minute 90 = .ok (.iconst 1, 1) := by decide +kernel
theorem dX7_minute_91 : decode cX7_minute 91 = .ok (.if_icmp .ne 7, 3) := by decide +kernel
theorem dX7_minute_94 : decode cX7_minute 94 = .ok (.iconst 1, 1) := by decide +kernel
theorem dX7_minute_95 : decode cX7_minute 95 = .ok (.goto 4, 3) := by decide +kernel
theorem dX7_minute_98 : decode cX7_minute 98 = .ok (.iconst 0, 1) := by decide +kernel
theorem dX7_minute_99 : decode cX7_minute 99 = .ok (.iadd, 1) := by decide +kernel
theorem dX7_minute_100 : decode cX7_minute 100 = .ok (.iastore, 1) := by decide +kernel
theorem dX7_minute_101 : decode cX7_minute 101 = .ok (.iinc 5 1, 3) := by decide +kernel
theorem dX7_minute_104 : decode cX7_minute 104 = .ok (.goto (-38), 3) := by decide +kernel
theorem dX7_minute_107 : decode cX7_minute 107 = .ok (.iconst 0, 1) := by decide +kernel
theorem dX7_minute_108 : decode cX7_minute 108 = .ok (.istore 5, 2) := by decide +kernel
theorem dX7_minute_110 : decode cX7_minute 110 = .ok (.iload 4, 2) := by decide +kernel
theorem dX7_minute_112 : decode cX7_minute 112 = .ok (.bipush (-9), 2) := by decide +kernel
theorem dX7_minute_114 : decode cX7_minute 114 = .ok (.if_icmp .eq 39, 3) := by decide +kernel
theorem dX7_minute_117 : decode cX7_minute 117 = .ok (.iload_n 1, 1) := by decide +kernel
theorem dX7_minute_118 : decode cX7_minute 118 = .ok (.aload_n 0, 1) := by decide +kernel
theorem dX7_minute_119 : decode cX7_minute 119 = .ok (.getfield 146, 3) := by decide +kernel
theorem dX7_minute_122 : decode cX7_minute 122 = .ok (.if_icmp .ge 31, 3) := by decide +kernel
theorem dX7_minute_125 : decode cX7_minute 125 = .ok (.aload_n 0, 1) := by decide +kernel
theorem dX7_minute_126 : decode cX7_minute 126 = .ok (.getfield 62, 3) := by decide +kernel
theorem dX7_minute_129 : decode cX7_minute 129 = .ok (.iload 4, 2) := by decide +kernel
theorem dX7_minute_131 : decode cX7_minute 131 = .ok (.iconst 2, 1) := by decide +kernel
theorem dX7_minute_132 : decode cX7_minute 132 = .ok (.iastore, 1) := by decide +kernel
theorem dX7_minute_133 : decode cX7_minute 133 = .ok (.aload_n 0, 1) := by decide +kernel
theorem dX7_minute_134 : decode cX7_minute 134 = .ok (.getfield 71, 3) := by decide +kernel
theorem dX7_minute_137 : decode cX7_minute 137 = .ok (.iload 4, 2) := by decide +kernel
theorem dX7_minute_139 : decode cX7_minute 139 = .ok (.aload_n 0, 1) := by decide +kernel
theorem dX7_minute_140 : decode cX7_minute 140 = .ok (.getfield 167, 3) := by decide +kernel
theorem dX7_minute_143 : decode cX7_minute 143 = .ok (.iastore, 1) := by decide +kernel
theorem dX7_minute_144 : decode cX7_minute 144 = .ok (.bipush 100, 2) := by decide +kernel
theorem dX7_minute_146 : decode cX7_minute 146 = .ok (.iload 4, 2) := by decide +kernel
theorem dX7_minute_148 : decode cX7_minute 148 = .ok (.iconst 1, 1) := by decide +kernel
theorem dX7_minute_149 : decode cX7_minute 149 = .ok (.iadd, 1) := by decide +kernel
theorem dX7_minute_150 : decode cX7_minute 150 = .ok (.imul, 1) := by decide +kernel
theorem dX7_minute_151 : decode cX7_minute 151 = .ok (.istore 5, 2) := by decide +kernel
theorem dX7_minute_153 : decode cX7_minute 153 = .ok (.iload_n 3, 1) := by decide +kernel
theorem dX7_minute_154 : decode cX7_minute 154 = .ok (.bipush (-9), 2) := by decide +kernel
theorem dX7_minute_156 : decode cX7_minute 156 = .ok (.if_icmp .eq 111, 3) := by decide +kernel
theorem dX7_minute_159 : decode cX7_minute 159 = .ok (.aload_n 0, 1) := by decide +kernel
theorem dX7_minute_160 : decode cX7_minute 160 = .ok (.invokevirtual 248, 3) := by decide +kernel
theorem dX7_minute_163 : decode cX7_minute 163 = .ok (.aload_n 0, 1) := by decide +kernel
theorem dX7_minute_164 : decode cX7_minute 164 = .ok (.getfield 25, 3) := by decide +kernel
theorem dX7_minute_167 : decode cX7_minute 167 = .ok (.iload_n 3, 1) := by decide +kernel
theorem dX7_minute_168 : decode cX7_minute 168 = .ok (.iaload, 1) := by decide +kernel
theorem dX7_minute_169 : decode cX7_minute 169 = .ok (.if_icmp .ge 7, 3) := by decide +kernel
theorem dX7_minute_172 : decode cX7_minute 172 = .ok (.iconst 1, 1) := by decide +kernel
theorem dX7_minute_173 : decode cX7_minute 173 = .ok (.goto 4, 3) := by decide +kernel
theorem dX7_minute_176 : decode cX7_minute 176 = .ok (.iconst 0, 1) := by decide +kernel
theorem dX7_minute_177 : decode cX7_minute 177 = .ok (.istore 6, 2) := by decide +kernel
theorem dX7_minute_179 : decode cX7_minute 179 = .ok (.aload_n 0, 1) := by decide +kernel
theorem dX7_minute_180 : decode cX7_minute 180 = .ok (.getfield 59, 3) := by decide +kernel
theorem dX7_minute_183 : decode cX7_minute 183 = .ok (.aload_n 0, 1) := by decide +kernel
theorem dX7_minute_184 : decode cX7_minute 184 = .ok (.getfield 164, 3) := by decide +kernel
theorem dX7_minute_187 : decode cX7_minute 187 = .ok (.iload_n 3, 1) := by decide +kernel
theorem dX7_minute_188 : decode cX7_minute 188 = .ok (.iastore, 1) := by decide +kernel
theorem dX7_minute_189 : decode cX7_minute 189 = .ok (.aload_n 0, 1) := by decide +kernel
theorem dX7_minute_190 : decode cX7_minute 190 = .ok (.getfield 62, 3) := by decide +kernel
theorem dX7_minute_193 : decode cX7_minute 193 = .ok (.aload_n 0, 1) := by decide +kernel
theorem dX7_minute_194 : decode cX7_minute 194 = .ok (.getfield 164, 3) := by decide +kernel
theorem dX7_minute_197 : decode cX7_minute 197 = .ok (.iload 6, 2) := by decide +kernel
theorem dX7_minute_199 : decode cX7_minute 199 = .ok (.ifCond .eq 7, 3) := by decide +kernel
theorem dX7_minute_202 : decode cX7_minute 202 = .ok (.iconst 1, 1) := by decide +kernel
theorem dX7_minute_203 : decode cX7_minute 203 = .ok (.goto 4, 3) := by decide +kernel
theorem dX7_minute_206 : decode cX7_minute 206 = .ok (.iconst 0, 1) := by decide +kernel
theorem dX7_minute_207 : decode cX7_minute 207 = .ok (.iastore, 1) := by decide +kernel
theorem dX7_minute_208 : decode cX7_minute 208 = .ok (.aload_n 0, 1) := by decide +kernel
theorem dX7_minute_209 : decode cX7_minute 209 = .ok (.getfield 65, 3) := by decide +kernel
theorem dX7_minute_212 : decode cX7_minute 212 = .ok (.aload_n 0, 1) := by decide +kernel
theorem dX7_minute_213 : decode cX7_minute 213 = .ok (.getfield 164, 3) := by decide +kernel
theorem dX7_minute_216 : decode cX7_minute 216 = .ok (.iconst 0, 1) := by decide +kernel
theorem dX7_minute_217 : decode cX7_minute 217 = .ok (.iastore, 1) := by decide +kernel
theorem dX7_minute_218 : decode cX7_minute 218 = .ok (.aload_n 0, 1) := by decide +kernel
theorem dX7_minute_219 : decode cX7_minute 219 = .ok (.getfield 68, 3) := by decide +kernel
theorem dX7_minute_222 : decode cX7_minute 222 = .ok (.aload_n 0, 1) := by decide +kernel
theorem dX7_minute_223 : decode cX7_minute 223 = .ok (.getfield 164, 3) := by decide +kernel
theorem dX7_minute_226 : decode cX7_minute 226 = .ok (.aload_n 0, 1) := by decide +kernel
theorem dX7_minute_227 : decode cX7_minute 227 = .ok (.getfield 167, 3) := by decide +kernel
theorem dX7_minute_230 : decode cX7_minute 230 = .ok (.iastore, 1) := by decide +kernel
theorem dX7_minute_231 : decode cX7_minute 231 = .ok (.aload_n 0, 1) := by decide +kernel
theorem dX7_minute_232 : decode cX7_minute 232 = .ok (.getfield 71, 3) := by decide +kernel
theorem dX7_minute_235 : decode cX7_minute 235 = .ok (.aload_n 0, 1) := by decide +kernel
theorem dX7_minute_236 : decode cX7_minute 236 = .ok (.getfield 164, 3) := by decide +kernel
theorem dX7_minute_239 : decode cX7_minute 239 = .ok (.bipush (-9), 2) := by decide +kernel
theorem dX7_minute_241 : decode cX7_minute 241 = .ok (.iastore, 1) := by decide +kernel
theorem dX7_minute_242 : decode cX7_minute 242 = .ok (.aload_n 0, 1) := by decide +kernel
theorem dX7_minute_243 : decode cX7_minute 243 = .ok (.dup, 1) := by decide +kernel
theorem dX7_minute_244 : decode cX7_minute 244 = .ok (.getfield 164, 3) := by decide +kernel
theorem dX7_minute_247 : decode cX7_minute 247 = .ok (.iconst 1, 1) := by decide +kernel
theorem dX7_minute_248 : decode cX7_minute 248 = .ok (.iadd, 1) := by decide +kernel
theorem dX7_minute_249 : decode cX7_minute 249 = .ok (.putfield 164, 3) := by decide +kernel
theorem dX7_minute_252 : decode cX7_minute 252 = .ok (.iload 5, 2) := by decide +kernel
theorem dX7_minute_254 : decode cX7_minute 254 = .ok (.iload 6, 2) := by decide +kernel
theorem dX7_minute_256 : decode cX7_minute 256 = .ok (.ifCond .eq 7, 3) := by decide +kernel
theorem dX7_minute_259 : decode cX7_minute 259 = .ok (.iconst 2, 1) := by decide +kernel
theorem dX7_minute_260 : decode cX7_minute 260 = .ok (.goto 4, 3) := by decide +kernel
theorem dX7_minute_263 : decode cX7_minute 263 = .ok (.iconst 1, 1) := by decide +kernel
theorem dX7_minute_264 : decode cX7_minute 264 = .ok (.iadd, 1) := by decide +kernel
theorem dX7_minute_265 : decode cX7_minute 265 = .ok (.istore 5, 2) := by decide +kernel
theorem dX7_minute_267 : decode cX7_minute 267 = .ok (.aload_n 0, 1) := by decide +kernel
theorem dX7_minute_268 : decode cX7_minute 268 = .ok (.dup, 1) := by decide +kernel
theorem dX7_minute_269 : decode cX7_minute 269 = .ok (.getfield 167, 3) := by decide +kernel
theorem dX7_minute_272 : decode cX7_minute 272 = .ok (.iconst 1, 1) := by decide +kernel
theorem dX7_minute_273 : decode cX7_minute 273 = .ok (.iadd, 1) := by decide +kernel
theorem dX7_minute_274 : decode cX7_minute 274 = .ok (.putfield 167, 3) := by decide +kernel
theorem dX7_minute_277 : decode cX7_minute 277 = .ok (.iload 5, 2) := by decide +kernel
theorem dX7_minute_279 : decode cX7_minute 279 = .ok (.ireturn, 1) := by decide +kernel
theorem dX7_isComer_0 : decode cX7_isComer 0 = .ok (.iload_n 1, 1) := by decide +kernel
theorem dX7_isComer_1 : decode cX7_isComer 1 = .ok (.ifCond .lt 15, 3) := by decide +kernel
theorem dX7_isComer_4 : decode cX7_isComer 4 = .ok (.iload_n 1, 1) := by decide +kernel
theorem dX7_isComer_5 : decode cX7_isComer 5 = .ok (.aload_n 0, 1) := by decide +kernel
theorem dX7_isComer_6 : decode cX7_isComer 6 = .ok (.getfield 164, 3) := by decide +kernel
theorem dX7_isComer_9 : decode cX7_isComer 9 = .ok (.if_icmp .ge 7, 3) := by decide +kernel
theorem dX7_isComer_12 : decode cX7_isComer 12 = .ok (.iconst 1, 1) := by decide +kernel
theorem dX7_isComer_13 : decode cX7_isComer 13 = .ok (.goto 4, 3) := by decide +kernel
theorem dX7_isComer_16 : decode cX7_isComer 16 = .ok (.iconst 0, 1) := by decide +kernel
theorem dX7_isComer_17 : decode cX7_isComer 17 = .ok (.ireturn, 1) := by decide +kernel
set_option maxRecDepth 20000 in
theorem ggX7_ofComer_X7_isComer : GoodIn wsX7_ofComer wsX7_isComer := goodIn_r _ [12, 13, 14, 15, 16, 17, 18, 19, 20, 21, 22, 23, 24, 25, 26, 27, 28, 29, 30, 31, 32, 33, 34, 35, 36, 37, 38, 39, 40, 41, 42, 43, 44, 45, 46, 47, 48, 49, 50, 51, 52, 53] (by decide +kernel) (by decide +kernel)
set_option maxRecDepth 20000 in
theorem gX7_ofComer_X7_isComer : GoodIn wsX7_ofComer (wsV RX7 251 RX7 yX7_isComer wsX7_isComer) := goodIn_app (goodIn_of _ (by decide +kernel)) ggX7_ofComer_X7_isComer
theorem dX7_ofComer_0 : decode cX7_ofComer 0 = .ok (.aload_n 0, 1) := by decide +kernel
theorem dX7_ofComer_1 : decode cX7_ofComer 1 = .ok (.iload_n 1, 1) := by decide +kernel
theorem dX7_ofComer_2 : decode cX7_ofComer 2 = .ok (.invokevirtual 251, 3) := by decide +kernel
theorem dX7_ofComer_5 : decode cX7_ofComer 5 = .ok (.ifCond .ne 5, 3) := by decide +kernel
theorem dX7_ofComer_8 : decode cX7_ofComer 8 = .ok (.iconst (-1), 1) := by decide +kernel
theorem dX7_ofComer_9 : decode cX7_ofComer 9 = .ok (.ireturn, 1) := by decide +kernel
theorem dX7_ofComer_10 : decode cX7_ofComer 10 = .ok (.iload_n 2, 1) := by decide +kernel
theorem dX7_ofComer_11 : decode cX7_ofComer 11 = .ok (.tableswitch 110 0 5 #[37, 44, 51, 58, 65, 72], 37) := by decide +kernel
theorem dX7_ofComer_48 : decode cX7_ofComer 48 = .ok (.aload_n 0, 1) := by decide +kernel
theorem dX7_ofComer_49 : decode cX7_ofComer 49 = .ok (.getfield 62, 3) := by decide +kernel
theorem dX7_ofComer_52 : decode cX7_ofComer 52 = .ok (.iload_n 1, 1) := by decide +kernel
theorem dX7_ofComer_53 : decode cX7_ofComer 53 = .ok (.iaload, 1) := by decide +kernel
theorem dX7_ofComer_54 : decode cX7_ofComer 54 = .ok (.ireturn, 1) := by decide +kernel
theorem dX7_ofComer_55 : decode cX7_ofComer 55 = .ok (.aload_n 0, 1) := by decide +kernel
theorem dX7_ofComer_56 : decode cX7_ofComer 56 = .ok (.getfield 59, 3) := by decide +kernel
theorem dX7_ofComer_59 : decode cX7_ofComer 59 = .ok (.iload_n 1, 1) := by decide +kernel
theorem dX7_ofComer_60 : decode cX7_ofComer 60 = .ok (.iaload, 1) := by decide +kernel
theorem dX7_ofComer_61 : decode cX7_ofComer 61 = .ok (.ireturn, 1) := by decide +kernel
theorem dX7_ofComer_62 : decode cX7_ofComer 62 = .ok (.aload_n 0, 1) := by decide +kernel
theorem dX7_ofComer_63 : decode cX7_ofComer 63 = .ok (.getfield 65, 3) := by decide +kernel
theorem dX7_ofComer_66 : decode cX7_ofComer 66 = .ok (.iload_n 1, 1) := by decide +kernel
theorem dX7_ofComer_67 : decode cX7_ofComer 67 = .ok (.iaload, 1) := by decide +kernel
theorem dX7_ofComer_68 : decode cX7_ofComer 68 = .ok (.ireturn, 1) := by decide +kernel
theorem dX7_ofComer_69 : decode cX7_ofComer 69 = .ok (.aload_n 0, 1) := by decide +kernel
theorem dX7_ofComer_70 : decode cX7_ofComer 70 = .ok (.getfield 68, 3) := by decide +kernel
theorem dX7_ofComer_73 : decode cX7_ofComer 73 = .ok (.iload_n 1, 1) := by decide +kernel
theorem dX7_ofComer_74 : decode cX7_ofComer 74 = .ok (.iaload, 1) := by decide +kernel
theorem dX7_ofComer_75 : decode cX7_ofComer 75 = .ok (.ireturn, 1) := by decide +kernel
theorem dX7_ofComer_76 : decode cX7_ofComer 76 = .ok (.aload_n 0, 1) := by decide +kernel
theorem dX7_ofComer_77 : decode cX7_ofComer 77 = .ok (.getfield 71, 3) := by decide +kernel
theorem dX7_ofComer_80 : decode cX7_ofComer 80 = .ok (.iload_n 1, 1) := by decide +kernel
theorem dX7_ofComer_81 : decode cX7_ofComer 81 = .ok (.iaload, 1) := by decide +kernel
theorem dX7_ofComer_82 : decode cX7_ofComer 82 = .ok (.ireturn, 1) := by decide +kernel
theorem dX7_ofComer_83 : decode cX7_ofComer 83 = .ok (.aload_n 0, 1) := by decide +kernel
theorem dX7_ofComer_84 : decode cX7_ofComer 84 = .ok (.getfield 62, 3) := by decide +kernel
theorem dX7_ofComer_87 : decode cX7_ofComer 87 = .ok (.iload_n 1, 1) := by decide +kernel
theorem dX7_ofComer_88 : decode cX7_ofComer 88 = .ok (.iaload, 1) := by decide +kernel
theorem dX7_ofComer_89 : decode cX7_ofComer 89 = .ok (.iconst 2, 1) := by decide +kernel
theorem dX7_ofComer_90 : decode cX7_ofComer 90 = .ok (.if_icmp .ne 29, 3) := by decide +kernel
theorem dX7_ofComer_93 : decode cX7_ofComer 93 = .ok (.aload_n 0, 1) := by decide +kernel
theorem dX7_ofComer_94 : decode cX7_ofComer 94 = .ok (.getfield 22, 3) := by decide +kernel
theorem dX7_ofComer_97 : decode cX7_ofComer 97 = .ok (.aload_n 0, 1) := by decide +kernel
theorem dX7_ofComer_98 : decode cX7_ofComer 98 = .ok (.getfield 59, 3) := by decide +kernel
theorem dX7_ofComer_101 : decode cX7_ofComer 101 = .ok (.iload_n 1, 1) := by decide +kernel
theorem dX7_ofComer_102 : decode cX7_ofComer 102 = .ok (.iaload, 1) := by decide +kernel
theorem dX7_ofComer_103 : decode cX7_ofComer 103 = .ok (.iaload, 1) := by decide +kernel
theorem dX7_ofComer_104 : decode cX7_ofComer 104 = .ok (.aload_n 0, 1) := by decide +kernel
theorem dX7_ofComer_105 : decode cX7_ofComer 105 = .ok (.getfield 149, 3) := by decide +kernel
theorem dX7_ofComer_108 : decode cX7_ofComer 108 = .ok (.aload_n 0, 1) := by decide +kernel
theorem dX7_ofComer_109 : decode cX7_ofComer 109 = .ok (.getfield 65, 3) := by decide +kernel
theorem dX7_ofComer_112 : decode cX7_ofComer 112 = .ok (.iload_n 1, 1) := by decide +kernel
theorem dX7_ofComer_113 : decode cX7_ofComer 113 = .ok (.iaload, 1) := by decide +kernel
theorem dX7_ofComer_114 : decode cX7_ofComer 114 = .ok (.imul, 1) := by decide +kernel
theorem dX7_ofComer_115 : decode cX7_ofComer 115 = .ok (.isub, 1) := by decide +kernel
theorem dX7_ofComer_116 : decode cX7_ofComer 116 = .ok (.goto 4, 3) := by decide +kernel
theorem dX7_ofComer_119 : decode cX7_ofComer 119 = .ok (.iconst 0, 1) := by decide +kernel
theorem dX7_ofComer_120 : decode cX7_ofComer 120 = .ok (.ireturn, 1) := by decide +kernel
theorem dX7_ofComer_121 : decode cX7_ofComer 121 = .ok (.bipush (-2), 2) := by decide +kernel
theorem dX7_ofComer_123 : decode cX7_ofComer 123 = .ok (.ireturn, 1) := by decide +kernel
set_option maxRecDepth 20000 in
theorem ggX7_leave_X7_isComer : GoodIn wsX7_leave wsX7_isComer := goodIn_r _ [6, 7, 12, 13, 14, 15, 16, 17, 18, 19, 20, 21, 22, 23, 24, 25, 26, 27, 28, 29, 30, 31, 32, 33, 34, 35, 36, 37, 38, 39, 40, 41, 42, 43, 44, 45, 46, 47, 48, 49, 50, 51] (by decide +kernel) (by decide +kernel)
set_option maxRecDepth 20000 in
theorem gX7_leave_X7_isComer : GoodIn wsX7_leave (wsV RX7 251 RX7 yX7_isComer wsX7_isComer) := goodIn_app (goodIn_of _ (by decide +kernel)) ggX7_leave_X7_isComer
set_option maxRecDepth 20000 in
theorem ggX7_leave_X7_standing : GoodIn wsX7_leave wsX7_standing := goodIn_r _ [11, 7, 1, 12, 13, 14, 15, 16, 17, 18, 19, 20, 21, 22, 23, 24, 25, 26, 27, 28, 29, 30, 31, 32, 33, 34, 35, 36, 37, 38, 39, 40, 41, 42, 43, 44, 45, 46, 47, 48, 49, 50, 51] (by decide +kernel) (by decide +kernel)
set_option maxRecDepth 20000 in
theorem gX7_leave_X7_standing : GoodIn wsX7_leave (wsV RX7 248 RX7 yX7_standing wsX7_standing) := goodIn_app (goodIn_of _ (by decide +kernel)) ggX7_leave_X7_standing
theorem dX7_leave_0 : decode cX7_leave 0 = .ok (.aload_n 0, 1) := by decide +kernel
theorem dX7_leave_1 : decode cX7_leave 1 = .ok (.iload_n 1, 1) := by decide +kernel
theorem dX7_leave_2 : decode cX7_leave 2 = .ok (.invokevirtual 251, 3) := by decide +kernel
theorem dX7_leave_5 : decode cX7_leave 5 = .ok (.ifCond .ne 5, 3) := by decide +kernel
theorem dX7_leave_8 : decode cX7_leave 8 = .ok (.iconst (-1), 1) := by decide +kernel
theorem dX7_leave_9 : decode cX7_leave 9 = .ok (.ireturn, 1) := by decide +kernel
theorem dX7_leave_10 : decode cX7_leave 10 = .ok (.aload_n 0, 1) := by decide +kernel
theorem dX7_leave_11 : decode cX7_leave 11 = .ok (.getfield 62, 3) := by decide +kernel
theorem dX7_leave_14 : decode cX7_leave 14 = .ok (.iload_n 1, 1) := by decide +kernel
theorem dX7_leave_15 : decode cX7_leave 15 = .ok (.iaload, 1) := by decide +kernel
theorem dX7_leave_16 : decode cX7_leave 16 = .ok (.iconst 1, 1) := by decide +kernel
theorem dX7_leave_17 : decode cX7_leave 17 = .ok (.if_icmp .eq 6, 3) := by decide +kernel
theorem dX7_leave_20 : decode cX7_leave 20 = .ok (.bipush (-3), 2) := by decide +kernel
theorem dX7_leave_22 : decode cX7_leave 22 = .ok (.ireturn, 1) := by decide +kernel
theorem dX7_leave_23 : decode cX7_leave 23 = .ok (.aload_n 0, 1) := by decide +kernel
theorem dX7_leave_24 : decode cX7_leave 24 = .ok (.getfield 62, 3) := by decide +kernel
theorem dX7_leave_27 : decode cX7_leave 27 = .ok (.iload_n 1, 1) := by decide +kernel
theorem dX7_leave_28 : decode cX7_leave 28 = .ok (.iconst 0, 1) := by decide +kernel
theorem dX7_leave_29 : decode cX7_leave 29 = .ok (.iastore, 1) := by decide +kernel
theorem dX7_leave_30 : decode cX7_leave 30 = .ok (.aload_n 0, 1) := by decide +kernel
theorem dX7_leave_31 : decode cX7_leave 31 = .ok (.invokevirtual 248, 3) := by decide +kernel
theorem dX7_leave_34 : decode cX7_leave 34 = .ok (.ireturn, 1) := by decide +kernel
set_option maxRecDepth 20000 in
theorem ggX7_line_X7_within : GoodIn wsX7_line wsX7_within := goodIn_r _ [6] (by decide +kernel) (by decide +kernel)
set_option maxRecDepth 20000 in
theorem gX7_line_X7_within : GoodIn wsX7_line (va_wsS RX7 94 yX7_within wsX7_within) := goodIn_app (goodIn_of _ (by decide +kernel)) ggX7_line_X7_within
theorem dX7_line_0 : decode cX7_line 0 = .ok (.iload_n 1, 1) := by decide +kernel
theorem dX7_line_1 : decode cX7_line 1 = .ok (.iconst (-1), 1) := by decide +kernel
theorem dX7_line_2 : decode cX7_line 2 = .ok (.iconst 4, 1) := by decide +kernel
theorem dX7_line_3 : decode cX7_line 3 = .ok (.invokestatic 94, 3) := by decide +kernel
theorem dX7_line_6 : decode cX7_line 6 = .ok (.ifCond .ne 5, 3) := by decide +kernel
theorem dX7_line_9 : decode cX7_line 9 = .ok (.iconst (-1), 1) := by decide +kernel
theorem dX7_line_10 : decode cX7_line 10 = .ok (.ireturn, 1) := by decide +kernel
theorem dX7_line_11 : decode cX7_line 11 = .ok (.iconst 0, 1) := by decide +kernel
theorem dX7_line_12 : decode cX7_line 12 = .ok (.istore_n 2, 1) := by decide +kernel
theorem dX7_line_13 : decode cX7_line 13 = .ok (.iconst 0, 1) := by decide +kernel
theorem dX7_line_14 : decode cX7_line 14 = .ok (.istore_n 3, 1) := by decide +kernel
theorem dX7_line_15 : decode cX7_line 15 = .ok (.iload_n 3, 1) := by decide +kernel
theorem dX7_line_16 : decode cX7_line 16 = .ok (.aload_n 0, 1) := by decide +kernel
theorem dX7_line_17 : decode cX7_line 17 = .ok (.getfield 164, 3) := by decide +kernel
theorem dX7_line_20 : decode cX7_line 20 = .ok (.if_icmp .ge 29, 3) := by decide +kernel
theorem dX7_line_23 : decode cX7_line 23 = .ok (.aload_n 0, 1) := by decide +kernel
theorem dX7_line_24 : decode cX7_line 24 = .ok (.getfield 62, 3) := by decide +kernel
theorem dX7_line_27 : decode cX7_line 27 = .ok (.iload_n 3, 1) := by decide +kernel
theorem dX7_line_28 : decode cX7_line 28 = .ok (.iaload, 1) := by decide +kernel
theorem dX7_line_29 : decode cX7_line 29 = .ok (.iconst 1, 1) := by decide +kernel
theorem dX7_line_30 : decode cX7_line 30 = .ok (.if_icmp .ne 13, 3) := by decide +kernel
theorem dX7_line_33 : decode cX7_line 33 = .ok (.iload_n 2, 1) := by decide +kernel
theorem dX7_line_34 : decode cX7_line 34 = .ok (.iload_n 1, 1) := by decide +kernel
theorem dX7_line_35 : decode cX7_line 35 = .ok (.if_icmp .ne 5, 3) := by decide +kernel
theorem dX7_line_38 : decode cX7_line 38 = .ok (.iload_n 3, 1) := by decide +kernel
theorem dX7_line_39 : decode cX7_line 39 = .ok (.ireturn, 1) := by decide +kernel
theorem dX7_line_40 : decode cX7_line 40 = .ok (.iinc 2 1, 3) := by decide +kernel
theorem dX7_line_43 : decode cX7_line 43 = .ok (.iinc 3 1, 3) := by decide +kernel
theorem dX7_line_46 : decode cX7_line 46 = .ok (.goto (-31), 3) := by decide +kernel
theorem dX7_line_49 : decode cX7_line 49 = .ok (.iload_n 1, 1) := by decide +kernel
theorem dX7_line_50 : decode cX7_line 50 = .ok (.iconst (-1), 1) := by decide +kernel
theorem dX7_line_51 : decode cX7_line 51 = .ok (.if_icmp .ne 7, 3) := by decide +kernel
theorem dX7_line_54 : decode cX7_line 54 = .ok (.iload_n 2, 1) := by decide +kernel
theorem dX7_line_55 : decode cX7_line 55 = .ok (.goto 5, 3) := by decide +kernel
theorem dX7_line_58 : decode cX7_line 58 = .ok (.bipush (-9), 2) := by decide +kernel
theorem dX7_line_60 : decode cX7_line 60 = .ok (.ireturn, 1) := by decide +kernel
theorem dX7_envy_0 : decode cX7_envy 0 = .ok (.iconst 0, 1) := by decide +kernel
theorem dX7_envy_1 : decode cX7_envy 1 = .ok (.istore_n 1, 1) := by decide +kernel
theorem dX7_envy_2 : decode cX7_envy 2 = .ok (.iconst 0, 1) := by decide +kernel
theorem dX7_envy_3 : decode cX7_envy 3 = .ok (.istore_n 2, 1) := by decide +kernel
theorem dX7_envy_4 : decode cX7_envy 4 = .ok (.iload_n 2, 1) := by decide +kernel
theorem dX7_envy_5 : decode cX7_envy 5 = .ok (.aload_n 0, 1) := by decide +kernel
theorem dX7_envy_6 : decode cX7_envy 6 = .ok (.getfield 164, 3) := by decide +kernel
theorem dX7_envy_9 : decode cX7_envy 9 = .ok (.if_icmp .ge 70, 3) := by decide +kernel
theorem dX7_envy_12 : decode cX7_envy 12 = .ok (.iload_n 2, 1) := by decide +kernel
theorem dX7_envy_13 : decode cX7_envy 13 = .ok (.iconst 1, 1) := by decide +kernel
theorem dX7_envy_14 : decode cX7_envy 14 = .ok (.iadd, 1) := by decide +kernel
theorem dX7_envy_15 : decode cX7_envy 15 = .ok (.istore_n 3, 1) := by decide +kernel
theorem dX7_envy_16 : decode cX7_envy 16 = .ok (.iload_n 3, 1) := by decide +kernel
theorem dX7_envy_17 : decode cX7_envy 17 = .ok (.aload_n 0, 1) := by decide +kernel
theorem dX7_envy_18 : decode cX7_envy 18 = .ok (.getfield 164, 3) := by decide +kernel
theorem dX7_envy_21 : decode cX7_envy 21 = .ok (.if_icmp .ge 52, 3) := by decide +kernel
theorem dX7_envy_24 : decode cX7_envy 24 = .ok (.iload_n 1, 1) := by decide +kernel
theorem dX7_envy_25 : decode cX7_envy 25 = .ok (.aload_n 0, 1) := by decide +kernel
theorem dX7_envy_26 : decode cX7_envy 26 = .ok (.getfield 62, 3) := by decide +kernel
theorem dX7_envy_29 : decode cX7_envy 29 = .ok (.iload_n 2, 1) := by decide +kernel
theorem dX7_envy_30 : decode cX7_envy 30 = .ok (.iaload, 1) := by decide +kernel
theorem dX7_envy_31 : decode cX7_envy 31 = .ok (.iconst 2, 1) := by decide +kernel
theorem dX7_envy_32 : decode cX7_envy 32 = .ok (.if_icmp .ne 32, 3) := by decide +kernel
theorem dX7_envy_35 : decode cX7_envy 35 = .ok (.aload_n 0, 1) := by decide +kernel
theorem dX7_envy_36 : decode cX7_envy 36 = .ok (.getfield 62, 3) := by decide +kernel
theorem dX7_envy_39 : decode cX7_envy 39 = .ok (.iload_n 3, 1) := by decide +kernel
theorem dX7_envy_40 : decode cX7_envy 40 = .ok (.iaload, 1) := by decide +kernel
theorem dX7_envy_41 : decode cX7_envy 41 = .ok (.iconst 2, 1) := by decide +kernel
theorem dX7_envy_42 : decode cX7_envy 42 = .ok (.if_icmp .ne 22, 3) := by decide +kernel
theorem dX7_envy_45 : decode cX7_envy 45 = .ok (.aload_n 0, 1) := by decide +kernel
theorem dX7_envy_46 : decode cX7_envy 46 = .ok (.getfield 71, 3) := by decide +kernel
theorem dX7_envy_49 : decode cX7_envy 49 = .ok (.iload_n 2, 1) := by decide +kernel
theorem dX7_envy_50 : decode cX7_envy 50 = .ok (.iaload, 1) := by decide +kernel
theorem dX7_envy_51 : decode cX7_envy 51 = .ok (.aload_n 0, 1) := by decide +kernel
theorem dX7_envy_52 : decode cX7_envy 52 = .ok (.getfield 71, 3) := by decide +kernel
theorem dX7_envy_55 : decode cX7_envy 55 = .ok (.iload_n 3, 1) := by decide +kernel
theorem dX7_envy_56 : decode cX7_envy 56 = .ok (.iaload, 1) := by decide +kernel
theorem dX7_envy_57 : decode cX7_envy 57 = .ok (.if_icmp .le 7, 3) := by decide +kernel
theorem dX7_envy_60 : decode cX7_envy 60 = .ok (.iconst 1, 1) := by decide +kernel
theorem dX7_envy_61 : decode cX7_envy 61 = .ok (.goto 4, 3) := by decide +kernel
theorem dX7_envy_64 : decode cX7_envy 64 = .ok (.iconst 0, 1) := by decide +kernel
theorem dX7_envy_65 : decode cX7_envy 65 = .ok (.iadd, 1) := by decide +kernel
theorem dX7_envy_66 : decode cX7_envy 66 = .ok (.istore_n 1, 1) := by decide +kernel
theorem dX7_envy_67 : decode cX7_envy 67 = .ok (.iinc 3 1, 3) := by decide +kernel
theorem dX7_envy_70 : decode cX7_envy 70 = .ok (.goto (-54), 3) := by decide +kernel
theorem dX7_envy_73 : decode cX7_envy 73 = .ok (.iinc 2 1, 3) := by decide +kernel
theorem dX7_envy_76 : decode cX7_envy 76 = .ok (.goto (-72), 3) := by decide +kernel
theorem dX7_envy_79 : decode cX7_envy 79 = .ok (.iload_n 1, 1) := by decide +kernel
theorem dX7_envy_80 : decode cX7_envy 80 = .ok (.ireturn, 1) := by decide +kernel
set_option maxRecDepth 20000 in
theorem ggX7_sheet_X7_isSheet : GoodIn wsX7_sheet wsX7_isSheet := goodIn_r _ [8, 9, 10, 7, 11] (by decide +kernel) (by decide +kernel)
set_option maxRecDepth 20000 in
theorem gX7_sheet_X7_isSheet : GoodIn wsX7_sheet (va_wsS RX7 129 yX7_isSheet wsX7_isSheet) := goodIn_app (goodIn_of _ (by decide +kernel)) ggX7_sheet_X7_isSheet
set_option maxRecDepth 20000 in
theorem ggX7_sheet_X7_isLane : GoodIn wsX7_sheet wsX7_isLane := goodIn_r _ [14, 9, 10, 7, 11] (by decide +kernel) (by decide +kernel)
set_option maxRecDepth 20000 in
theorem gX7_sheet_X7_isLane : GoodIn wsX7_sheet (va_wsS RX7 132 yX7_isLane wsX7_isLane) := goodIn_app (goodIn_of _ (by decide +kernel)) ggX7_sheet_X7_isLane
set_option maxRecDepth 20000 in
theorem ggX7_sheet_X7_fails : GoodIn wsX7_sheet wsX7_fails := goodIn_r _ [18, 1, 19, 20, 21, 22, 23, 24, 25, 26, 27, 28, 29, 30, 31, 32, 33, 34, 35, 36, 37, 38, 39, 40, 41, 42, 43, 44, 45, 46, 47, 48, 49, 50, 51, 52, 53, 54, 55, 56, 57, 58] (by decide +kernel) (by decide +kernel)
set_option maxRecDepth 20000 in
theorem gX7_sheet_X7_fails : GoodIn wsX7_sheet (wsV RX7 135 RX7 yX7_fails wsX7_fails) := goodIn_app (goodIn_of _ (by decide +kernel)) ggX7_sheet_X7_fails
theorem dX7_sheet_0 : decode cX7_sheet 0 = .ok (.aload_n 0, 1) := by decide +kernel
theorem dX7_sheet_1 : decode cX7_sheet 1 = .ok (.iconst 0, 1) := by decide +kernel
theorem dX7_sheet_2 : decode cX7_sheet 2 = .ok (.putfield 74, 3) := by decide +kernel
theorem dX7_sheet_5 : decode cX7_sheet 5 = .ok (.iload_n 1, 1) := by decide +kernel
theorem dX7_sheet_6 : decode cX7_sheet 6 = .ok (.invokestatic 129, 3) := by decide +kernel
theorem dX7_sheet_9 : decode cX7_sheet 9 = .ok (.ifCond .ne 5, 3) := by decide +kernel
theorem dX7_sheet_12 : decode cX7_sheet 12 = .ok (.iconst (-1), 1) := by decide +kernel
theorem dX7_sheet_13 : decode cX7_sheet 13 = .ok (.ireturn, 1) := by decide +kernel
theorem dX7_sheet_14 : decode cX7_sheet 14 = .ok (.iload_n 2, 1) := by decide +kernel
theorem dX7_sheet_15 : decode cX7_sheet 15 = .ok (.invokestatic 132, 3) := by decide +kernel
theorem dX7_sheet_18 : decode cX7_sheet 18 = .ok (.ifCond .eq 9, 3) := by decide +kernel
theorem dX7_sheet_21 : decode cX7_sheet 21 = .ok (.iload_n 3, 1) := by decide +kernel
theorem dX7_sheet_22 : decode cX7_sheet 22 = .ok (.bipush 60, 2) := by decide +kernel
theorem dX7_sheet_24 : decode cX7_sheet 24 = .ok (.if_icmp .le 6, 3) := by decide +kernel
theorem dX7_sheet_27 : decode cX7_sheet 27 = .ok (.bipush (-2), 2) := by decide +kernel
theorem dX7_sheet_29 : decode cX7_sheet 29 = .ok (.ireturn, 1) := by decide +kernel
theorem dX7_sheet_30 : decode cX7_sheet 30 = .ok (.iload_n 3, 1) := by decide +kernel
theorem dX7_sheet_31 : decode cX7_sheet 31 = .ok (.ifCond .ge 9, 3) := by decide +kernel
theorem dX7_sheet_34 : decode cX7_sheet 34 = .ok (.aload_n 0, 1) := by decide +kernel
theorem dX7_sheet_35 : decode cX7_sheet 35 = .ok (.iconst 4, 1) := by decide +kernel
theorem dX7_sheet_36 : decode cX7_sheet 36 = .ok (.invokevirtual 135, 3) := by decide +kernel
theorem dX7_sheet_39 : decode cX7_sheet 39 = .ok (.ireturn, 1) := by decide +kernel
theorem dX7_sheet_40 : decode cX7_sheet 40 = .ok (.aload_n 0, 1) := by decide +kernel
theorem dX7_sheet_41 : decode cX7_sheet 41 = .ok (.getfield 9, 3) := by decide +kernel
theorem dX7_sheet_44 : decode cX7_sheet 44 = .ok (.iload_n 1, 1) := by decide +kernel
theorem dX7_sheet_45 : decode cX7_sheet 45 = .ok (.iload_n 2, 1) := by decide +kernel
theorem dX7_sheet_46 : decode cX7_sheet 46 = .ok (.iastore, 1) := by decide +kernel
theorem dX7_sheet_47 : decode cX7_sheet 47 = .ok (.aload_n 0, 1) := by decide +kernel
theorem dX7_sheet_48 : decode cX7_sheet 48 = .ok (.getfield 13, 3) := by decide +kernel
theorem dX7_sheet_51 : decode cX7_sheet 51 = .ok (.iload_n 1, 1) := by decide +kernel
theorem dX7_sheet_52 : decode cX7_sheet 52 = .ok (.iload_n 3, 1) := by decide +kernel
theorem dX7_sheet_53 : decode cX7_sheet 53 = .ok (.iastore, 1) := by decide +kernel
theorem dX7_sheet_54 : decode cX7_sheet 54 = .ok (.iconst 0, 1) := by decide +kernel
theorem dX7_sheet_55 : decode cX7_sheet 55 = .ok (.istore 4, 2) := by decide +kernel
theorem dX7_sheet_57 : decode cX7_sheet 57 = .ok (.iload 4, 2) := by decide +kernel
theorem dX7_sheet_59 : decode cX7_sheet 59 = .ok (.bipush 60, 2) := by decide +kernel
theorem dX7_sheet_61 : decode cX7_sheet 61 = .ok (.if_icmp .ge 22, 3) := by decide +kernel
theorem dX7_sheet_64 : decode cX7_sheet 64 = .ok (.aload_n 0, 1) := by decide +kernel
theorem dX7_sheet_65 : decode cX7_sheet 65 = .ok (.getfield 16, 3) := by decide +kernel
theorem dX7_sheet_68 : decode cX7_sheet 68 = .ok (.bipush 60, 2) := by decide +kernel
theorem dX7_sheet_70 : decode cX7_sheet 70 = .ok (.iload_n 1, 1) := by decide +kernel
theorem dX7_sheet_71 : decode cX7_sheet 71 = .ok (.imul, 1) := by decide +kernel
theorem dX7_sheet_72 : decode cX7_sheet 72 = .ok (.iload 4, 2) := by decide +kernel
theorem dX7_sheet_74 : decode cX7_sheet 74 = .ok (.iadd, 1) := by decide +kernel
theorem dX7_sheet_75 : decode cX7_sheet 75 = .ok (.iconst 0, 1) := by decide +kernel
theorem dX7_sheet_76 : decode cX7_sheet 76 = .ok (.iastore, 1) := by decide +kernel
theorem dX7_sheet_77 : decode cX7_sheet 77 = .ok (.iinc 4 1, 3) := by decide +kernel
theorem dX7_sheet_80 : decode cX7_sheet 80 = .ok (.goto (-23), 3) := by decide +kernel
theorem dX7_sheet_83 : decode cX7_sheet 83 = .ok (.iconst 1, 1) := by decide +kernel
theorem dX7_sheet_84 : decode cX7_sheet 84 = .ok (.ireturn, 1) := by decide +kernel
set_option maxRecDepth 20000 in
theorem ggX7_lose_X7_isSheet : GoodIn wsX7_lose wsX7_isSheet := goodIn_r _ [5, 6, 7, 4, 8] (by decide +kernel) (by decide +kernel)
set_option maxRecDepth 20000 in
theorem gX7_lose_X7_isSheet : GoodIn wsX7_lose (va_wsS RX7 129 yX7_isSheet wsX7_isSheet) := goodIn_app (goodIn_of _ (by decide +kernel)) ggX7_lose_X7_isSheet
theorem dX7_lose_0 : decode cX7_lose 0 = .ok (.iload_n 1, 1) := by decide +kernel
theorem dX7_lose_1 : decode cX7_lose 1 = .ok (.invokestatic 129, 3) := by decide +kernel
theorem dX7_lose_4 : decode cX7_lose 4 = .ok (.ifCond .ne 5, 3) := by decide +kernel
theorem dX7_lose_7 : decode cX7_lose 7 = .ok (.iconst (-1), 1) := by decide +kernel
theorem dX7_lose_8 : decode cX7_lose 8 = .ok (.ireturn, 1) := by decide +kernel
theorem dX7_lose_9 : decode cX7_lose 9 = .ok (.aload_n 0, 1) := by decide +kernel
theorem dX7_lose_10 : decode cX7_lose 10 = .ok (.getfield 9, 3) := by decide +kernel
theorem dX7_lose_13 : decode cX7_lose 13 = .ok (.iload_n 1, 1) := by decide +kernel
theorem dX7_lose_14 : decode cX7_lose 14 = .ok (.iaload, 1) := by decide +kernel
theorem dX7_lose_15 : decode cX7_lose 15 = .ok (.bipush (-9), 2) := by decide +kernel
theorem dX7_lose_17 : decode cX7_lose 17 = .ok (.if_icmp .ne 7, 3) := by decide +kernel
theorem dX7_lose_20 : decode cX7_lose 20 = .ok (.iconst 0, 1) := by decide +kernel
theorem dX7_lose_21 : decode cX7_lose 21 = .ok (.goto 4, 3) := by decide +kernel
theorem dX7_lose_24 : decode cX7_lose 24 = .ok (.iconst 1, 1) := by decide +kernel
theorem dX7_lose_25 : decode cX7_lose 25 = .ok (.istore_n 2, 1) := by decide +kernel
theorem dX7_lose_26 : decode cX7_lose 26 = .ok (.aload_n 0, 1) := by decide +kernel
theorem dX7_lose_27 : decode cX7_lose 27 = .ok (.getfield 9, 3) := by decide +kernel
theorem dX7_lose_30 : decode cX7_lose 30 = .ok (.iload_n 1, 1) := by decide +kernel
theorem dX7_lose_31 : decode cX7_lose 31 = .ok (.bipush (-9), 2) := by decide +kernel
theorem dX7_lose_33 : decode cX7_lose 33 = .ok (.iastore, 1) := by decide +kernel
theorem dX7_lose_34 : decode cX7_lose 34 = .ok (.iload_n 2, 1) := by decide +kernel
theorem dX7_lose_35 : decode cX7_lose 35 = .ok (.ireturn, 1) := by decide +kernel
set_option maxRecDepth 20000 in
theorem ggX7_put_X7_isSheet : GoodIn wsX7_put wsX7_isSheet := goodIn_r _ [8, 9, 10, 7, 11] (by decide +kernel) (by decide +kernel)
set_option maxRecDepth 20000 in
theorem gX7_put_X7_isSheet : GoodIn wsX7_put (va_wsS RX7 129 yX7_isSheet wsX7_isSheet) := goodIn_app (goodIn_of _ (by decide +kernel)) ggX7_put_X7_isSheet
set_option maxRecDepth 20000 in
theorem ggX7_put_X7_fails : GoodIn wsX7_put wsX7_fails := goodIn_r _ [15, 1, 16, 17, 18, 19, 20, 21, 22, 23, 24, 25, 26, 27, 28, 29, 30, 31, 32, 33, 34, 35, 36, 37, 38, 39, 40, 41, 42, 43, 44, 45, 46, 47, 48, 49, 50, 51, 52, 53, 54, 55] (by decide +kernel) (by decide +kernel)
set_option maxRecDepth 20000 in
theorem gX7_put_X7_fails : GoodIn wsX7_put (wsV RX7 135 RX7 yX7_fails wsX7_fails) := goodIn_app (goodIn_of _ (by decide +kernel)) ggX7_put_X7_fails
set_option maxRecDepth 20000 in
theorem ggX7_put_X7_within : GoodIn wsX7_put wsX7_within := goodIn_r _ [11] (by decide +kernel) (by decide +kernel)
set_option maxRecDepth 20000 in
theorem gX7_put_X7_within : GoodIn wsX7_put (va_wsS RX7 94 yX7_within wsX7_within) := goodIn_app (goodIn_of _ (by decide +kernel)) ggX7_put_X7_within
theorem dX7_put_0 : decode cX7_put 0 = .ok (.aload_n 0, 1) := by decide +kernel
theorem dX7_put_1 : decode cX7_put 1 = .ok (.iconst 0, 1) := by decide +kernel
theorem dX7_put_2 : decode cX7_put 2 = .ok (.putfield 74, 3) := by decide +kernel
theorem dX7_put_5 : decode cX7_put 5 = .ok (.iload_n 1, 1) := by decide +kernel
theorem dX7_put_6 : decode cX7_put 6 = .ok (.invokestatic 129, 3) := by decide +kernel
theorem dX7_put_9 : decode cX7_put 9 = .ok (.ifCond .ne 5, 3) := by decide +kernel
theorem dX7_put_12 : decode cX7_put 12 = .ok (.iconst (-1), 1) := by decide +kernel
theorem dX7_put_13 : decode cX7_put 13 = .ok (.ireturn, 1) := by decide +kernel
theorem dX7_put_14 : decode cX7_put 14 = .ok (.aload_n 0, 1) := by decide +kernel
theorem dX7_put_15 : decode cX7_put 15 = .ok (.getfield 9, 3) := by decide +kernel
theorem dX7_put_18 : decode cX7_put 18 = .ok (.iload_n 1, 1) := by decide +kernel
theorem dX7_put_19 : decode cX7_put 19 = .ok (.iaload, 1) := by decide +kernel
theorem dX7_put_20 : decode cX7_put 20 = .ok (.bipush (-9), 2) := by decide +kernel
theorem dX7_put_22 : decode cX7_put 22 = .ok (.if_icmp .ne 9, 3) := by decide +kernel
theorem dX7_put_25 : decode cX7_put 25 = .ok (.aload_n 0, 1) := by decide +kernel
theorem dX7_put_26 : decode cX7_put 26 = .ok (.iconst 1, 1) := by decide +kernel
theorem dX7_put_27 : decode cX7_put 27 = .ok (.invokevirtual 135, 3) := by decide +kernel
theorem dX7_put_30 : decode cX7_put 30 = .ok (.ireturn, 1) := by decide +kernel
theorem dX7_put_31 : decode cX7_put 31 = .ok (.iload_n 2, 1) := by decide +kernel
theorem dX7_put_32 : decode cX7_put 32 = .ok (.iconst 0, 1) := by decide +kernel
theorem dX7_put_33 : decode cX7_put 33 = .ok (.aload_n 0, 1) := by decide +kernel
theorem dX7_put_34 : decode cX7_put 34 = .ok (.getfield 13, 3) := by decide +kernel
theorem dX7_put_37 : decode cX7_put 37 = .ok (.iload_n 1, 1) := by decide +kernel
theorem dX7_put_38 : decode cX7_put 38 = .ok (.iaload, 1) := by decide +kernel
theorem dX7_put_39 : decode cX7_put 39 = .ok (.iconst 1, 1) := by decide +kernel
theorem dX7_put_40 : decode cX7_put 40 = .ok (.isub, 1) := by decide +kernel
theorem dX7_put_41 : decode cX7_put 41 = .ok (.invokestatic 94, 3) := by decide +kernel
theorem dX7_put_44 : decode cX7_put 44 = .ok (.ifCond .ne 9, 3) := by decide +kernel
theorem dX7_put_47 : decode cX7_put 47 = .ok (.aload_n 0, 1) := by decide +kernel
theorem dX7_put_48 : decode cX7_put 48 = .ok (.iconst 3, 1) := by decide +kernel
theorem dX7_put_49 : decode cX7_put 49 = .ok (.invokevirtual 135, 3) := by decide +kernel
theorem dX7_put_52 : decode cX7_put 52 = .ok (.ireturn, 1) := by decide +kernel
theorem dX7_put_53 : decode cX7_put 53 = .ok (.aload_n 0, 1) := by decide +kernel
theorem dX7_put_54 : decode cX7_put 54 = .ok (.getfield 16, 3) := by decide +kernel
theorem dX7_put_57 : decode cX7_put 57 = .ok (.bipush 60, 2) := by decide +kernel
theorem dX7_put_59 : decode cX7_put 59 = .ok (.iload_n 1, 1) := by decide +kernel
theorem dX7_put_60 : decode cX7_put 60 = .ok (.imul, 1) := by decide +kernel
theorem dX7_put_61 : decode cX7_put 61 = .ok (.iload_n 2, 1) := by decide +kernel
theorem dX7_put_62 : decode cX7_put 62 = .ok (.iadd, 1) := by decide +kernel
theorem dX7_put_63 : decode cX7_put 63 = .ok (.aload_n 0, 1) := by decide +kernel
theorem dX7_put_64 : decode cX7_put 64 = .ok (.getfield 9, 3) := by decide +kernel
theorem dX7_put_67 : decode cX7_put 67 = .ok (.iload_n 1, 1) := by decide +kernel
theorem dX7_put_68 : decode cX7_put 68 = .ok (.iaload, 1) := by decide +kernel
theorem dX7_put_69 : decode cX7_put 69 = .ok (.ifCond .ne 8, 3) := by decide +kernel
theorem dX7_put_72 : decode cX7_put 72 = .ok (.iload_n 3, 1) := by decide +kernel
theorem dX7_put_73 : decode cX7_put 73 = .ok (.i2b, 1) := by decide +kernel
theorem dX7_put_74 : decode cX7_put 74 = .ok (.goto 19, 3) := by decide +kernel
theorem dX7_put_77 : decode cX7_put 77 = .ok (.aload_n 0, 1) := by decide +kernel
theorem dX7_put_78 : decode cX7_put 78 = .ok (.getfield 9, 3) := by decide +kernel
theorem dX7_put_81 : decode cX7_put 81 = .ok (.iload_n 1, 1) := by decide +kernel
theorem dX7_put_82 : decode cX7_put 82 = .ok (.iaload, 1) := by decide +kernel
theorem dX7_put_83 : decode cX7_put 83 = .ok (.iconst 1, 1) := by decide +kernel
theorem dX7_put_84 : decode cX7_put 84 = .ok (.if_icmp .ne 8, 3) := by decide +kernel
theorem dX7_put_87 : decode cX7_put 87 = .ok (.iload_n 3, 1) := by decide +kernel
theorem dX7_put_88 : decode cX7_put 88 = .ok (.i2s, 1) := by decide +kernel
theorem dX7_put_89 : decode cX7_put 89 = .ok (.goto 4, 3) := by decide +kernel
theorem dX7_put_92 : decode cX7_put 92 = .ok (.iload_n 3, 1) := by decide +kernel
theorem dX7_put_93 : decode cX7_put 93 = .ok (.iastore, 1) := by decide +kernel
theorem dX7_put_94 : decode cX7_put 94 = .ok (.iconst 1, 1) := by decide +kernel
theorem dX7_put_95 : decode cX7_put 95 = .ok (.ireturn, 1) := by decide +kernel
set_option maxRecDepth 20000 in
theorem ggX7_cell_X7_isSheet : GoodIn wsX7_cell wsX7_isSheet := goodIn_r _ [9, 10, 11, 8, 12] (by decide +kernel) (by decide +kernel)
set_option maxRecDepth 20000 in
theorem gX7_cell_X7_isSheet : GoodIn wsX7_cell (va_wsS RX7 129 yX7_isSheet wsX7_isSheet) := goodIn_app (goodIn_of _ (by decide +kernel)) ggX7_cell_X7_isSheet
set_option maxRecDepth 20000 in
theorem ggX7_cell_X7_isLane : GoodIn wsX7_cell wsX7_isLane := goodIn_r _ [15, 10, 11, 8, 12] (by decide +kernel) (by decide +kernel)
set_option maxRecDepth 20000 in
theorem gX7_cell_X7_isLane : GoodIn wsX7_cell (va_wsS RX7 132 yX7_isLane wsX7_isLane) := goodIn_app (goodIn_of _ (by decide +kernel)) ggX7_cell_X7_isLane
set_option maxRecDepth 20000 in
theorem ggX7_cell_X7_lost : GoodIn wsX7_cell wsX7_lost := goodIn_r _ [19, 1, 2, 20, 21, 22, 23, 24, 25, 26, 27, 28, 29, 30, 31, 32, 33, 34, 35, 36, 37, 38, 39, 40, 41, 42, 43, 44, 45, 46, 47, 48, 49, 50, 51, 52, 53, 54, 55, 56, 57, 58, 59] (by decide +kernel) (by decide +kernel)
set_option maxRecDepth 20000 in
theorem gX7_cell_X7_lost : GoodIn wsX7_cell (wsV RX7 254 RX7 yX7_lost wsX7_lost) := goodIn_app (goodIn_of _ (by decide +kernel)) ggX7_cell_X7_lost
set_option maxRecDepth 20000 in
theorem ggX7_cell_X7_within : GoodIn wsX7_cell wsX7_within := goodIn_r _ [12] (by decide +kernel) (by decide +kernel)
set_option maxRecDepth 20000 in
theorem gX7_cell_X7_within : GoodIn wsX7_cell (va_wsS RX7 94 yX7_within wsX7_within) := goodIn_app (goodIn_of _ (by decide +kernel)) ggX7_cell_X7_within
theorem dX7_cell_0 : decode cX7_cell 0 = .ok (.aload_n 0, 1) := by decide +kernel
theorem dX7_cell_1 : decode cX7_cell 1 = .ok (.iconst 0, 1) := by decide +kernel
theorem dX7_cell_2 : decode cX7_cell 2 = .ok (.putfield 74, 3) := by decide +kernel
theorem dX7_cell_5 : decode cX7_cell 5 = .ok (.iload_n 1, 1) := by decide +kernel
theorem dX7_cell_6 : decode cX7_cell 6 = .ok (.invokestatic 129, 3) := by decide +kernel
theorem dX7_cell_9 : decode cX7_cell 9 = .ok (.ifCond .eq 10, 3) := by decide +kernel
theorem dX7_cell_12 : decode cX7_cell 12 = .ok (.iload_n 3, 1) := by decide +kernel
theorem dX7_cell_13 : decode cX7_cell 13 = .ok (.invokestatic 132, 3) := by decide +kernel
theorem dX7_cell_16 : decode cX7_cell 16 = .ok (.ifCond .ne 7, 3) := by decide +kernel
theorem dX7_cell_19 : decode cX7_cell 19 = .ok (.ldc2_w 78, 3) := by decide +kernel
theorem dX7_cell_22 : decode cX7_cell 22 = .ok (.lreturn, 1) := by decide +kernel
theorem dX7_cell_23 : decode cX7_cell 23 = .ok (.aload_n 0, 1) := by decide +kernel
theorem dX7_cell_24 : decode cX7_cell 24 = .ok (.getfield 9, 3) := by decide +kernel
theorem dX7_cell_27 : decode cX7_cell 27 = .ok (.iload_n 1, 1) := by decide +kernel
theorem dX7_cell_28 : decode cX7_cell 28 = .ok (.iaload, 1) := by decide +kernel
theorem dX7_cell_29 : decode cX7_cell 29 = .ok (.bipush (-9), 2) := by decide +kernel
theorem dX7_cell_31 : decode cX7_cell 31 = .ok (.if_icmp .eq 19, 3) := by decide +kernel
theorem dX7_cell_34 : decode cX7_cell 34 = .ok (.aload_n 0, 1) := by decide +kernel
theorem dX7_cell_35 : decode cX7_cell 35 = .ok (.getfield 9, 3) := by decide +kernel
theorem dX7_cell_38 : decode cX7_cell 38 = .ok (.iload_n 1, 1) := by decide +kernel
theorem dX7_cell_39 : decode cX7_cell 39 = .ok (.iaload, 1) := by decide +kernel
theorem dX7_cell_40 : decode cX7_cell 40 = .ok (.iload_n 3, 1) := by decide +kernel
theorem dX7_cell_41 : decode cX7_cell 41 = .ok (.if_icmp .eq 9, 3) := by decide +kernel
theorem dX7_cell_44 : decode cX7_cell 44 = .ok (.aload_n 0, 1) := by decide +kernel
theorem dX7_cell_45 : decode cX7_cell 45 = .ok (.iconst 2, 1) := by decide +kernel
theorem dX7_cell_46 : decode cX7_cell 46 = .ok (.invokevirtual 254, 3) := by decide +kernel
theorem dX7_cell_49 : decode cX7_cell 49 = .ok (.lreturn, 1) := by decide +kernel
theorem dX7_cell_50 : decode cX7_cell 50 = .ok (.aload_n 0, 1) := by decide +kernel
theorem dX7_cell_51 : decode cX7_cell 51 = .ok (.getfield 9, 3) := by decide +kernel
theorem dX7_cell_54 : decode cX7_cell 54 = .ok (.iload_n 1, 1) := by decide +kernel
theorem dX7_cell_55 : decode cX7_cell 55 = .ok (.iaload, 1) := by decide +kernel
theorem dX7_cell_56 : decode cX7_cell 56 = .ok (.bipush (-9), 2) := by decide +kernel
theorem dX7_cell_58 : decode cX7_cell 58 = .ok (.if_icmp .ne 9, 3) := by decide +kernel
theorem dX7_cell_61 : decode cX7_cell 61 = .ok (.aload_n 0, 1) := by decide +kernel
theorem dX7_cell_62 : decode cX7_cell 62 = .ok (.iconst 1, 1) := by decide +kernel
theorem dX7_cell_63 : decode cX7_cell 63 = .ok (.invokevirtual 254, 3) := by decide +kernel
theorem dX7_cell_66 : decode cX7_cell 66 = .ok (.lreturn, 1) := by decide +kernel
theorem dX7_cell_67 : decode cX7_cell 67 = .ok (.iload_n 2, 1) := by decide +kernel
theorem dX7_cell_68 : decode cX7_cell 68 = .ok (.iconst 0, 1) := by decide +kernel
theorem dX7_cell_69 : decode cX7_cell 69 = .ok (.aload_n 0, 1) := by decide +kernel
theorem dX7_cell_70 : decode cX7_cell 70 = .ok (.getfield 13, 3) := by decide +kernel
theorem dX7_cell_73 : decode cX7_cell 73 = .ok (.iload_n 1, 1) := by decide +kernel
theorem dX7_cell_74 : decode cX7_cell 74 = .ok (.iaload, 1) := by decide +kernel
theorem dX7_cell_75 : decode cX7_cell 75 = .ok (.iconst 1, 1) := by decide +kernel
theorem dX7_cell_76 : decode cX7_cell 76 = .ok (.isub, 1) := by decide +kernel
theorem dX7_cell_77 : decode cX7_cell 77 = .ok (.invokestatic 94, 3) := by decide +kernel
theorem dX7_cell_80 : decode cX7_cell 80 = .ok (.ifCond .ne 9, 3) := by decide +kernel
theorem dX7_cell_83 : decode cX7_cell 83 = .ok (.aload_n 0, 1) := by decide +kernel
theorem dX7_cell_84 : decode cX7_cell 84 = .ok (.iconst 3, 1) := by decide +kernel
theorem dX7_cell_85 : decode cX7_cell 85 = .ok (.invokevirtual 254, 3) := by decide +kernel
theorem dX7_cell_88 : decode cX7_cell 88 = .ok (.lreturn, 1) := by decide +kernel
theorem dX7_cell_89 : decode cX7_cell 89 = .ok (.aload_n 0, 1) := by decide +kernel
theorem dX7_cell_90 : decode cX7_cell 90 = .ok (.getfield 16, 3) := by decide +kernel
theorem dX7_cell_93 : decode cX7_cell 93 = .ok (.bipush 60, 2) := by decide +kernel
theorem dX7_cell_95 : decode cX7_cell 95 = .ok (.iload_n 1, 1) := by decide +kernel
theorem dX7_cell_96 : decode cX7_cell 96 = .ok (.imul, 1) := by decide +kernel
theorem dX7_cell_97 : decode cX7_cell 97 = .ok (.iload_n 2, 1) := by decide +kernel
theorem dX7_cell_98 : decode cX7_cell 98 = .ok (.iadd, 1) := by decide +kernel
theorem dX7_cell_99 : decode cX7_cell 99 = .ok (.iaload, 1) := by decide +kernel
theorem dX7_cell_100 : decode cX7_cell 100 = .ok (.i2l, 1) := by decide +kernel
theorem dX7_cell_101 : decode cX7_cell 101 = .ok (.lreturn, 1) := by decide +kernel
theorem dX7_begins_0 : decode cX7_begins 0 = .ok (.aload_n 0, 1) := by decide +kernel
theorem dX7_begins_1 : decode cX7_begins 1 = .ok (.bipush 31, 2) := by decide +kernel
theorem dX7_begins_3 : decode cX7_begins 3 = .ok (.aload_n 0, 1) := by decide +kernel
theorem dX7_begins_4 : decode cX7_begins 4 = .ok (.getfield 257, 3) := by decide +kernel
theorem dX7_begins_7 : decode cX7_begins 7 = .ok (.imul, 1) := by decide +kernel
theorem dX7_begins_8 : decode cX7_begins 8 = .ok (.iload_n 1, 1) := by decide +kernel
theorem dX7_begins_9 : decode cX7_begins 9 = .ok (.iadd, 1) := by decide +kernel
theorem dX7_begins_10 : decode cX7_begins 10 = .ok (.putfield 257, 3) := by decide +kernel
theorem dX7_begins_13 : decode cX7_begins 13 = .ok (.return_, 1) := by decide +kernel
set_option maxRecDepth 20000 in
theorem ggX7_tell_X7_isComer : GoodIn wsX7_tell wsX7_isComer := goodIn_r _ [8, 9, 15, 16, 17, 18, 19, 20, 21, 22, 23, 24, 25, 26, 27, 28, 29, 30, 31, 32, 33, 34, 35, 36, 37, 38, 39, 40, 41, 42, 43, 44, 45, 46, 47, 48, 49, 50, 51, 52, 53, 54] (by decide +kernel) (by decide +kernel)
set_option maxRecDepth 20000 in
theorem gX7_tell_X7_isComer : GoodIn wsX7_tell (wsV RX7 251 RX7 yX7_isComer wsX7_isComer) := goodIn_app (goodIn_of _ (by decide +kernel)) ggX7_tell_X7_isComer
set_option maxRecDepth 20000 in
theorem ggX7_tell_X7_begins : GoodIn wsX7_tell wsX7_begins := goodIn_r _ [13, 14, 15, 16, 17, 18, 19, 20, 21, 22, 23, 24, 25, 26, 27, 28, 29, 30, 31, 32, 33, 34, 35, 36, 37, 38, 39, 40, 41, 42, 43, 44, 45, 46, 47, 48, 49, 50, 51, 52, 53, 54] (by decide +kernel) (by decide +kernel)
set_option maxRecDepth 20000 in
theorem gX7_tell_X7_begins : GoodIn wsX7_tell (wsV RX7 260 RX7 yX7_begins wsX7_begins) := goodIn_app (goodIn_of _ (by decide +kernel)) ggX7_tell_X7_begins
theorem dX7_tell_0 : decode cX7_tell 0 = .ok (.aload_n 0, 1) := by decide +kernel
theorem dX7_tell_1 : decode cX7_tell 1 = .ok (.iload_n 1, 1) := by decide +kernel
theorem dX7_tell_2 : decode cX7_tell 2 = .ok (.invokevirtual 251, 3) := by decide +kernel
theorem dX7_tell_5 : decode cX7_tell 5 = .ok (.ifCond .ne 5, 3) := by decide +kernel
theorem dX7_tell_8 : decode cX7_tell 8 = .ok (.iconst (-1), 1) := by decide +kernel
theorem dX7_tell_9 : decode cX7_tell 9 = .ok (.ireturn, 1) := by decide +kernel
theorem dX7_tell_10 : decode cX7_tell 10 = .ok (.aload_n 0, 1) := by decide +kernel
theorem dX7_tell_11 : decode cX7_tell 11 = .ok (.getfield 59, 3) := by decide +kernel
theorem dX7_tell_14 : decode cX7_tell 14 = .ok (.iload_n 1, 1) := by decide +kernel
theorem dX7_tell_15 : decode cX7_tell 15 = .ok (.iaload, 1) := by decide +kernel
theorem dX7_tell_16 : decode cX7_tell 16 = .ok (.istore_n 2, 1) := by decide +kernel
theorem dX7_tell_17 : decode cX7_tell 17 = .ok (.aload_n 0, 1) := by decide +kernel
theorem dX7_tell_18 : decode cX7_tell 18 = .ok (.getfield 62, 3) := by decide +kernel
theorem dX7_tell_21 : decode cX7_tell 21 = .ok (.iload_n 1, 1) := by decide +kernel
theorem dX7_tell_22 : decode cX7_tell 22 = .ok (.iaload, 1) := by decide +kernel
theorem dX7_tell_23 : decode cX7_tell 23 = .ok (.lookupswitch 81 #[(1, 25), (2, 47)], 25) := by decide +kernel
theorem dX7_tell_48 : decode cX7_tell 48 = .ok (.aload_n 0, 1) := by decide +kernel
theorem dX7_tell_49 : decode cX7_tell 49 = .ok (.iconst 2, 1) := by decide +kernel
theorem dX7_tell_50 : decode cX7_tell 50 = .ok (.invokevirtual 260, 3) := by decide +kernel
theorem dX7_tell_53 : decode cX7_tell 53 = .ok (.aload_n 0, 1) := by decide +kernel
theorem dX7_tell_54 : decode cX7_tell 54 = .ok (.iconst 1, 1) := by decide +kernel
theorem dX7_tell_55 : decode cX7_tell 55 = .ok (.invokevirtual 260, 3) := by decide +kernel
theorem dX7_tell_58 : decode cX7_tell 58 = .ok (.iload_n 2, 1) := by decide +kernel
theorem dX7_tell_59 : decode cX7_tell 59 = .ok (.bipush 10, 2) := by decide +kernel
theorem dX7_tell_61 : decode cX7_tell 61 = .ok (.aload_n 0, 1) := by decide +kernel
theorem dX7_tell_62 : decode cX7_tell 62 = .ok (.getfield 65, 3) := by decide +kernel
theorem dX7_tell_65 : decode cX7_tell 65 = .ok (.iload_n 1, 1) := by decide +kernel
theorem dX7_tell_66 : decode cX7_tell 66 = .ok (.iaload, 1) := by decide +kernel
theorem dX7_tell_67 : decode cX7_tell 67 = .ok (.imul, 1) := by decide +kernel
theorem dX7_tell_68 : decode cX7_tell 68 = .ok (.iadd, 1) := by decide +kernel
theorem dX7_tell_69 : decode cX7_tell 69 = .ok (.ireturn, 1) := by decide +kernel
theorem dX7_tell_70 : decode cX7_tell 70 = .ok (.aload_n 0, 1) := by decide +kernel
theorem dX7_tell_71 : decode cX7_tell 71 = .ok (.iconst 3, 1) := by decide +kernel
theorem dX7_tell_72 : decode cX7_tell 72 = .ok (.invokevirtual 260, 3) := by decide +kernel
theorem dX7_tell_75 : decode cX7_tell 75 = .ok (.aload_n 0, 1) := by decide +kernel
theorem dX7_tell_76 : decode cX7_tell 76 = .ok (.iconst 2, 1) := by decide +kernel
theorem dX7_tell_77 : decode cX7_tell 77 = .ok (.invokevirtual 260, 3) := by decide +kernel
theorem dX7_tell_80 : decode cX7_tell 80 = .ok (.aload_n 0, 1) := by decide +kernel
theorem dX7_tell_81 : decode cX7_tell 81 = .ok (.iconst 1, 1) := by decide +kernel
theorem dX7_tell_82 : decode cX7_tell 82 = .ok (.invokevirtual 260, 3) := by decide +kernel
theorem dX7_tell_85 : decode cX7_tell 85 = .ok (.aload_n 0, 1) := by decide +kernel
theorem dX7_tell_86 : decode cX7_tell 86 = .ok (.iconst 1, 1) := by decide +kernel
theorem dX7_tell_87 : decode cX7_tell 87 = .ok (.invokevirtual 260, 3) := by decide +kernel
theorem dX7_tell_90 : decode cX7_tell 90 = .ok (.iconst 2, 1) := by decide +kernel
theorem dX7_tell_91 : decode cX7_tell 91 = .ok (.iload_n 2, 1) := by decide +kernel
theorem dX7_tell_92 : decode cX7_tell 92 = .ok (.imul, 1) := by decide +kernel
theorem dX7_tell_93 : decode cX7_tell 93 = .ok (.bipush 10, 2) := by decide +kernel
theorem dX7_tell_95 : decode cX7_tell 95 = .ok (.aload_n 0, 1) := by decide +kernel
theorem dX7_tell_96 : decode cX7_tell 96 = .ok (.getfield 65, 3) := by decide +kernel
theorem dX7_tell_99 : decode cX7_tell 99 = .ok (.iload_n 1, 1) := by decide +kernel
theorem dX7_tell_100 : decode cX7_tell 100 = .ok (.iaload, 1) := by decide +kernel
theorem dX7_tell_101 : decode cX7_tell 101 = .ok (.imul, 1) := by decide +kernel
theorem dX7_tell_102 : decode cX7_tell 102 = .ok (.iadd, 1) := by decide +kernel
theorem dX7_tell_103 : decode cX7_tell 103 = .ok (.ireturn, 1) := by decide +kernel
theorem dX7_tell_104 : decode cX7_tell 104 = .ok (.aload_n 0, 1) := by decide +kernel
theorem dX7_tell_105 : decode cX7_tell 105 = .ok (.iconst 1, 1) := by decide +kernel
theorem dX7_tell_106 : decode cX7_tell 106 = .ok (.invokevirtual 260, 3) := by decide +kernel
theorem dX7_tell_109 : decode cX7_tell 109 = .ok (.iload_n 2, 1) := by decide +kernel
theorem dX7_tell_110 : decode cX7_tell 110 = .ok (.ireturn, 1) := by decide +kernel
set_option maxRecDepth 20000 in
theorem ggX7_call_X7_isComer : GoodIn wsX7_call wsX7_isComer := goodIn_r _ [6, 7, 13, 14, 15, 16, 17, 18, 19, 20, 21, 22, 23, 24, 25, 26, 27, 28, 29, 30, 31, 32, 33, 34, 35, 36, 37, 38, 39, 40, 41, 42, 43, 44, 45, 46, 47, 48, 49, 50, 51, 52] (by decide +kernel) (by decide +kernel)
set_option maxRecDepth 20000 in
theorem gX7_call_X7_isComer : GoodIn wsX7_call (wsV RX7 251 RX7 yX7_isComer wsX7_isComer) := goodIn_app (goodIn_of _ (by decide +kernel)) ggX7_call_X7_isComer
set_option maxRecDepth 20000 in
theorem ggX7_call_X7_begins : GoodIn wsX7_call wsX7_begins := goodIn_r _ [11, 12, 13, 14, 15, 16, 17, 18, 19, 20, 21, 22, 23, 24, 25, 26, 27, 28, 29, 30, 31, 32, 33, 34, 35, 36, 37, 38, 39, 40, 41, 42, 43, 44, 45, 46, 47, 48, 49, 50, 51, 52] (by decide +kernel) (by decide +kernel)
set_option maxRecDepth 20000 in
theorem gX7_call_X7_begins : GoodIn wsX7_call (wsV RX7 260 RX7 yX7_begins wsX7_begins) := goodIn_app (goodIn_of _ (by decide +kernel)) ggX7_call_X7_begins
theorem dX7_call_0 : decode cX7_call 0 = .ok (.aload_n 0, 1) := by decide +kernel
theorem dX7_call_1 : decode cX7_call 1 = .ok (.iload_n 1, 1) := by decide +kernel
theorem dX7_call_2 : decode cX7_call 2 = .ok (.invokevirtual 251, 3) := by decide +kernel
theorem dX7_call_5 : decode cX7_call 5 = .ok (.ifCond .ne 5, 3) := by decide +kernel
theorem dX7_call_8 : decode cX7_call 8 = .ok (.iconst (-1), 1) := by decide +kernel
theorem dX7_call_9 : decode cX7_call 9 = .ok (.ireturn, 1) := by decide +kernel
theorem dX7_call_10 : decode cX7_call 10 = .ok (.aload_n 0, 1) := by decide +kernel
theorem dX7_call_11 : decode cX7_call 11 = .ok (.aload_n 0, 1) := by decide +kernel
theorem dX7_call_12 : decode cX7_call 12 = .ok (.getfield 62, 3) := by decide +kernel
theorem dX7_call_15 : decode cX7_call 15 = .ok (.iload_n 1, 1) := by decide +kernel
theorem dX7_call_16 : decode cX7_call 16 = .ok (.iaload, 1) := by decide +kernel
theorem dX7_call_17 : decode cX7_call 17 = .ok (.iconst 2, 1) := by decide +kernel
theorem dX7_call_18 : decode cX7_call 18 = .ok (.if_icmp .ne 7, 3) := by decide +kernel
theorem dX7_call_21 : decode cX7_call 21 = .ok (.iconst 5, 1) := by decide +kernel
theorem dX7_call_22 : decode cX7_call 22 = .ok (.goto 4, 3) := by decide +kernel
theorem dX7_call_25 : decode cX7_call 25 = .ok (.iconst 4, 1) := by decide +kernel
theorem dX7_call_26 : decode cX7_call 26 = .ok (.invokevirtual 260, 3) := by decide +kernel
theorem dX7_call_29 : decode cX7_call 29 = .ok (.aload_n 0, 1) := by decide +kernel
theorem dX7_call_30 : decode cX7_call 30 = .ok (.getfield 62, 3) := by decide +kernel
theorem dX7_call_33 : decode cX7_call 33 = .ok (.iload_n 1, 1) := by decide +kernel
theorem dX7_call_34 : decode cX7_call 34 = .ok (.iaload, 1) := by decide +kernel
theorem dX7_call_35 : decode cX7_call 35 = .ok (.iconst 2, 1) := by decide +kernel
theorem dX7_call_36 : decode cX7_call 36 = .ok (.if_icmp .ne 8, 3) := by decide +kernel
theorem dX7_call_39 : decode cX7_call 39 = .ok (.bipush 90, 2) := by decide +kernel
theorem dX7_call_41 : decode cX7_call 41 = .ok (.goto 4, 3) := by decide +kernel
theorem dX7_call_44 : decode cX7_call 44 = .ok (.iload_n 1, 1) := by decide +kernel
theorem dX7_call_45 : decode cX7_call 45 = .ok (.ireturn, 1) := by decide +kernel
set_option maxRecDepth 20000 in
theorem ggX7_as_X7_isComer : GoodIn wsX7_as wsX7_isComer := goodIn_r _ [7, 8, 16, 17, 18, 19, 20, 21, 22, 23, 24, 25, 26, 27, 28, 29, 30, 31, 32, 33, 34, 35, 36, 37, 38, 39, 40, 41, 42, 43, 44, 45, 46, 47, 48, 49, 50, 51, 52, 53, 54, 55] (by decide +kernel) (by decide +kernel)
set_option maxRecDepth 20000 in
theorem gX7_as_X7_isComer : GoodIn wsX7_as (wsV RX7 251 RX7 yX7_isComer wsX7_isComer) := goodIn_app (goodIn_of _ (by decide +kernel)) ggX7_as_X7_isComer
set_option maxRecDepth 20000 in
theorem ggX7_as_X7_within : GoodIn wsX7_as wsX7_within := goodIn_r _ [11] (by decide +kernel) (by decide +kernel)
set_option maxRecDepth 20000 in
theorem gX7_as_X7_within : GoodIn wsX7_as (va_wsS RX7 94 yX7_within wsX7_within) := goodIn_app (goodIn_of _ (by decide +kernel)) ggX7_as_X7_within
set_option maxRecDepth 20000 in
theorem ggX7_as_X7_fails : GoodIn wsX7_as wsX7_fails := goodIn_r _ [15, 1, 16, 17, 18, 19, 20, 21, 22, 23, 24, 25, 26, 27, 28, 29, 30, 31, 32, 33, 34, 35, 36, 37, 38, 39, 40, 41, 42, 43, 44, 45, 46, 47, 48, 49, 50, 51, 52, 53, 54, 55] (by decide +kernel) (by decide +kernel)
set_option maxRecDepth 20000 in
theorem gX7_as_X7_fails : GoodIn wsX7_as (wsV RX7 135 RX7 yX7_fails wsX7_fails) := goodIn_app (goodIn_of _ (by decide +kernel)) ggX7_as_X7_fails
theorem dX7_as_0 : decode cX7_as 0 = .ok (.aload_n 0, 1) := by decide +kernel
theorem dX7_as_1 : decode cX7_as 1 = .ok (.iconst 0, 1) := by decide +kernel
theorem dX7_as_2 : decode cX7_as 2 = .ok (.putfield 74, 3) := by decide +kernel
theorem dX7_as_5 : decode cX7_as 5 = .ok (.aload_n 0, 1) := by decide +kernel
theorem dX7_as_6 : decode cX7_as 6 = .ok (.iload_n 1, 1) := by decide +kernel
theorem dX7_as_7 : decode cX7_as 7 = .ok (.invokevirtual 251, 3) := by decide +kernel
theorem dX7_as_10 : decode cX7_as 10 = .ok (.ifCond .ne 5, 3) := by decide +kernel
theorem dX7_as_13 : decode cX7_as 13 = .ok (.iconst (-1), 1) := by decide +kernel
theorem dX7_as_14 : decode cX7_as 14 = .ok (.ireturn, 1) := by decide +kernel
theorem dX7_as_15 : decode cX7_as 15 = .ok (.iload_n 2, 1) := by decide +kernel
theorem dX7_as_16 : decode cX7_as 16 = .ok (.iconst 0, 1) := by decide +kernel
theorem dX7_as_17 : decode cX7_as 17 = .ok (.iconst 2, 1) := by decide +kernel
theorem dX7_as_18 : decode cX7_as 18 = .ok (.invokestatic 94, 3) := by decide +kernel
theorem dX7_as_21 : decode cX7_as 21 = .ok (.ifCond .ne 6, 3) := by decide +kernel
theorem dX7_as_24 : decode cX7_as 24 = .ok (.bipush (-2), 2) := by decide +kernel
theorem dX7_as_26 : decode cX7_as 26 = .ok (.ireturn, 1) := by decide +kernel
theorem dX7_as_27 : decode cX7_as 27 = .ok (.aload_n 0, 1) := by decide +kernel
theorem dX7_as_28 : decode cX7_as 28 = .ok (.getfield 62, 3) := by decide +kernel
theorem dX7_as_31 : decode cX7_as 31 = .ok (.iload_n 1, 1) := by decide +kernel
theorem dX7_as_32 : decode cX7_as 32 = .ok (.iaload, 1) := by decide +kernel
theorem dX7_as_33 : decode cX7_as 33 = .ok (.iload_n 2, 1) := by decide +kernel
theorem dX7_as_34 : decode cX7_as 34 = .ok (.if_icmp .lt 7, 3) := by decide +kernel
theorem dX7_as_37 : decode cX7_as 37 = .ok (.iconst 1, 1) := by decide +kernel
theorem dX7_as_38 : decode cX7_as 38 = .ok (.goto 8, 3) := by decide +kernel
theorem dX7_as_41 : decode cX7_as 41 = .ok (.aload_n 0, 1) := by decide +kernel
theorem dX7_as_42 : decode cX7_as 42 = .ok (.iconst 2, 1) := by decide +kernel
theorem dX7_as_43 : decode cX7_as 43 = .ok (.invokevirtual 135, 3) := by decide +kernel
theorem dX7_as_46 : decode cX7_as 46 = .ok (.ireturn, 1) := by decide +kernel
theorem dX7_trace_0 : decode cX7_trace 0 = .ok (.aload_n 0, 1) := by decide +kernel
theorem dX7_trace_1 : decode cX7_trace 1 = .ok (.getfield 257, 3) := by decide +kernel
theorem dX7_trace_4 : decode cX7_trace 4 = .ok (.ireturn, 1) := by decide +kernel
theorem dX7_fault_0 : decode cX7_fault 0 = .ok (.aload_n 0, 1) := by decide +kernel
theorem dX7_fault_1 : decode cX7_fault 1 = .ok (.getfield 74, 3) := by decide +kernel
theorem dX7_fault_4 : decode cX7_fault 4 = .ok (.ireturn, 1) := by decide +kernel
set_option maxRecDepth 20000 in
theorem ggX7_many_X7_standing : GoodIn wsX7_many wsX7_standing := goodIn_r _ [9, 1, 2, 10, 11, 12, 13, 14, 15, 16, 17, 18, 19, 20, 21, 22, 23, 24, 25, 26, 27, 28, 29, 30, 31, 32, 33, 34, 35, 36, 37, 38, 39, 40, 41, 42, 43, 44, 45, 46, 47, 48, 49] (by decide +kernel) (by decide +kernel)
set_option maxRecDepth 20000 in
theorem gX7_many_X7_standing : GoodIn wsX7_many (wsV RX7 248 RX7 yX7_standing wsX7_standing) := goodIn_app (goodIn_of _ (by decide +kernel)) ggX7_many_X7_standing
theorem dX7_many_0 : decode cX7_many 0 = .ok (.iconst 0, 1) := by decide +kernel
theorem dX7_many_1 : decode cX7_many 1 = .ok (.istore_n 2, 1) := by decide +kernel
theorem dX7_many_2 : decode cX7_many 2 = .ok (.iconst 0, 1) := by decide +kernel
theorem dX7_many_3 : decode cX7_many 3 = .ok (.istore_n 3, 1) := by decide +kernel
theorem dX7_many_4 : decode cX7_many 4 = .ok (.iload_n 3, 1) := by decide +kernel
theorem dX7_many_5 : decode cX7_many 5 = .ok (.aload_n 0, 1) := by decide +kernel
theorem dX7_many_6 : decode cX7_many 6 = .ok (.getfield 164, 3) := by decide +kernel
theorem dX7_many_9 : decode cX7_many 9 = .ok (.if_icmp .ge 27, 3) := by decide +kernel
theorem dX7_many_12 : decode cX7_many 12 = .ok (.iload_n 2, 1) := by decide +kernel
theorem dX7_many_13 : decode cX7_many 13 = .ok (.aload_n 0, 1) := by decide +kernel
theorem dX7_many_14 : decode cX7_many 14 = .ok (.getfield 62, 3) := by decide +kernel
theorem dX7_many_17 : decode cX7_many 17 = .ok (.iload_n 3, 1) := by decide +kernel
theorem dX7_many_18 : decode cX7_many 18 = .ok (.iaload, 1) := by decide +kernel
theorem dX7_many_19 : decode cX7_many 19 = .ok (.iconst 2, 1) := by decide +kernel
theorem dX7_many_20 : decode cX7_many 20 = .ok (.if_icmp .ne 7, 3) := by decide +kernel
theorem dX7_many_23 : decode cX7_many 23 = .ok (.iconst 1, 1) := by decide +kernel
theorem dX7_many_24 : decode cX7_many 24 = .ok (.goto 4, 3) := by decide +kernel
theorem dX7_many_27 : decode cX7_many 27 = .ok (.iconst 0, 1) := by decide +kernel
theorem dX7_many_28 : decode cX7_many 28 = .ok (.iadd, 1) := by decide +kernel
theorem dX7_many_29 : decode cX7_many 29 = .ok (.istore_n 2, 1) := by decide +kernel
theorem dX7_many_30 : decode cX7_many 30 = .ok (.iinc 3 1, 3) := by decide +kernel
theorem dX7_many_33 : decode cX7_many 33 = .ok (.goto (-29), 3) := by decide +kernel
theorem dX7_many_36 : decode cX7_many 36 = .ok (.iload_n 1, 1) := by decide +kernel
theorem dX7_many_37 : decode cX7_many 37 = .ok (.tableswitch 57 0 4 #[35, 40, 45, 50, 52], 35) := by decide +kernel
theorem dX7_many_72 : decode cX7_many 72 = .ok (.aload_n 0, 1) := by decide +kernel
theorem dX7_many_73 : decode cX7_many 73 = .ok (.getfield 152, 3) := by decide +kernel
theorem dX7_many_76 : decode cX7_many 76 = .ok (.ireturn, 1) := by decide +kernel
theorem dX7_many_77 : decode cX7_many 77 = .ok (.aload_n 0, 1) := by decide +kernel
theorem dX7_many_78 : decode cX7_many 78 = .ok (.getfield 164, 3) := by decide +kernel
theorem dX7_many_81 : decode cX7_many 81 = .ok (.ireturn, 1) := by decide +kernel
theorem dX7_many_82 : decode cX7_many 82 = .ok (.aload_n 0, 1) := by decide +kernel
theorem dX7_many_83 : decode cX7_many 83 = .ok (.invokevirtual 248, 3) := by decide +kernel
theorem dX7_many_86 : decode cX7_many 86 = .ok (.ireturn, 1) := by decide +kernel
theorem dX7_many_87 : decode cX7_many 87 = .ok (.iload_n 2, 1) := by decide +kernel
theorem dX7_many_88 : decode cX7_many 88 = .ok (.ireturn, 1) := by decide +kernel
theorem dX7_many_89 : decode cX7_many 89 = .ok (.aload_n 0, 1) := by decide +kernel
theorem dX7_many_90 : decode cX7_many 90 = .ok (.getfield 167, 3) := by decide +kernel
theorem dX7_many_93 : decode cX7_many 93 = .ok (.ireturn, 1) := by decide +kernel
theorem dX7_many_94 : decode cX7_many 94 = .ok (.bipush (-2), 2) := by decide +kernel
theorem dX7_many_96 : decode cX7_many 96 = .ok (.ireturn, 1) := by decide +kernel
theorem dJ9_floorDiv_f86c9_0 : decode cJ9_floorDiv_f86c9 0 = .ok (.lload_n 0, 1) := by decide +kernel
theorem dJ9_floorDiv_f86c9_1 : decode cJ9_floorDiv_f86c9 1 = .ok (.lload_n 2, 1) := by decide +kernel
theorem dJ9_floorDiv_f86c9_2 : decode cJ9_floorDiv_f86c9 2 = .ok (.ldiv, 1) := by decide +kernel
theorem dJ9_floorDiv_f86c9_3 : decode cJ9_floorDiv_f86c9 3 = .ok (.lstore 4, 2) := by decide +kernel
theorem dJ9_floorDiv_f86c9_5 : decode cJ9_floorDiv_f86c9 5 = .ok (.lload_n 0, 1) := by decide +kernel
theorem dJ9_floorDiv_f86c9_6 : decode cJ9_floorDiv_f86c9 6 = .ok (.lload_n 2, 1) := by decide +kernel
theorem dJ9_floorDiv_f86c9_7 : decode cJ9_floorDiv_f86c9 7 = .ok (.lxor, 1) := by decide +kernel
theorem dJ9_floorDiv_f86c9_8 : decode cJ9_floorDiv_f86c9 8 = .ok (.lconst 0, 1) := by decide +kernel
theorem dJ9_floorDiv_f86c9_9 : decode cJ9_floorDiv_f86c9 9 = .ok (.lcmp, 1) := by decide +kernel
theorem dJ9_floorDiv_f86c9_10 : decode cJ9_floorDiv_f86c9 10 = .ok (.ifCond .ge 17, 3) := by decide +kernel
theorem dJ9_floorDiv_f86c9_13 : decode cJ9_floorDiv_f86c9 13 = .ok (.lload 4, 2) := by decide +kernel
theorem dJ9_floorDiv_f86c9_15 : decode cJ9_floorDiv_f86c9 15 = .ok (.lload_n 2, 1) := by decide +kernel
theorem dJ9_floorDiv_f86c9_16 : decode cJ9_floorDiv_f86c9 16 = .ok (.lmul, 1) := by decide +kernel
theorem dJ9_floorDiv_f86c9_17 : decode cJ9_floorDiv_f86c9 17 = .ok (.lload_n 0, 1) := by decide +kernel
theorem dJ9_floorDiv_f86c9_18 : decode cJ9_floorDiv_f86c9 18 = .ok (.lcmp, 1) := by decide +kernel
theorem dJ9_floorDiv_f86c9_19 : decode cJ9_floorDiv_f86c9 19 = .ok (.ifCond .eq 8, 3) := by decide +kernel
theorem dJ9_floorDiv_f86c9_22 : decode cJ9_floorDiv_f86c9 22 = .ok (.lload 4, 2) := by decide +kernel
theorem dJ9_floorDiv_f86c9_24 : decode cJ9_floorDiv_f86c9 24 = .ok (.lconst 1, 1) := by decide +kernel
theorem dJ9_floorDiv_f86c9_25 : decode cJ9_floorDiv_f86c9 25 = .ok (.lsub, 1) := by decide +kernel
theorem dJ9_floorDiv_f86c9_26 : decode cJ9_floorDiv_f86c9 26 = .ok (.lreturn, 1) := by decide +kernel
theorem dJ9_floorDiv_f86c9_27 : decode cJ9_floorDiv_f86c9 27 = .ok (.lload 4, 2) := by decide +kernel
theorem dJ9_floorDiv_f86c9_29 : decode cJ9_floorDiv_f86c9 29 = .ok (.lreturn, 1) := by decide +kernel
theorem dJ9_abs_067f4_0 : decode cJ9_abs_067f4 0 = .ok (.lload_n 0, 1) := by decide +kernel
theorem dJ9_abs_067f4_1 : decode cJ9_abs_067f4 1 = .ok (.lconst 0, 1) := by decide +kernel
theorem dJ9_abs_067f4_2 : decode cJ9_abs_067f4 2 = .ok (.lcmp, 1) := by decide +kernel
theorem dJ9_abs_067f4_3 : decode cJ9_abs_067f4 3 = .ok (.ifCond .ge 8, 3) := by decide +kernel
theorem dJ9_abs_067f4_6 : decode cJ9_abs_067f4 6 = .ok (.lload_n 0, 1) := by decide +kernel
theorem dJ9_abs_067f4_7 : decode cJ9_abs_067f4 7 = .ok (.lneg, 1) := by decide +kernel
theorem dJ9_abs_067f4_8 : decode cJ9_abs_067f4 8 = .ok (.goto 4, 3) := by decide +kernel
theorem dJ9_abs_067f4_11 : decode cJ9_abs_067f4 11 = .ok (.lload_n 0, 1) := by decide +kernel
theorem dJ9_abs_067f4_12 : decode cJ9_abs_067f4 12 = .ok (.lreturn, 1) := by decide +kernel
theorem dJ9_max_7cf53_0 : decode cJ9_max_7cf53 0 = .ok (.iload_n 0, 1) := by decide +kernel
theorem dJ9_max_7cf53_1 : decode cJ9_max_7cf53 1 = .ok (.iload_n 1, 1) := by decide +kernel
theorem dJ9_max_7cf53_2 : decode cJ9_max_7cf53 2 = .ok (.if_icmp .lt 7, 3) := by decide +kernel
theorem dJ9_max_7cf53_5 : decode cJ9_max_7cf53 5 = .ok (.iload_n 0, 1) := by decide +kernel
theorem dJ9_max_7cf53_6 : decode cJ9_max_7cf53 6 = .ok (.goto 4, 3) := by decide +kernel
theorem dJ9_max_7cf53_9 : decode cJ9_max_7cf53 9 = .ok (.iload_n 1, 1) := by decide +kernel
theorem dJ9_max_7cf53_10 : decode cJ9_max_7cf53 10 = .ok (.ireturn, 1) := by decide +kernel
abbrev vwCl : List vw_C := [(RX0, TX0, 6), (RX1, TX1, 7), (RX2, TX2, 10), (RX3, TX3, 9), (RX4, TX4, 3), (RX5, TX5, 11), (RX6, TX6, 9), (RX7, TX7, 40)]
end
section
/-! the registers of the one world (both systems): ints, longs, rows of ints, rows of longs -/
abbrev Mm : Type := (Nat → Int32) × (Nat → Int64) × (Nat → Nat → Int32) × (Nat → Nat → Int64)
def gi (M : Mm) (k : Nat) : Int32 := M.1 k
def gj (M : Mm) (k : Nat) : Int64 := M.2.1 k
def ga (M : Mm) (k : Nat) : Nat → Int32 := M.2.2.1 k
def gb (M : Mm) (k : Nat) : Nat → Int64 := M.2.2.2 k
def si (M : Mm) (k : Nat) (v : Int32) : Mm := (fun j => if j = k then v else M.1 j, M.2)
def sj (M : Mm) (k : Nat) (v : Int64) : Mm := (M.1, fun j => if j = k then v else M.2.1 j, M.2.2)
def sa (M : Mm) (k : Nat) (f : Nat → Int32) : Mm := (M.1, M.2.1, fun j => if j = k then f else M.2.2.1 j, M.2.2.2)
def sb (M : Mm) (k : Nat) (f : Nat → Int64) : Mm := (M.1, M.2.1, M.2.2.1, fun j => if j = k then f else M.2.2.2 j)
theorem gi_si (M : Mm) (k j : Nat) (v : Int32) : gi (si M k v) j = if j = k then v else gi M j := rfl
theorem gi_sj (M : Mm) (k j : Nat) (v : Int64) : gi (sj M k v) j = gi M j := rfl
theorem gi_sa (M : Mm) (k j : Nat) (f : Nat → Int32) : gi (sa M k f) j = gi M j := rfl
theorem gi_sb (M : Mm) (k j : Nat) (f : Nat → Int64) : gi (sb M k f) j = gi M j := rfl
theorem gj_si (M : Mm) (k j : Nat) (v : Int32) : gj (si M k v) j = gj M j := rfl
theorem gj_sj (M : Mm) (k j : Nat) (v : Int64) : gj (sj M k v) j = if j = k then v else gj M j := rfl
theorem gj_sa (M : Mm) (k j : Nat) (f : Nat → Int32) : gj (sa M k f) j = gj M j := rfl
theorem gj_sb (M : Mm) (k j : Nat) (f : Nat → Int64) : gj (sb M k f) j = gj M j := rfl
theorem ga_si (M : Mm) (k j : Nat) (v : Int32) : ga (si M k v) j = ga M j := rfl
theorem ga_sj (M : Mm) (k j : Nat) (v : Int64) : ga (sj M k v) j = ga M j := rfl
theorem ga_sa (M : Mm) (k j : Nat) (f : Nat → Int32) : ga (sa M k f) j = if j = k then f else ga M j := rfl
theorem ga_sb (M : Mm) (k j : Nat) (f : Nat → Int64) : ga (sb M k f) j = ga M j := rfl
theorem gb_si (M : Mm) (k j : Nat) (v : Int32) : gb (si M k v) j = gb M j := rfl
theorem gb_sj (M : Mm) (k j : Nat) (v : Int64) : gb (sj M k v) j = gb M j := rfl
theorem gb_sa (M : Mm) (k j : Nat) (f : Nat → Int32) : gb (sa M k f) j = gb M j := rfl
theorem gb_sb (M : Mm) (k j : Nat) (f : Nat → Int64) : gb (sb M k f) j = if j = k then f else gb M j := rfl
def updJ (f : Nat → Int64) (k : Nat) (x : Int64) : Nat → Int64 := fun j => if j = k then x else f j
/-- kinds of the cells: 0 an object, 1 a row of ints, 2 a row of longs; and the rows' lengths -/
def kdL : List Nat := [0, 0, 0, 0, 0, 0, 0, 0, 1, 1, 1, 1, 1, 1, 1, 1, 1, 2, 2, 2, 1, 2, 2, 2, 1, 1, 1, 1, 1, 1, 1, 1, 0, 1, 1, 1, 1, 1, 1, 1, 1, 1, 2, 2, 2, 2, 2, 1, 1, 1, 1, 1, 1, 1]
def lnL : List Nat := [0, 0, 0, 0, 0, 0, 0, 0, 4, 4, 240, 3, 3, 3, 3, 3, 6, 6, 6, 6, 6, 6, 6, 6, 3, 3, 40, 40, 40, 40, 40, 5, 0, 4, 4, 240, 3, 3, 3, 3, 3, 8, 8, 8, 8, 8, 8, 3, 3, 40, 40, 40, 40, 40]
def isA (k : Nat) : Bool := kdL.getD k 0 == 1
def isB (k : Nat) : Bool := kdL.getD k 0 == 2
def lenA (k : Nat) : Nat := lnL.getD k 0
def oR (ad : Nat → Nat) (M : Mm) : List Value := [.ref (ad 1), .ref (ad 2), .ref (ad 3), .ref (ad 4), .ref (ad 5), .ref (ad 6), .int (gi M 0), .int (gi M 1), .int (gi M 2)]
def oS (ad : Nat → Nat) (M : Mm) : List Value := [.ref (ad 8), .ref (ad 9), .ref (ad 10)]
def oT (ad : Nat → Nat) (M : Mm) : List Value := [.ref (ad 11), .ref (ad 12), .ref (ad 1), .int (gi M 3), .int (gi M 4), .int (gi M 5), .int (gi M 6), .int (gi M 7), .int (gi M 8), .int (gi M 9), .int (gi M 10)]
def oP (ad : Nat → Nat) (M : Mm) : List Value := [.ref (ad 13), .ref (ad 14), .ref (ad 15), .int (gi M 11), .int (gi M 12), .int (gi M 13), .int (gi M 14), .int (gi M 15), .int (gi M 16), .int (gi M 17)]
def oL (o : Nat) (ad : Nat → Nat) (M : Mm) : List Value := [.ref (ad (16+4*o)), .ref (ad (17+4*o)), .ref (ad (18+4*o)), .ref (ad (19+4*o)), .int (gi M (18+2*o)), .int (gi M (19+2*o)), .long (gj M o)]
def oG (ad : Nat → Nat) (M : Mm) : List Value := [.ref (ad 7), .ref (ad 24), .ref (ad 25), .int (gi M 22), .long (gj M 2), .long (gj M 3)]
def oQ (ad : Nat → Nat) (M : Mm) : List Value := [.ref (ad 26), .ref (ad 27), .ref (ad 28), .ref (ad 29), .ref (ad 30), .ref (ad 31), .int (gi M 23), .int (gi M 24), .int (gi M 25)]
def oM (ad : Nat → Nat) (M : Mm) : List Value := [.int (gi M 26), .int (gi M 27), .long (gj M 4), .long (gj M 5), .ref (ad 33), .ref (ad 34), .ref (ad 35), .int (gi M 28), .int (gi M 29), .int (gi M 30), .int (gi M 31), .ref (ad 36), .ref (ad 37), .ref (ad 38), .int (gi M 32), .int (gi M 33), .int (gi M 34), .int (gi M 35), .int (gi M 36), .int (gi M 37), .int (gi M 38), .int (gi M 39), .ref (ad 39), .ref (ad 40), .ref (ad 41), .ref (ad 42), .ref (ad 43), .ref (ad 44), .ref (ad 45), .ref (ad 46), .ref (ad 47), .ref (ad 48), .int (gi M 40), .int (gi M 41), .int (gi M 42), .ref (ad 49), .ref (ad 50), .ref (ad 51), .ref (ad 52), .ref (ad 53)]
/-- the whole world: its cells, by their places -/
def enc (cI cJ : ClassId) (ad : Nat → Nat) (M : Mm) : va_W := [(ad 0, .inr (6, oR ad M)), (ad 1, .inr (4, oS ad M)), (ad 2, .inr (5, oT ad M)), (ad 3, .inr (2, oP ad M)), (ad 4, .inr (1, oL 0 ad M)), (ad 5, .inr (0, oG ad M)), (ad 6, .inr (3, oQ ad M)), (ad 7, .inr (1, oL 1 ad M)), (ad 8, .inl (cI, 4, .inl (ga M 8))), (ad 9, .inl (cI, 4, .inl (ga M 9))), (ad 10, .inl (cI, 240, .inl (ga M 10))), (ad 11, .inl (cI, 3, .inl (ga M 11))), (ad 12, .inl (cI, 3, .inl (ga M 12))), (ad 13, .inl (cI, 3, .inl (ga M 13))), (ad 14, .inl (cI, 3, .inl (ga M 14))), (ad 15, .inl (cI, 3, .inl (ga M 15))), (ad 16, .inl (cI, 6, .inl (ga M 16))), (ad 17, .inl (cJ, 6, .inr (.inl (gb M 17)))), (ad 18, .inl (cJ, 6, .inr (.inl (gb M 18)))), (ad 19, .inl (cJ, 6, .inr (.inl (gb M 19)))), (ad 20, .inl (cI, 6, .inl (ga M 20))), (ad 21, .inl (cJ, 6, .inr (.inl (gb M 21)))), (ad 22, .inl (cJ, 6, .inr (.inl (gb M 22)))), (ad 23, .inl (cJ, 6, .inr (.inl (gb M 23)))), (ad 24, .inl (cI, 3, .inl (ga M 24))), (ad 25, .inl (cI, 3, .inl (ga M 25))), (ad 26, .inl (cI, 40, .inl (ga M 26))), (ad 27, .inl (cI, 40, .inl (ga M 27))), (ad 28, .inl (cI, 40, .inl (ga M 28))), (ad 29, .inl (cI, 40, .inl (ga M 29))), (ad 30, .inl (cI, 40, .inl (ga M 30))), (ad 31, .inl (cI, 5, .inl (ga M 31))), (ad 32, .inr (7, oM ad M)), (ad 33, .inl (cI, 4, .inl (ga M 33))), (ad 34, .inl (cI, 4, .inl (ga M 34))), (ad 35, .inl (cI, 240, .inl (ga M 35))), (ad 36, .inl (cI, 3, .inl (ga M 36))), (ad 37, .inl (cI, 3, .inl (ga M 37))), (ad 38, .inl (cI, 3, .inl (ga M 38))), (ad 39, .inl (cI, 3, .inl (ga M 39))), (ad 40, .inl (cI, 3, .inl (ga M 40))), (ad 41, .inl (cI, 8, .inl (ga M 41))), (ad 42, .inl (cJ, 8, .inr (.inl (gb M 42)))), (ad 43, .inl (cJ, 8, .inr (.inl (gb M 43)))), (ad 44, .inl (cJ, 8, .inr (.inl (gb M 44)))), (ad 45, .inl (cJ, 8, .inr (.inl (gb M 45)))), (ad 46, .inl (cJ, 8, .inr (.inl (gb M 46)))), (ad 47, .inl (cI, 3, .inl (ga M 47))), (ad 48, .inl (cI, 3, .inl (ga M 48))), (ad 49, .inl (cI, 40, .inl (ga M 49))), (ad 50, .inl (cI, 40, .inl (ga M 50))), (ad 51, .inl (cI, 40, .inl (ga M 51))), (ad 52, .inl (cI, 40, .inl (ga M 52))), (ad 53, .inl (cI, 40, .inl (ga M 53)))]
def Fr (ad : Nat → Nat) : Nat → Prop := fun q => ∃ k, k < 54 ∧ q = ad k
def inj54 (ad : Nat → Nat) : Prop := ∀ i j, i < 54 → j < 54 → ad i = ad j → i = j
theorem enc_fst {cI cJ : ClassId} {ad : Nat → Nat} {M : Mm} {k : Nat} {q : Nat × va_E} (h : (enc cI cJ ad M)[k]? = some q) : k < 54 ∧ q.1 = ad k := by
  have e : (enc cI cJ ad M).map Prod.fst = (List.range 54).map ad := rfl
  have h1 : ((enc cI cJ ad M).map Prod.fst)[k]? = some q.1 := by rw [List.getElem?_map, h]; rfl
  rw [e, List.getElem?_map] at h1
  by_cases hk : k < 54
  · rw [List.getElem?_range hk] at h1
    exact ⟨hk, (Option.some.inj h1).symm⟩
  · rw [List.getElem?_eq_none (by simp; omega)] at h1
    cases h1
theorem enc_D {cI cJ : ClassId} {ad : Nat → Nat} (had : inj54 ad) (M : Mm) : va_D (Fr ad) (enc cI cJ ad M) := by
  refine ⟨fun i j p q hp hq h => ?_, fun k q hq => ?_⟩
  · obtain ⟨h1, h2⟩ := enc_fst hp
    obtain ⟨h3, h4⟩ := enc_fst hq
    exact had i j h1 h3 (by rw [← h2, ← h4]; exact h)
  · obtain ⟨h1, h2⟩ := enc_fst hq
    exact ⟨k, h1, h2⟩
theorem e_R {cI cJ : ClassId} {ad : Nat → Nat} {M : Mm} : (enc cI cJ ad M)[0]? = some (ad 0, .inr (6, oR ad M)) := rfl
theorem f_R_sheets {ad : Nat → Nat} {M : Mm} : (oR ad M)[0]? = some (.ref (ad 1)) := rfl
theorem f_R_text {ad : Nat → Nat} {M : Mm} : (oR ad M)[1]? = some (.ref (ad 2)) := rfl
theorem f_R_here {ad : Nat → Nat} {M : Mm} : (oR ad M)[2]? = some (.ref (ad 3)) := rfl
theorem f_R_lengths {ad : Nat → Nat} {M : Mm} : (oR ad M)[3]? = some (.ref (ad 4)) := rfl
theorem f_R_gains {ad : Nat → Nat} {M : Mm} : (oR ad M)[4]? = some (.ref (ad 5)) := rfl
theorem f_R_queue {ad : Nat → Nat} {M : Mm} : (oR ad M)[5]? = some (.ref (ad 6)) := rfl
theorem f_R_orderNow {ad : Nat → Nat} {M : Mm} : (oR ad M)[6]? = some (.int (gi M 0)) := rfl
theorem f_R_traceNow {ad : Nat → Nat} {M : Mm} : (oR ad M)[7]? = some (.int (gi M 1)) := rfl
theorem f_R_faultNow {ad : Nat → Nat} {M : Mm} : (oR ad M)[8]? = some (.int (gi M 2)) := rfl
theorem len_R {ad : Nat → Nat} {M : Mm} : (oR ad M).length = 9 := rfl
theorem s_R_orderNow {cI cJ : ClassId} {ad : Nat → Nat} {M : Mm} {v : Int32} : (enc cI cJ ad M).set 0 (ad 0, .inr (6, (oR ad M).set 6 (.int v))) = enc cI cJ ad (si M 0 v) := rfl
theorem s_R_traceNow {cI cJ : ClassId} {ad : Nat → Nat} {M : Mm} {v : Int32} : (enc cI cJ ad M).set 0 (ad 0, .inr (6, (oR ad M).set 7 (.int v))) = enc cI cJ ad (si M 1 v) := rfl
theorem s_R_faultNow {cI cJ : ClassId} {ad : Nat → Nat} {M : Mm} {v : Int32} : (enc cI cJ ad M).set 0 (ad 0, .inr (6, (oR ad M).set 8 (.int v))) = enc cI cJ ad (si M 2 v) := rfl
theorem e_S {cI cJ : ClassId} {ad : Nat → Nat} {M : Mm} : (enc cI cJ ad M)[1]? = some (ad 1, .inr (4, oS ad M)) := rfl
theorem f_S_lanes {ad : Nat → Nat} {M : Mm} : (oS ad M)[0]? = some (.ref (ad 8)) := rfl
theorem f_S_sizes {ad : Nat → Nat} {M : Mm} : (oS ad M)[1]? = some (.ref (ad 9)) := rfl
theorem f_S_cells {ad : Nat → Nat} {M : Mm} : (oS ad M)[2]? = some (.ref (ad 10)) := rfl
theorem len_S {ad : Nat → Nat} {M : Mm} : (oS ad M).length = 3 := rfl
theorem e_T {cI cJ : ClassId} {ad : Nat → Nat} {M : Mm} : (enc cI cJ ad M)[2]? = some (ad 2, .inr (5, oT ad M)) := rfl
theorem f_T_twelfths {ad : Nat → Nat} {M : Mm} : (oT ad M)[0]? = some (.ref (ad 11)) := rfl
theorem f_T_worths {ad : Nat → Nat} {M : Mm} : (oT ad M)[1]? = some (.ref (ad 12)) := rfl
theorem f_T_sheets {ad : Nat → Nat} {M : Mm} : (oT ad M)[2]? = some (.ref (ad 1)) := rfl
theorem f_T_start {ad : Nat → Nat} {M : Mm} : (oT ad M)[3]? = some (.int (gi M 3)) := rfl
theorem f_T_codes {ad : Nat → Nat} {M : Mm} : (oT ad M)[4]? = some (.int (gi M 4)) := rfl
theorem f_T_next {ad : Nat → Nat} {M : Mm} : (oT ad M)[5]? = some (.int (gi M 5)) := rfl
theorem f_T_number {ad : Nat → Nat} {M : Mm} : (oT ad M)[6]? = some (.int (gi M 6)) := rfl
theorem f_T_served {ad : Nat → Nat} {M : Mm} : (oT ad M)[7]? = some (.int (gi M 7)) := rfl
theorem f_T_cost {ad : Nat → Nat} {M : Mm} : (oT ad M)[8]? = some (.int (gi M 8)) := rfl
theorem f_T_sorts {ad : Nat → Nat} {M : Mm} : (oT ad M)[9]? = some (.int (gi M 9)) := rfl
theorem f_T_left {ad : Nat → Nat} {M : Mm} : (oT ad M)[10]? = some (.int (gi M 10)) := rfl
theorem len_T {ad : Nat → Nat} {M : Mm} : (oT ad M).length = 11 := rfl
theorem s_T_start {cI cJ : ClassId} {ad : Nat → Nat} {M : Mm} {v : Int32} : (enc cI cJ ad M).set 2 (ad 2, .inr (5, (oT ad M).set 3 (.int v))) = enc cI cJ ad (si M 3 v) := rfl
theorem s_T_codes {cI cJ : ClassId} {ad : Nat → Nat} {M : Mm} {v : Int32} : (enc cI cJ ad M).set 2 (ad 2, .inr (5, (oT ad M).set 4 (.int v))) = enc cI cJ ad (si M 4 v) := rfl
theorem s_T_next {cI cJ : ClassId} {ad : Nat → Nat} {M : Mm} {v : Int32} : (enc cI cJ ad M).set 2 (ad 2, .inr (5, (oT ad M).set 5 (.int v))) = enc cI cJ ad (si M 5 v) := rfl
theorem s_T_number {cI cJ : ClassId} {ad : Nat → Nat} {M : Mm} {v : Int32} : (enc cI cJ ad M).set 2 (ad 2, .inr (5, (oT ad M).set 6 (.int v))) = enc cI cJ ad (si M 6 v) := rfl
theorem s_T_served {cI cJ : ClassId} {ad : Nat → Nat} {M : Mm} {v : Int32} : (enc cI cJ ad M).set 2 (ad 2, .inr (5, (oT ad M).set 7 (.int v))) = enc cI cJ ad (si M 7 v) := rfl
theorem s_T_cost {cI cJ : ClassId} {ad : Nat → Nat} {M : Mm} {v : Int32} : (enc cI cJ ad M).set 2 (ad 2, .inr (5, (oT ad M).set 8 (.int v))) = enc cI cJ ad (si M 8 v) := rfl
theorem s_T_sorts {cI cJ : ClassId} {ad : Nat → Nat} {M : Mm} {v : Int32} : (enc cI cJ ad M).set 2 (ad 2, .inr (5, (oT ad M).set 9 (.int v))) = enc cI cJ ad (si M 9 v) := rfl
theorem s_T_left {cI cJ : ClassId} {ad : Nat → Nat} {M : Mm} {v : Int32} : (enc cI cJ ad M).set 2 (ad 2, .inr (5, (oT ad M).set 10 (.int v))) = enc cI cJ ad (si M 10 v) := rfl
theorem e_P {cI cJ : ClassId} {ad : Nat → Nat} {M : Mm} : (enc cI cJ ad M)[3]? = some (ad 3, .inr (2, oP ad M)) := rfl
theorem f_P_twelfths {ad : Nat → Nat} {M : Mm} : (oP ad M)[0]? = some (.ref (ad 13)) := rfl
theorem f_P_worths {ad : Nat → Nat} {M : Mm} : (oP ad M)[1]? = some (.ref (ad 14)) := rfl
theorem f_P_bars {ad : Nat → Nat} {M : Mm} : (oP ad M)[2]? = some (.ref (ad 15)) := rfl
theorem f_P_isTold {ad : Nat → Nat} {M : Mm} : (oP ad M)[3]? = some (.int (gi M 11)) := rfl
theorem f_P_served {ad : Nat → Nat} {M : Mm} : (oP ad M)[4]? = some (.int (gi M 12)) := rfl
theorem f_P_cost {ad : Nat → Nat} {M : Mm} : (oP ad M)[5]? = some (.int (gi M 13)) := rfl
theorem f_P_sorts {ad : Nat → Nat} {M : Mm} : (oP ad M)[6]? = some (.int (gi M 14)) := rfl
theorem f_P_toll {ad : Nat → Nat} {M : Mm} : (oP ad M)[7]? = some (.int (gi M 15)) := rfl
theorem f_P_step {ad : Nat → Nat} {M : Mm} : (oP ad M)[8]? = some (.int (gi M 16)) := rfl
theorem f_P_lie {ad : Nat → Nat} {M : Mm} : (oP ad M)[9]? = some (.int (gi M 17)) := rfl
theorem len_P {ad : Nat → Nat} {M : Mm} : (oP ad M).length = 10 := rfl
theorem s_P_isTold {cI cJ : ClassId} {ad : Nat → Nat} {M : Mm} {v : Int32} : (enc cI cJ ad M).set 3 (ad 3, .inr (2, (oP ad M).set 3 (.int v))) = enc cI cJ ad (si M 11 v) := rfl
theorem s_P_served {cI cJ : ClassId} {ad : Nat → Nat} {M : Mm} {v : Int32} : (enc cI cJ ad M).set 3 (ad 3, .inr (2, (oP ad M).set 4 (.int v))) = enc cI cJ ad (si M 12 v) := rfl
theorem s_P_cost {cI cJ : ClassId} {ad : Nat → Nat} {M : Mm} {v : Int32} : (enc cI cJ ad M).set 3 (ad 3, .inr (2, (oP ad M).set 5 (.int v))) = enc cI cJ ad (si M 13 v) := rfl
theorem s_P_sorts {cI cJ : ClassId} {ad : Nat → Nat} {M : Mm} {v : Int32} : (enc cI cJ ad M).set 3 (ad 3, .inr (2, (oP ad M).set 6 (.int v))) = enc cI cJ ad (si M 14 v) := rfl
theorem s_P_toll {cI cJ : ClassId} {ad : Nat → Nat} {M : Mm} {v : Int32} : (enc cI cJ ad M).set 3 (ad 3, .inr (2, (oP ad M).set 7 (.int v))) = enc cI cJ ad (si M 15 v) := rfl
theorem s_P_step {cI cJ : ClassId} {ad : Nat → Nat} {M : Mm} {v : Int32} : (enc cI cJ ad M).set 3 (ad 3, .inr (2, (oP ad M).set 8 (.int v))) = enc cI cJ ad (si M 16 v) := rfl
theorem s_P_lie {cI cJ : ClassId} {ad : Nat → Nat} {M : Mm} {v : Int32} : (enc cI cJ ad M).set 3 (ad 3, .inr (2, (oP ad M).set 9 (.int v))) = enc cI cJ ad (si M 17 v) := rfl
theorem e_L {cI cJ : ClassId} {ad : Nat → Nat} {M : Mm} {o : Nat} (ho : o < 2) : (enc cI cJ ad M)[4+3*o]? = some (ad (4+3*o), .inr (1, oL o ad M)) := by
  match o, ho with
  | 0, _ => rfl
  | 1, _ => rfl
theorem f_L_joining {ad : Nat → Nat} {M : Mm} {o : Nat} : (oL o ad M)[0]? = some (.ref (ad (16+4*o))) := rfl
theorem f_L_weights {ad : Nat → Nat} {M : Mm} {o : Nat} : (oL o ad M)[1]? = some (.ref (ad (17+4*o))) := rfl
theorem f_L_now {ad : Nat → Nat} {M : Mm} {o : Nat} : (oL o ad M)[2]? = some (.ref (ad (18+4*o))) := rfl
theorem f_L_then {ad : Nat → Nat} {M : Mm} {o : Nat} : (oL o ad M)[3]? = some (.ref (ad (19+4*o))) := rfl
theorem f_L_served {ad : Nat → Nat} {M : Mm} {o : Nat} : (oL o ad M)[4]? = some (.int (gi M (18+2*o))) := rfl
theorem f_L_whole {ad : Nat → Nat} {M : Mm} {o : Nat} : (oL o ad M)[5]? = some (.int (gi M (19+2*o))) := rfl
theorem f_L_total {ad : Nat → Nat} {M : Mm} {o : Nat} : (oL o ad M)[6]? = some (.long (gj M o)) := rfl
theorem len_L {ad : Nat → Nat} {M : Mm} {o : Nat} : (oL o ad M).length = 7 := rfl
theorem s_L_served {cI cJ : ClassId} {ad : Nat → Nat} {M : Mm} {v : Int32} {o : Nat} (ho : o < 2) : (enc cI cJ ad M).set (4+3*o) (ad (4+3*o), .inr (1, (oL o ad M).set 4 (.int v))) = enc cI cJ ad (si M (18+2*o) v) := by
  match o, ho with
  | 0, _ => rfl
  | 1, _ => rfl
theorem s_L_whole {cI cJ : ClassId} {ad : Nat → Nat} {M : Mm} {v : Int32} {o : Nat} (ho : o < 2) : (enc cI cJ ad M).set (4+3*o) (ad (4+3*o), .inr (1, (oL o ad M).set 5 (.int v))) = enc cI cJ ad (si M (19+2*o) v) := by
  match o, ho with
  | 0, _ => rfl
  | 1, _ => rfl
theorem s_L_total {cI cJ : ClassId} {ad : Nat → Nat} {M : Mm} {v : Int64} {o : Nat} (ho : o < 2) : (enc cI cJ ad M).set (4+3*o) (ad (4+3*o), .inr (1, (oL o ad M).set 6 (.long v))) = enc cI cJ ad (sj M o v) := by
  match o, ho with
  | 0, _ => rfl
  | 1, _ => rfl
theorem e_G {cI cJ : ClassId} {ad : Nat → Nat} {M : Mm} : (enc cI cJ ad M)[5]? = some (ad 5, .inr (0, oG ad M)) := rfl
theorem f_G_lengths {ad : Nat → Nat} {M : Mm} : (oG ad M)[0]? = some (.ref (ad 7)) := rfl
theorem f_G_row {ad : Nat → Nat} {M : Mm} : (oG ad M)[1]? = some (.ref (ad 24)) := rfl
theorem f_G_bestRow {ad : Nat → Nat} {M : Mm} : (oG ad M)[2]? = some (.ref (ad 25)) := rfl
theorem f_G_knowsBest {ad : Nat → Nat} {M : Mm} : (oG ad M)[3]? = some (.int (gi M 22)) := rfl
theorem f_G_upper {ad : Nat → Nat} {M : Mm} : (oG ad M)[4]? = some (.long (gj M 2)) := rfl
theorem f_G_lower {ad : Nat → Nat} {M : Mm} : (oG ad M)[5]? = some (.long (gj M 3)) := rfl
theorem len_G {ad : Nat → Nat} {M : Mm} : (oG ad M).length = 6 := rfl
theorem s_G_knowsBest {cI cJ : ClassId} {ad : Nat → Nat} {M : Mm} {v : Int32} : (enc cI cJ ad M).set 5 (ad 5, .inr (0, (oG ad M).set 3 (.int v))) = enc cI cJ ad (si M 22 v) := rfl
theorem s_G_upper {cI cJ : ClassId} {ad : Nat → Nat} {M : Mm} {v : Int64} : (enc cI cJ ad M).set 5 (ad 5, .inr (0, (oG ad M).set 4 (.long v))) = enc cI cJ ad (sj M 2 v) := rfl
theorem s_G_lower {cI cJ : ClassId} {ad : Nat → Nat} {M : Mm} {v : Int64} : (enc cI cJ ad M).set 5 (ad 5, .inr (0, (oG ad M).set 5 (.long v))) = enc cI cJ ad (sj M 3 v) := rfl
theorem e_Q {cI cJ : ClassId} {ad : Nat → Nat} {M : Mm} : (enc cI cJ ad M)[6]? = some (ad 6, .inr (3, oQ ad M)) := rfl
theorem f_Q_kinds {ad : Nat → Nat} {M : Mm} : (oQ ad M)[0]? = some (.ref (ad 26)) := rfl
theorem f_Q_sorts {ad : Nat → Nat} {M : Mm} : (oQ ad M)[1]? = some (.ref (ad 27)) := rfl
theorem f_Q_waited {ad : Nat → Nat} {M : Mm} : (oQ ad M)[2]? = some (.ref (ad 28)) := rfl
theorem f_Q_cameIn {ad : Nat → Nat} {M : Mm} : (oQ ad M)[3]? = some (.ref (ad 29)) := rfl
theorem f_Q_servedIn {ad : Nat → Nat} {M : Mm} : (oQ ad M)[4]? = some (.ref (ad 30)) := rfl
theorem f_Q_row {ad : Nat → Nat} {M : Mm} : (oQ ad M)[5]? = some (.ref (ad 31)) := rfl
theorem f_Q_comers {ad : Nat → Nat} {M : Mm} : (oQ ad M)[6]? = some (.int (gi M 23)) := rfl
theorem f_Q_standing {ad : Nat → Nat} {M : Mm} : (oQ ad M)[7]? = some (.int (gi M 24)) := rfl
theorem f_Q_minutes {ad : Nat → Nat} {M : Mm} : (oQ ad M)[8]? = some (.int (gi M 25)) := rfl
theorem len_Q {ad : Nat → Nat} {M : Mm} : (oQ ad M).length = 9 := rfl
theorem s_Q_comers {cI cJ : ClassId} {ad : Nat → Nat} {M : Mm} {v : Int32} : (enc cI cJ ad M).set 6 (ad 6, .inr (3, (oQ ad M).set 6 (.int v))) = enc cI cJ ad (si M 23 v) := rfl
theorem s_Q_standing {cI cJ : ClassId} {ad : Nat → Nat} {M : Mm} {v : Int32} : (enc cI cJ ad M).set 6 (ad 6, .inr (3, (oQ ad M).set 7 (.int v))) = enc cI cJ ad (si M 24 v) := rfl
theorem s_Q_minutes {cI cJ : ClassId} {ad : Nat → Nat} {M : Mm} {v : Int32} : (enc cI cJ ad M).set 6 (ad 6, .inr (3, (oQ ad M).set 8 (.int v))) = enc cI cJ ad (si M 25 v) := rfl
theorem e_M {cI cJ : ClassId} {ad : Nat → Nat} {M : Mm} : (enc cI cJ ad M)[32]? = some (ad 32, .inr (7, oM ad M)) := rfl
theorem f_M_fault {ad : Nat → Nat} {M : Mm} : (oM ad M)[0]? = some (.int (gi M 26)) := rfl
theorem f_M_trace {ad : Nat → Nat} {M : Mm} : (oM ad M)[1]? = some (.int (gi M 27)) := rfl
theorem f_M_up {ad : Nat → Nat} {M : Mm} : (oM ad M)[2]? = some (.long (gj M 4)) := rfl
theorem f_M_down {ad : Nat → Nat} {M : Mm} : (oM ad M)[3]? = some (.long (gj M 5)) := rfl
theorem f_M_lanes {ad : Nat → Nat} {M : Mm} : (oM ad M)[4]? = some (.ref (ad 33)) := rfl
theorem f_M_sheetLong {ad : Nat → Nat} {M : Mm} : (oM ad M)[5]? = some (.ref (ad 34)) := rfl
theorem f_M_cells {ad : Nat → Nat} {M : Mm} : (oM ad M)[6]? = some (.ref (ad 35)) := rfl
theorem f_M_isPlace {ad : Nat → Nat} {M : Mm} : (oM ad M)[7]? = some (.int (gi M 28)) := rfl
theorem f_M_served {ad : Nat → Nat} {M : Mm} : (oM ad M)[8]? = some (.int (gi M 29)) := rfl
theorem f_M_cost {ad : Nat → Nat} {M : Mm} : (oM ad M)[9]? = some (.int (gi M 30)) := rfl
theorem f_M_sorts {ad : Nat → Nat} {M : Mm} : (oM ad M)[10]? = some (.int (gi M 31)) := rfl
theorem f_M_twelfths {ad : Nat → Nat} {M : Mm} : (oM ad M)[11]? = some (.ref (ad 36)) := rfl
theorem f_M_worths {ad : Nat → Nat} {M : Mm} : (oM ad M)[12]? = some (.ref (ad 37)) := rfl
theorem f_M_bars {ad : Nat → Nat} {M : Mm} : (oM ad M)[13]? = some (.ref (ad 38)) := rfl
theorem f_M_toll {ad : Nat → Nat} {M : Mm} : (oM ad M)[14]? = some (.int (gi M 32)) := rfl
theorem f_M_step {ad : Nat → Nat} {M : Mm} : (oM ad M)[15]? = some (.int (gi M 33)) := rfl
theorem f_M_lie {ad : Nat → Nat} {M : Mm} : (oM ad M)[16]? = some (.int (gi M 34)) := rfl
theorem f_M_at {ad : Nat → Nat} {M : Mm} : (oM ad M)[17]? = some (.int (gi M 35)) := rfl
theorem f_M_end {ad : Nat → Nat} {M : Mm} : (oM ad M)[18]? = some (.int (gi M 36)) := rfl
theorem f_M_readServed {ad : Nat → Nat} {M : Mm} : (oM ad M)[19]? = some (.int (gi M 37)) := rfl
theorem f_M_readCost {ad : Nat → Nat} {M : Mm} : (oM ad M)[20]? = some (.int (gi M 38)) := rfl
theorem f_M_readSorts {ad : Nat → Nat} {M : Mm} : (oM ad M)[21]? = some (.int (gi M 39)) := rfl
theorem f_M_readTwelfths {ad : Nat → Nat} {M : Mm} : (oM ad M)[22]? = some (.ref (ad 39)) := rfl
theorem f_M_readWorths {ad : Nat → Nat} {M : Mm} : (oM ad M)[23]? = some (.ref (ad 40)) := rfl
theorem f_M_joins {ad : Nat → Nat} {M : Mm} : (oM ad M)[24]? = some (.ref (ad 41)) := rfl
theorem f_M_ups {ad : Nat → Nat} {M : Mm} : (oM ad M)[25]? = some (.ref (ad 42)) := rfl
theorem f_M_downs {ad : Nat → Nat} {M : Mm} : (oM ad M)[26]? = some (.ref (ad 43)) := rfl
theorem f_M_weights {ad : Nat → Nat} {M : Mm} : (oM ad M)[27]? = some (.ref (ad 44)) := rfl
theorem f_M_now {ad : Nat → Nat} {M : Mm} : (oM ad M)[28]? = some (.ref (ad 45)) := rfl
theorem f_M_next {ad : Nat → Nat} {M : Mm} : (oM ad M)[29]? = some (.ref (ad 46)) := rfl
theorem f_M_row {ad : Nat → Nat} {M : Mm} : (oM ad M)[30]? = some (.ref (ad 47)) := rfl
theorem f_M_bestRow {ad : Nat → Nat} {M : Mm} : (oM ad M)[31]? = some (.ref (ad 48)) := rfl
theorem f_M_comers {ad : Nat → Nat} {M : Mm} : (oM ad M)[32]? = some (.int (gi M 40)) := rfl
theorem f_M_minutes {ad : Nat → Nat} {M : Mm} : (oM ad M)[33]? = some (.int (gi M 41)) := rfl
theorem f_M_order {ad : Nat → Nat} {M : Mm} : (oM ad M)[34]? = some (.int (gi M 42)) := rfl
theorem f_M_comerSort {ad : Nat → Nat} {M : Mm} : (oM ad M)[35]? = some (.ref (ad 49)) := rfl
theorem f_M_comerKind {ad : Nat → Nat} {M : Mm} : (oM ad M)[36]? = some (.ref (ad 50)) := rfl
theorem f_M_waited {ad : Nat → Nat} {M : Mm} : (oM ad M)[37]? = some (.ref (ad 51)) := rfl
theorem f_M_came {ad : Nat → Nat} {M : Mm} : (oM ad M)[38]? = some (.ref (ad 52)) := rfl
theorem f_M_gone {ad : Nat → Nat} {M : Mm} : (oM ad M)[39]? = some (.ref (ad 53)) := rfl
theorem len_M {ad : Nat → Nat} {M : Mm} : (oM ad M).length = 40 := rfl
theorem s_M_fault {cI cJ : ClassId} {ad : Nat → Nat} {M : Mm} {v : Int32} : (enc cI cJ ad M).set 32 (ad 32, .inr (7, (oM ad M).set 0 (.int v))) = enc cI cJ ad (si M 26 v) := rfl
theorem s_M_trace {cI cJ : ClassId} {ad : Nat → Nat} {M : Mm} {v : Int32} : (enc cI cJ ad M).set 32 (ad 32, .inr (7, (oM ad M).set 1 (.int v))) = enc cI cJ ad (si M 27 v) := rfl
theorem s_M_up {cI cJ : ClassId} {ad : Nat → Nat} {M : Mm} {v : Int64} : (enc cI cJ ad M).set 32 (ad 32, .inr (7, (oM ad M).set 2 (.long v))) = enc cI cJ ad (sj M 4 v) := rfl
theorem s_M_down {cI cJ : ClassId} {ad : Nat → Nat} {M : Mm} {v : Int64} : (enc cI cJ ad M).set 32 (ad 32, .inr (7, (oM ad M).set 3 (.long v))) = enc cI cJ ad (sj M 5 v) := rfl
theorem s_M_isPlace {cI cJ : ClassId} {ad : Nat → Nat} {M : Mm} {v : Int32} : (enc cI cJ ad M).set 32 (ad 32, .inr (7, (oM ad M).set 7 (.int v))) = enc cI cJ ad (si M 28 v) := rfl
theorem s_M_served {cI cJ : ClassId} {ad : Nat → Nat} {M : Mm} {v : Int32} : (enc cI cJ ad M).set 32 (ad 32, .inr (7, (oM ad M).set 8 (.int v))) = enc cI cJ ad (si M 29 v) := rfl
theorem s_M_cost {cI cJ : ClassId} {ad : Nat → Nat} {M : Mm} {v : Int32} : (enc cI cJ ad M).set 32 (ad 32, .inr (7, (oM ad M).set 9 (.int v))) = enc cI cJ ad (si M 30 v) := rfl
theorem s_M_sorts {cI cJ : ClassId} {ad : Nat → Nat} {M : Mm} {v : Int32} : (enc cI cJ ad M).set 32 (ad 32, .inr (7, (oM ad M).set 10 (.int v))) = enc cI cJ ad (si M 31 v) := rfl
theorem s_M_toll {cI cJ : ClassId} {ad : Nat → Nat} {M : Mm} {v : Int32} : (enc cI cJ ad M).set 32 (ad 32, .inr (7, (oM ad M).set 14 (.int v))) = enc cI cJ ad (si M 32 v) := rfl
theorem s_M_step {cI cJ : ClassId} {ad : Nat → Nat} {M : Mm} {v : Int32} : (enc cI cJ ad M).set 32 (ad 32, .inr (7, (oM ad M).set 15 (.int v))) = enc cI cJ ad (si M 33 v) := rfl
theorem s_M_lie {cI cJ : ClassId} {ad : Nat → Nat} {M : Mm} {v : Int32} : (enc cI cJ ad M).set 32 (ad 32, .inr (7, (oM ad M).set 16 (.int v))) = enc cI cJ ad (si M 34 v) := rfl
theorem s_M_at {cI cJ : ClassId} {ad : Nat → Nat} {M : Mm} {v : Int32} : (enc cI cJ ad M).set 32 (ad 32, .inr (7, (oM ad M).set 17 (.int v))) = enc cI cJ ad (si M 35 v) := rfl
theorem s_M_end {cI cJ : ClassId} {ad : Nat → Nat} {M : Mm} {v : Int32} : (enc cI cJ ad M).set 32 (ad 32, .inr (7, (oM ad M).set 18 (.int v))) = enc cI cJ ad (si M 36 v) := rfl
theorem s_M_readServed {cI cJ : ClassId} {ad : Nat → Nat} {M : Mm} {v : Int32} : (enc cI cJ ad M).set 32 (ad 32, .inr (7, (oM ad M).set 19 (.int v))) = enc cI cJ ad (si M 37 v) := rfl
theorem s_M_readCost {cI cJ : ClassId} {ad : Nat → Nat} {M : Mm} {v : Int32} : (enc cI cJ ad M).set 32 (ad 32, .inr (7, (oM ad M).set 20 (.int v))) = enc cI cJ ad (si M 38 v) := rfl
theorem s_M_readSorts {cI cJ : ClassId} {ad : Nat → Nat} {M : Mm} {v : Int32} : (enc cI cJ ad M).set 32 (ad 32, .inr (7, (oM ad M).set 21 (.int v))) = enc cI cJ ad (si M 39 v) := rfl
theorem s_M_comers {cI cJ : ClassId} {ad : Nat → Nat} {M : Mm} {v : Int32} : (enc cI cJ ad M).set 32 (ad 32, .inr (7, (oM ad M).set 32 (.int v))) = enc cI cJ ad (si M 40 v) := rfl
theorem s_M_minutes {cI cJ : ClassId} {ad : Nat → Nat} {M : Mm} {v : Int32} : (enc cI cJ ad M).set 32 (ad 32, .inr (7, (oM ad M).set 33 (.int v))) = enc cI cJ ad (si M 41 v) := rfl
theorem s_M_order {cI cJ : ClassId} {ad : Nat → Nat} {M : Mm} {v : Int32} : (enc cI cJ ad M).set 32 (ad 32, .inr (7, (oM ad M).set 34 (.int v))) = enc cI cJ ad (si M 42 v) := rfl
theorem isA_in {k : Nat} (h : isA k = true) : k ∈ [8, 9, 10, 11, 12, 13, 14, 15, 16, 20, 24, 25, 26, 27, 28, 29, 30, 31, 33, 34, 35, 36, 37, 38, 39, 40, 41, 47, 48, 49, 50, 51, 52, 53] := by
  have hk : k < 54 := by
    by_cases q : k < 54
    · exact q
    · have e : kdL.getD k 0 = 0 := by rw [List.getD_eq_getElem?_getD, List.getElem?_eq_none (by simp [kdL]; omega)]; rfl
      rw [isA, e] at h; cases h
  have all : ∀ k, k < 54 → isA k = true → k ∈ [8, 9, 10, 11, 12, 13, 14, 15, 16, 20, 24, 25, 26, 27, 28, 29, 30, 31, 33, 34, 35, 36, 37, 38, 39, 40, 41, 47, 48, 49, 50, 51, 52, 53] := by decide +kernel
  exact all k hk h
set_option maxRecDepth 20000 in
theorem eA {cI cJ : ClassId} {ad : Nat → Nat} {M : Mm} {k : Nat} (h : isA k = true) : (enc cI cJ ad M)[k]? = some (ad k, .inl (cI, lenA k, .inl (ga M k))) := by
  have h := isA_in h
  simp only [List.mem_cons, List.not_mem_nil, or_false] at h
  rcases h with rfl | rfl | rfl | rfl | rfl | rfl | rfl | rfl | rfl | rfl | rfl | rfl | rfl | rfl | rfl | rfl | rfl | rfl | rfl | rfl | rfl | rfl | rfl | rfl | rfl | rfl | rfl | rfl | rfl | rfl | rfl | rfl | rfl | rfl <;> rfl
set_option maxRecDepth 20000 in
theorem sA {cI cJ : ClassId} {ad : Nat → Nat} {M : Mm} {k : Nat} (h : isA k = true) {f : Nat → Int32} : (enc cI cJ ad M).set k (ad k, .inl (cI, lenA k, .inl f)) = enc cI cJ ad (sa M k f) := by
  have h := isA_in h
  simp only [List.mem_cons, List.not_mem_nil, or_false] at h
  rcases h with rfl | rfl | rfl | rfl | rfl | rfl | rfl | rfl | rfl | rfl | rfl | rfl | rfl | rfl | rfl | rfl | rfl | rfl | rfl | rfl | rfl | rfl | rfl | rfl | rfl | rfl | rfl | rfl | rfl | rfl | rfl | rfl | rfl | rfl <;> rfl
theorem isB_in {k : Nat} (h : isB k = true) : k ∈ [17, 18, 19, 21, 22, 23, 42, 43, 44, 45, 46] := by
  have hk : k < 54 := by
    by_cases q : k < 54
    · exact q
    · have e : kdL.getD k 0 = 0 := by rw [List.getD_eq_getElem?_getD, List.getElem?_eq_none (by simp [kdL]; omega)]; rfl
      rw [isB, e] at h; cases h
  have all : ∀ k, k < 54 → isB k = true → k ∈ [17, 18, 19, 21, 22, 23, 42, 43, 44, 45, 46] := by decide +kernel
  exact all k hk h
set_option maxRecDepth 20000 in
theorem eB {cI cJ : ClassId} {ad : Nat → Nat} {M : Mm} {k : Nat} (h : isB k = true) : (enc cI cJ ad M)[k]? = some (ad k, .inl (cJ, lenA k, .inr (.inl (gb M k)))) := by
  have h := isB_in h
  simp only [List.mem_cons, List.not_mem_nil, or_false] at h
  rcases h with rfl | rfl | rfl | rfl | rfl | rfl | rfl | rfl | rfl | rfl | rfl <;> rfl
set_option maxRecDepth 20000 in
theorem sB {cI cJ : ClassId} {ad : Nat → Nat} {M : Mm} {k : Nat} (h : isB k = true) {f : Nat → Int64} : (enc cI cJ ad M).set k (ad k, .inl (cJ, lenA k, .inr (.inl f))) = enc cI cJ ad (sb M k f) := by
  have h := isB_in h
  simp only [List.mem_cons, List.not_mem_nil, or_false] at h
  rcases h with rfl | rfl | rfl | rfl | rfl | rfl | rfl | rfl | rfl | rfl | rfl <;> rfl
theorem is_L_joining {o : Nat} (ho : o < 2) : isA (16+4*o) = true := by
  match o, ho with
  | 0, _ => rfl
  | 1, _ => rfl
theorem len_L_joining {o : Nat} (ho : o < 2) : lenA (16+4*o) = 6 := by
  match o, ho with
  | 0, _ => rfl
  | 1, _ => rfl
theorem is_L_weights {o : Nat} (ho : o < 2) : isB (17+4*o) = true := by
  match o, ho with
  | 0, _ => rfl
  | 1, _ => rfl
theorem len_L_weights {o : Nat} (ho : o < 2) : lenA (17+4*o) = 6 := by
  match o, ho with
  | 0, _ => rfl
  | 1, _ => rfl
theorem is_L_now {o : Nat} (ho : o < 2) : isB (18+4*o) = true := by
  match o, ho with
  | 0, _ => rfl
  | 1, _ => rfl
theorem len_L_now {o : Nat} (ho : o < 2) : lenA (18+4*o) = 6 := by
  match o, ho with
  | 0, _ => rfl
  | 1, _ => rfl
theorem is_L_then {o : Nat} (ho : o < 2) : isB (19+4*o) = true := by
  match o, ho with
  | 0, _ => rfl
  | 1, _ => rfl
theorem len_L_then {o : Nat} (ho : o < 2) : lenA (19+4*o) = 6 := by
  match o, ho with
  | 0, _ => rfl
  | 1, _ => rfl
/-- the links to private members of nest mates -/
def nW : List Cond := [.fieldLinkNest RX5 80 "RopeLine$Sheets" "cells" "[I" "RopeLine",
  .fieldLinkNest RX2 40 "RopeLine$Text" "twelfths" "[I" "RopeLine",
  .fieldLinkNest RX2 49 "RopeLine$Text" "worths" "[I" "RopeLine",
  .fieldLinkNest RX6 84 "RopeLine$Text" "next" "I" "RopeLine",
  .fieldLinkNest RX2 25 "RopeLine$Text" "served" "I" "RopeLine",
  .fieldLinkNest RX2 32 "RopeLine$Text" "cost" "I" "RopeLine",
  .fieldLinkNest RX2 36 "RopeLine$Text" "sorts" "I" "RopeLine",
  .fieldLinkNest RX0 39 "RopeLine$Place" "twelfths" "[I" "RopeLine",
  .fieldLinkNest RX1 45 "RopeLine$Place" "twelfths" "[I" "RopeLine",
  .fieldLinkNest RX6 124 "RopeLine$Place" "twelfths" "[I" "RopeLine",
  .fieldLinkNest RX0 46 "RopeLine$Place" "worths" "[I" "RopeLine",
  .fieldLinkNest RX6 132 "RopeLine$Place" "worths" "[I" "RopeLine",
  .fieldLinkNest RX3 56 "RopeLine$Place" "worths" "[I" "RopeLine",
  .fieldLinkNest RX6 135 "RopeLine$Place" "bars" "[I" "RopeLine",
  .fieldLinkNest RX6 100 "RopeLine$Place" "isTold" "Z" "RopeLine",
  .fieldLinkNest RX1 25 "RopeLine$Place" "served" "I" "RopeLine",
  .fieldLinkNest RX6 104 "RopeLine$Place" "served" "I" "RopeLine",
  .fieldLinkNest RX6 107 "RopeLine$Place" "cost" "I" "RopeLine",
  .fieldLinkNest RX0 53 "RopeLine$Place" "cost" "I" "RopeLine",
  .fieldLinkNest RX6 97 "RopeLine$Place" "sorts" "I" "RopeLine",
  .fieldLinkNest RX0 33 "RopeLine$Place" "sorts" "I" "RopeLine",
  .fieldLinkNest RX6 114 "RopeLine$Place" "toll" "I" "RopeLine",
  .fieldLinkNest RX6 117 "RopeLine$Place" "step" "I" "RopeLine",
  .fieldLinkNest RX6 120 "RopeLine$Place" "lie" "I" "RopeLine",
  .fieldLinkNest RX6 162 "RopeLine$Lengths" "weights" "[J" "RopeLine",
  .fieldLinkNest RX0 66 "RopeLine$Lengths" "total" "J" "RopeLine",
  .fieldLinkNest RX6 169 "RopeLine$Lengths" "total" "J" "RopeLine",
  .fieldLinkNest RX6 214 "RopeLine$Gains" "row" "[I" "RopeLine",
  .fieldLinkNest RX6 153 "RopeLine$Gains" "bestRow" "[I" "RopeLine",
  .fieldLinkNest RX6 201 "RopeLine$Gains" "upper" "J" "RopeLine",
  .fieldLinkNest RX6 204 "RopeLine$Gains" "lower" "J" "RopeLine",
  .fieldLinkNest RX6 266 "RopeLine$Queue" "kinds" "[I" "RopeLine",
  .fieldLinkNest RX6 269 "RopeLine$Queue" "sorts" "[I" "RopeLine",
  .fieldLinkNest RX6 271 "RopeLine$Queue" "waited" "[I" "RopeLine",
  .fieldLinkNest RX6 274 "RopeLine$Queue" "cameIn" "[I" "RopeLine",
  .fieldLinkNest RX6 277 "RopeLine$Queue" "servedIn" "[I" "RopeLine",
  .fieldLinkNest RX6 290 "RopeLine$Queue" "row" "[I" "RopeLine",
  .fieldLinkNest RX6 328 "RopeLine$Queue" "comers" "I" "RopeLine",
  .fieldLinkNest RX6 249 "RopeLine$Queue" "standing" "I" "RopeLine",
  .fieldLinkNest RX6 262 "RopeLine$Queue" "minutes" "I" "RopeLine",
  .methodLinkNest RX4 21 yX6_set "RopeLine",
  .methodLinkNest RX6 29 yX2_init "RopeLine",
  .methodLinkNest RX6 36 yX1_init "RopeLine",
  .methodLinkNest RX6 43 yX0_init "RopeLine",
  .methodLinkNest RX0 11 yX1_init "RopeLine",
  .methodLinkNest RX6 50 yX3_init "RopeLine",
  .methodLinkNest RX4 25 yX6_isWithin "RopeLine",
  .methodLinkNest RX4 29 yX6_at "RopeLine",
  .methodLinkNest RX5 83 yX6_at "RopeLine",
  .methodLinkNest RX5 76 yX6_isWithin "RopeLine",
  .methodLinkNest RX5 64 yX6_set "RopeLine",
  .methodLinkNest RX2 41 yX6_at "RopeLine",
  .methodLinkNest RX2 45 yX6_set "RopeLine",
  .methodLinkNest RX2 59 yX6_isWithin "RopeLine",
  .methodLinkNest RX0 76 yX6_rowsOf "RopeLine",
  .methodLinkNest RX0 72 yX6_set "RopeLine",
  .methodLinkNest RX1 38 yX6_set "RopeLine",
  .methodLinkNest RX1 51 yX6_set_ "RopeLine",
  .methodLinkNest RX1 48 yX6_at "RopeLine",
  .methodLinkNest RX1 58 yX6_at_ "RopeLine",
  .methodLinkNest RX0 42 yX6_at "RopeLine",
  .methodLinkNest RX0 87 yX6_compareShares "RopeLine",
  .methodLinkNest RX1 71 yX6_share "RopeLine",
  .methodLinkNest RX3 44 yX6_at "RopeLine",
  .methodLinkNest RX3 48 yX6_set "RopeLine",
  .methodLinkNest RX3 40 yX6_isWithin "RopeLine"]
theorem nw_RX5_80 : Cond.fieldLinkNest RX5 80 "RopeLine$Sheets" "cells" "[I" "RopeLine" ∈ nW := List.mem_of_getElem? (i := 0) rfl
theorem nw_RX2_40 : Cond.fieldLinkNest RX2 40 "RopeLine$Text" "twelfths" "[I" "RopeLine" ∈ nW := List.mem_of_getElem? (i := 1) rfl
theorem nw_RX2_49 : Cond.fieldLinkNest RX2 49 "RopeLine$Text" "worths" "[I" "RopeLine" ∈ nW := List.mem_of_getElem? (i := 2) rfl
theorem nw_RX6_84 : Cond.fieldLinkNest RX6 84 "RopeLine$Text" "next" "I" "RopeLine" ∈ nW := List.mem_of_getElem? (i := 3) rfl
theorem nw_RX2_25 : Cond.fieldLinkNest RX2 25 "RopeLine$Text" "served" "I" "RopeLine" ∈ nW := List.mem_of_getElem? (i := 4) rfl
theorem nw_RX2_32 : Cond.fieldLinkNest RX2 32 "RopeLine$Text" "cost" "I" "RopeLine" ∈ nW := List.mem_of_getElem? (i := 5) rfl
theorem nw_RX2_36 : Cond.fieldLinkNest RX2 36 "RopeLine$Text" "sorts" "I" "RopeLine" ∈ nW := List.mem_of_getElem? (i := 6) rfl
theorem nw_RX0_39 : Cond.fieldLinkNest RX0 39 "RopeLine$Place" "twelfths" "[I" "RopeLine" ∈ nW := List.mem_of_getElem? (i := 7) rfl
theorem nw_RX1_45 : Cond.fieldLinkNest RX1 45 "RopeLine$Place" "twelfths" "[I" "RopeLine" ∈ nW := List.mem_of_getElem? (i := 8) rfl
theorem nw_RX6_124 : Cond.fieldLinkNest RX6 124 "RopeLine$Place" "twelfths" "[I" "RopeLine" ∈ nW := List.mem_of_getElem? (i := 9) rfl
theorem nw_RX0_46 : Cond.fieldLinkNest RX0 46 "RopeLine$Place" "worths" "[I" "RopeLine" ∈ nW := List.mem_of_getElem? (i := 10) rfl
theorem nw_RX6_132 : Cond.fieldLinkNest RX6 132 "RopeLine$Place" "worths" "[I" "RopeLine" ∈ nW := List.mem_of_getElem? (i := 11) rfl
theorem nw_RX3_56 : Cond.fieldLinkNest RX3 56 "RopeLine$Place" "worths" "[I" "RopeLine" ∈ nW := List.mem_of_getElem? (i := 12) rfl
theorem nw_RX6_135 : Cond.fieldLinkNest RX6 135 "RopeLine$Place" "bars" "[I" "RopeLine" ∈ nW := List.mem_of_getElem? (i := 13) rfl
theorem nw_RX6_100 : Cond.fieldLinkNest RX6 100 "RopeLine$Place" "isTold" "Z" "RopeLine" ∈ nW := List.mem_of_getElem? (i := 14) rfl
theorem nw_RX1_25 : Cond.fieldLinkNest RX1 25 "RopeLine$Place" "served" "I" "RopeLine" ∈ nW := List.mem_of_getElem? (i := 15) rfl
theorem nw_RX6_104 : Cond.fieldLinkNest RX6 104 "RopeLine$Place" "served" "I" "RopeLine" ∈ nW := List.mem_of_getElem? (i := 16) rfl
theorem nw_RX6_107 : Cond.fieldLinkNest RX6 107 "RopeLine$Place" "cost" "I" "RopeLine" ∈ nW := List.mem_of_getElem? (i := 17) rfl
theorem nw_RX0_53 : Cond.fieldLinkNest RX0 53 "RopeLine$Place" "cost" "I" "RopeLine" ∈ nW := List.mem_of_getElem? (i := 18) rfl
theorem nw_RX6_97 : Cond.fieldLinkNest RX6 97 "RopeLine$Place" "sorts" "I" "RopeLine" ∈ nW := List.mem_of_getElem? (i := 19) rfl
theorem nw_RX0_33 : Cond.fieldLinkNest RX0 33 "RopeLine$Place" "sorts" "I" "RopeLine" ∈ nW := List.mem_of_getElem? (i := 20) rfl
theorem nw_RX6_114 : Cond.fieldLinkNest RX6 114 "RopeLine$Place" "toll" "I" "RopeLine" ∈ nW := List.mem_of_getElem? (i := 21) rfl
theorem nw_RX6_117 : Cond.fieldLinkNest RX6 117 "RopeLine$Place" "step" "I" "RopeLine" ∈ nW := List.mem_of_getElem? (i := 22) rfl
theorem nw_RX6_120 : Cond.fieldLinkNest RX6 120 "RopeLine$Place" "lie" "I" "RopeLine" ∈ nW := List.mem_of_getElem? (i := 23) rfl
theorem nw_RX6_162 : Cond.fieldLinkNest RX6 162 "RopeLine$Lengths" "weights" "[J" "RopeLine" ∈ nW := List.mem_of_getElem? (i := 24) rfl
theorem nw_RX0_66 : Cond.fieldLinkNest RX0 66 "RopeLine$Lengths" "total" "J" "RopeLine" ∈ nW := List.mem_of_getElem? (i := 25) rfl
theorem nw_RX6_169 : Cond.fieldLinkNest RX6 169 "RopeLine$Lengths" "total" "J" "RopeLine" ∈ nW := List.mem_of_getElem? (i := 26) rfl
theorem nw_RX6_214 : Cond.fieldLinkNest RX6 214 "RopeLine$Gains" "row" "[I" "RopeLine" ∈ nW := List.mem_of_getElem? (i := 27) rfl
theorem nw_RX6_153 : Cond.fieldLinkNest RX6 153 "RopeLine$Gains" "bestRow" "[I" "RopeLine" ∈ nW := List.mem_of_getElem? (i := 28) rfl
theorem nw_RX6_201 : Cond.fieldLinkNest RX6 201 "RopeLine$Gains" "upper" "J" "RopeLine" ∈ nW := List.mem_of_getElem? (i := 29) rfl
theorem nw_RX6_204 : Cond.fieldLinkNest RX6 204 "RopeLine$Gains" "lower" "J" "RopeLine" ∈ nW := List.mem_of_getElem? (i := 30) rfl
theorem nw_RX6_266 : Cond.fieldLinkNest RX6 266 "RopeLine$Queue" "kinds" "[I" "RopeLine" ∈ nW := List.mem_of_getElem? (i := 31) rfl
theorem nw_RX6_269 : Cond.fieldLinkNest RX6 269 "RopeLine$Queue" "sorts" "[I" "RopeLine" ∈ nW := List.mem_of_getElem? (i := 32) rfl
theorem nw_RX6_271 : Cond.fieldLinkNest RX6 271 "RopeLine$Queue" "waited" "[I" "RopeLine" ∈ nW := List.mem_of_getElem? (i := 33) rfl
theorem nw_RX6_274 : Cond.fieldLinkNest RX6 274 "RopeLine$Queue" "cameIn" "[I" "RopeLine" ∈ nW := List.mem_of_getElem? (i := 34) rfl
theorem nw_RX6_277 : Cond.fieldLinkNest RX6 277 "RopeLine$Queue" "servedIn" "[I" "RopeLine" ∈ nW := List.mem_of_getElem? (i := 35) rfl
theorem nw_RX6_290 : Cond.fieldLinkNest RX6 290 "RopeLine$Queue" "row" "[I" "RopeLine" ∈ nW := List.mem_of_getElem? (i := 36) rfl
theorem nw_RX6_328 : Cond.fieldLinkNest RX6 328 "RopeLine$Queue" "comers" "I" "RopeLine" ∈ nW := List.mem_of_getElem? (i := 37) rfl
theorem nw_RX6_249 : Cond.fieldLinkNest RX6 249 "RopeLine$Queue" "standing" "I" "RopeLine" ∈ nW := List.mem_of_getElem? (i := 38) rfl
theorem nw_RX6_262 : Cond.fieldLinkNest RX6 262 "RopeLine$Queue" "minutes" "I" "RopeLine" ∈ nW := List.mem_of_getElem? (i := 39) rfl
theorem nw_RX4_21 : Cond.methodLinkNest RX4 21 yX6_set "RopeLine" ∈ nW := List.mem_of_getElem? (i := 40) rfl
theorem nw_RX6_29 : Cond.methodLinkNest RX6 29 yX2_init "RopeLine" ∈ nW := List.mem_of_getElem? (i := 41) rfl
theorem nw_RX6_36 : Cond.methodLinkNest RX6 36 yX1_init "RopeLine" ∈ nW := List.mem_of_getElem? (i := 42) rfl
theorem nw_RX6_43 : Cond.methodLinkNest RX6 43 yX0_init "RopeLine" ∈ nW := List.mem_of_getElem? (i := 43) rfl
theorem nw_RX0_11 : Cond.methodLinkNest RX0 11 yX1_init "RopeLine" ∈ nW := List.mem_of_getElem? (i := 44) rfl
theorem nw_RX6_50 : Cond.methodLinkNest RX6 50 yX3_init "RopeLine" ∈ nW := List.mem_of_getElem? (i := 45) rfl
theorem nw_RX4_25 : Cond.methodLinkNest RX4 25 yX6_isWithin "RopeLine" ∈ nW := List.mem_of_getElem? (i := 46) rfl
theorem nw_RX4_29 : Cond.methodLinkNest RX4 29 yX6_at "RopeLine" ∈ nW := List.mem_of_getElem? (i := 47) rfl
theorem nw_RX5_83 : Cond.methodLinkNest RX5 83 yX6_at "RopeLine" ∈ nW := List.mem_of_getElem? (i := 48) rfl
theorem nw_RX5_76 : Cond.methodLinkNest RX5 76 yX6_isWithin "RopeLine" ∈ nW := List.mem_of_getElem? (i := 49) rfl
theorem nw_RX5_64 : Cond.methodLinkNest RX5 64 yX6_set "RopeLine" ∈ nW := List.mem_of_getElem? (i := 50) rfl
theorem nw_RX2_41 : Cond.methodLinkNest RX2 41 yX6_at "RopeLine" ∈ nW := List.mem_of_getElem? (i := 51) rfl
theorem nw_RX2_45 : Cond.methodLinkNest RX2 45 yX6_set "RopeLine" ∈ nW := List.mem_of_getElem? (i := 52) rfl
theorem nw_RX2_59 : Cond.methodLinkNest RX2 59 yX6_isWithin "RopeLine" ∈ nW := List.mem_of_getElem? (i := 53) rfl
theorem nw_RX0_76 : Cond.methodLinkNest RX0 76 yX6_rowsOf "RopeLine" ∈ nW := List.mem_of_getElem? (i := 54) rfl
theorem nw_RX0_72 : Cond.methodLinkNest RX0 72 yX6_set "RopeLine" ∈ nW := List.mem_of_getElem? (i := 55) rfl
theorem nw_RX1_38 : Cond.methodLinkNest RX1 38 yX6_set "RopeLine" ∈ nW := List.mem_of_getElem? (i := 56) rfl
theorem nw_RX1_51 : Cond.methodLinkNest RX1 51 yX6_set_ "RopeLine" ∈ nW := List.mem_of_getElem? (i := 57) rfl
theorem nw_RX1_48 : Cond.methodLinkNest RX1 48 yX6_at "RopeLine" ∈ nW := List.mem_of_getElem? (i := 58) rfl
theorem nw_RX1_58 : Cond.methodLinkNest RX1 58 yX6_at_ "RopeLine" ∈ nW := List.mem_of_getElem? (i := 59) rfl
theorem nw_RX0_42 : Cond.methodLinkNest RX0 42 yX6_at "RopeLine" ∈ nW := List.mem_of_getElem? (i := 60) rfl
theorem nw_RX0_87 : Cond.methodLinkNest RX0 87 yX6_compareShares "RopeLine" ∈ nW := List.mem_of_getElem? (i := 61) rfl
theorem nw_RX1_71 : Cond.methodLinkNest RX1 71 yX6_share "RopeLine" ∈ nW := List.mem_of_getElem? (i := 62) rfl
theorem nw_RX3_44 : Cond.methodLinkNest RX3 44 yX6_at "RopeLine" ∈ nW := List.mem_of_getElem? (i := 63) rfl
theorem nw_RX3_48 : Cond.methodLinkNest RX3 48 yX6_set "RopeLine" ∈ nW := List.mem_of_getElem? (i := 64) rfl
theorem nw_RX3_40 : Cond.methodLinkNest RX3 40 yX6_isWithin "RopeLine" ∈ nW := List.mem_of_getElem? (i := 65) rfl
def KK (D : va_G) (cI cJ : ClassId) (U : State) : Prop := va_K D vwCl [(cI, .int), (cJ, .long)] U ∧ ∀ w ∈ nW, va_Nw w U
set_option maxRecDepth 20000 in
theorem nW_warm {s U : State} (hW : s.WarmedH U.vm) : ∀ w ∈ nW, va_Nw w s → va_Nw w U := by
  unfold nW
  refine List.forall_mem_cons.mpr ⟨fun h => va_Nw.warmF hW h, ?_⟩
  refine List.forall_mem_cons.mpr ⟨fun h => va_Nw.warmF hW h, ?_⟩
  refine List.forall_mem_cons.mpr ⟨fun h => va_Nw.warmF hW h, ?_⟩
  refine List.forall_mem_cons.mpr ⟨fun h => va_Nw.warmF hW h, ?_⟩
  refine List.forall_mem_cons.mpr ⟨fun h => va_Nw.warmF hW h, ?_⟩
  refine List.forall_mem_cons.mpr ⟨fun h => va_Nw.warmF hW h, ?_⟩
  refine List.forall_mem_cons.mpr ⟨fun h => va_Nw.warmF hW h, ?_⟩
  refine List.forall_mem_cons.mpr ⟨fun h => va_Nw.warmF hW h, ?_⟩
  refine List.forall_mem_cons.mpr ⟨fun h => va_Nw.warmF hW h, ?_⟩
  refine List.forall_mem_cons.mpr ⟨fun h => va_Nw.warmF hW h, ?_⟩
  refine List.forall_mem_cons.mpr ⟨fun h => va_Nw.warmF hW h, ?_⟩
  refine List.forall_mem_cons.mpr ⟨fun h => va_Nw.warmF hW h, ?_⟩
  refine List.forall_mem_cons.mpr ⟨fun h => va_Nw.warmF hW h, ?_⟩
  refine List.forall_mem_cons.mpr ⟨fun h => va_Nw.warmF hW h, ?_⟩
  refine List.forall_mem_cons.mpr ⟨fun h => va_Nw.warmF hW h, ?_⟩
  refine List.forall_mem_cons.mpr ⟨fun h => va_Nw.warmF hW h, ?_⟩
  refine List.forall_mem_cons.mpr ⟨fun h => va_Nw.warmF hW h, ?_⟩
  refine List.forall_mem_cons.mpr ⟨fun h => va_Nw.warmF hW h, ?_⟩
  refine List.forall_mem_cons.mpr ⟨fun h => va_Nw.warmF hW h, ?_⟩
  refine List.forall_mem_cons.mpr ⟨fun h => va_Nw.warmF hW h, ?_⟩
  refine List.forall_mem_cons.mpr ⟨fun h => va_Nw.warmF hW h, ?_⟩
  refine List.forall_mem_cons.mpr ⟨fun h => va_Nw.warmF hW h, ?_⟩
  refine List.forall_mem_cons.mpr ⟨fun h => va_Nw.warmF hW h, ?_⟩
  refine List.forall_mem_cons.mpr ⟨fun h => va_Nw.warmF hW h, ?_⟩
  refine List.forall_mem_cons.mpr ⟨fun h => va_Nw.warmF hW h, ?_⟩
  refine List.forall_mem_cons.mpr ⟨fun h => va_Nw.warmF hW h, ?_⟩
  refine List.forall_mem_cons.mpr ⟨fun h => va_Nw.warmF hW h, ?_⟩
  refine List.forall_mem_cons.mpr ⟨fun h => va_Nw.warmF hW h, ?_⟩
  refine List.forall_mem_cons.mpr ⟨fun h => va_Nw.warmF hW h, ?_⟩
  refine List.forall_mem_cons.mpr ⟨fun h => va_Nw.warmF hW h, ?_⟩
  refine List.forall_mem_cons.mpr ⟨fun h => va_Nw.warmF hW h, ?_⟩
  refine List.forall_mem_cons.mpr ⟨fun h => va_Nw.warmF hW h, ?_⟩
  refine List.forall_mem_cons.mpr ⟨fun h => va_Nw.warmF hW h, ?_⟩
  refine List.forall_mem_cons.mpr ⟨fun h => va_Nw.warmF hW h, ?_⟩
  refine List.forall_mem_cons.mpr ⟨fun h => va_Nw.warmF hW h, ?_⟩
  refine List.forall_mem_cons.mpr ⟨fun h => va_Nw.warmF hW h, ?_⟩
  refine List.forall_mem_cons.mpr ⟨fun h => va_Nw.warmF hW h, ?_⟩
  refine List.forall_mem_cons.mpr ⟨fun h => va_Nw.warmF hW h, ?_⟩
  refine List.forall_mem_cons.mpr ⟨fun h => va_Nw.warmF hW h, ?_⟩
  refine List.forall_mem_cons.mpr ⟨fun h => va_Nw.warmF hW h, ?_⟩
  refine List.forall_mem_cons.mpr ⟨fun h => va_Nw.warmM hW h, ?_⟩
  refine List.forall_mem_cons.mpr ⟨fun h => va_Nw.warmM hW h, ?_⟩
  refine List.forall_mem_cons.mpr ⟨fun h => va_Nw.warmM hW h, ?_⟩
  refine List.forall_mem_cons.mpr ⟨fun h => va_Nw.warmM hW h, ?_⟩
  refine List.forall_mem_cons.mpr ⟨fun h => va_Nw.warmM hW h, ?_⟩
  refine List.forall_mem_cons.mpr ⟨fun h => va_Nw.warmM hW h, ?_⟩
  refine List.forall_mem_cons.mpr ⟨fun h => va_Nw.warmM hW h, ?_⟩
  refine List.forall_mem_cons.mpr ⟨fun h => va_Nw.warmM hW h, ?_⟩
  refine List.forall_mem_cons.mpr ⟨fun h => va_Nw.warmM hW h, ?_⟩
  refine List.forall_mem_cons.mpr ⟨fun h => va_Nw.warmM hW h, ?_⟩
  refine List.forall_mem_cons.mpr ⟨fun h => va_Nw.warmM hW h, ?_⟩
  refine List.forall_mem_cons.mpr ⟨fun h => va_Nw.warmM hW h, ?_⟩
  refine List.forall_mem_cons.mpr ⟨fun h => va_Nw.warmM hW h, ?_⟩
  refine List.forall_mem_cons.mpr ⟨fun h => va_Nw.warmM hW h, ?_⟩
  refine List.forall_mem_cons.mpr ⟨fun h => va_Nw.warmM hW h, ?_⟩
  refine List.forall_mem_cons.mpr ⟨fun h => va_Nw.warmM hW h, ?_⟩
  refine List.forall_mem_cons.mpr ⟨fun h => va_Nw.warmM hW h, ?_⟩
  refine List.forall_mem_cons.mpr ⟨fun h => va_Nw.warmM hW h, ?_⟩
  refine List.forall_mem_cons.mpr ⟨fun h => va_Nw.warmM hW h, ?_⟩
  refine List.forall_mem_cons.mpr ⟨fun h => va_Nw.warmM hW h, ?_⟩
  refine List.forall_mem_cons.mpr ⟨fun h => va_Nw.warmM hW h, ?_⟩
  refine List.forall_mem_cons.mpr ⟨fun h => va_Nw.warmM hW h, ?_⟩
  refine List.forall_mem_cons.mpr ⟨fun h => va_Nw.warmM hW h, ?_⟩
  refine List.forall_mem_cons.mpr ⟨fun h => va_Nw.warmM hW h, ?_⟩
  refine List.forall_mem_cons.mpr ⟨fun h => va_Nw.warmM hW h, ?_⟩
  refine List.forall_mem_cons.mpr ⟨fun h => va_Nw.warmM hW h, ?_⟩
  exact fun _ h => absurd h List.not_mem_nil
set_option maxRecDepth 20000 in
theorem nW_tab : ∀ w ∈ nW, w.onTables = true := by decide +kernel
theorem KK.warm {D : va_G} {cI cJ : ClassId} {s U : State} (h : KK D cI cJ s) (hW : s.WarmedH U.vm) : KK D cI cJ U := ⟨va_K.moved hW.alike h.1, fun w hw => nW_warm hW w hw (h.2 w hw)⟩
theorem KK.calling {D : va_G} {cI cJ : ClassId} {U : State} (g : JFrame) (mk : MethodId) (a : Array Value) (h : KK D cI cJ U) : KK D cI cJ (U.calling g mk a) := ⟨va_K.moved (u := U) (U := U.calling g mk a) (Vm.Alike.refl U.vm) h.1, fun w hw => va_Nw.same (nW_tab w hw) rfl (h.2 w hw)⟩
/-- a method's start: its arguments, the world by its registers, the tables -/
def PcW (D : va_G) (cI cJ : ClassId) (ad : Nat → Nat) (M : Mm) (av : List Value) : Array Value → State → Prop := va_Pc av (fun U => va_P D vwCl (enc cI cJ ad M) U.heap ∧ KK D cI cJ U)
theorem PcW.blind {D : va_G} {cI cJ : ClassId} {ad : Nat → Nat} {M : Mm} {av : List Value} : FrameBlind (PcW D cI cJ ad M av) := fun a U g mk q => ⟨q.1, q.2.1, q.2.2.calling g mk a⟩
def WdM (D : va_G) (cI cJ : ClassId) (ad : Nat → Nat) (M : Mm) (t : State) : Prop := va_P D vwCl (enc cI cJ ad M) t.heap
def QiW (D : va_G) (cI cJ : ClassId) (ad : Nat → Nat) (Q : Int32 → Mm → Prop) : Array Value → State → Outcome → State → Prop := va_Qi Q (WdM D cI cJ ad) (Fr ad)
def QlW (D : va_G) (cI cJ : ClassId) (ad : Nat → Nat) (Q : Int64 → Mm → Prop) : Array Value → State → Outcome → State → Prop := va_Ql Q (WdM D cI cJ ad) (Fr ad)
def QvW (D : va_G) (cI cJ : ClassId) (ad : Nat → Nat) (Q : Mm → Prop) : Array Value → State → Outcome → State → Prop := va_Qv Q (WdM D cI cJ ad) (Fr ad)
def nZ (v : Int32) : Prop := narrow .boolean (.int v) = .int v
def QzW (D : va_G) (cI cJ : ClassId) (ad : Nat → Nat) (Q : Int32 → Mm → Prop) : Array Value → State → Outcome → State → Prop := va_Qi (fun r M => nZ r ∧ Q r M) (WdM D cI cJ ad) (Fr ad)
abbrev CtI (l : Launch) (D : va_G) (cI cJ : ClassId) (ad : Nat → Nat) (y : MethodName) (ws : List Cond) (rm : Room) (av : List Value) (Q : Int32 → Mm → Prop) (M : Mm) : Prop := Met l y ws rm (PcW D cI cJ ad M av) (QiW D cI cJ ad Q) 0 0 (Fr ad)
abbrev CtZ (l : Launch) (D : va_G) (cI cJ : ClassId) (ad : Nat → Nat) (y : MethodName) (ws : List Cond) (rm : Room) (av : List Value) (Q : Int32 → Mm → Prop) (M : Mm) : Prop := Met l y ws rm (PcW D cI cJ ad M av) (QzW D cI cJ ad Q) 0 0 (Fr ad)
abbrev CtL (l : Launch) (D : va_G) (cI cJ : ClassId) (ad : Nat → Nat) (y : MethodName) (ws : List Cond) (rm : Room) (av : List Value) (Q : Int64 → Mm → Prop) (M : Mm) : Prop := Met l y ws rm (PcW D cI cJ ad M av) (QlW D cI cJ ad Q) 0 0 (Fr ad)
abbrev CtV (l : Launch) (D : va_G) (cI cJ : ClassId) (ad : Nat → Nat) (y : MethodName) (ws : List Cond) (rm : Room) (av : List Value) (Q : Mm → Prop) (M : Mm) : Prop := Met l y ws rm (PcW D cI cJ ad M av) (QvW D cI cJ ad Q) 0 0 (Fr ad)
section BASE
variable {p : Program} {l : Launch} {e : Env} {R : Room} {s : State} {m : MethodId} {args : Array Value} {below : List Frame} {meth : Method} {c : Code} {H : Heap} {locs : List Loc} {cells slots : Nat} {Q : State → Prop}
variable {cc : ByteArray} {pc nL : Nat} {ls : Array Slot} {rest st0 : List Value} {D : va_G} {cI cJ : ClassId} {ad : Nat → Nat} {H0 : Heap} {M : Mm} {Ts : List Cond} {own : String}
theorem entW {y : MethodName} {ws ws' : List Cond} {rm : Room} {av : List Value} {Qc : Array Value → State → Outcome → State → Prop} {maxL : Nat} {ret : Option FieldType} (hy : plainName y.cls = true) (hw : ws = Cond.code y cc maxL ret :: ws') (hlen : (lg_sl av).length ≤ maxL)
    (body : ∀ (p : Program) (e : Env) (s : State) (m : MethodId) (args : Array Value) (below : List Frame) (meth : Method) (c : Code) (ls : Array Slot), CallFix p m c cc maxL s args ws y.cls → KK D cI cJ s → meth.sig.returnType = ret → meth.locks = false → va_P D vwCl (enc cI cJ ad M) s.heap → va_S (Fr ad) s.heap s.heap [] → lv_has ls maxL (lv_args 0 av) → W p l e rm s m args below meth c s.heap [] 0 0 (MQ below Qc args s 0 0 (Fr ad)) (F0 m 0 ls [])) : Met l y ws rm (PcW D cI cJ ad M av) Qc 0 0 (Fr ad) := by
  refine Met.ofW (cc := cc) (maxL := maxL) (ret := ret) hy hw ?_
  intro p e s m args below meth c s₁ B hml hv
  obtain ⟨rfl, hP, hK⟩ := hv
  have hl := lv_entry av (n := maxL) hlen
  rw [lg_entry_eq]
  exact body p e s m _ below meth c _ ⟨B.exec, B.bytes, hml, findClass_of_methodNamed B.named, atoms_spec (ws := ws) B.pre⟩ hK B.returns B.notSynchronized hP va_S.rf hl
theorem retI {Q : Int32 → Mm → Prop} {v : Int32} (S : CallFix p m c cc nL s args Ts own) (hr : meth.sig.returnType = some .int) (hlocks : meth.locks = false) (hP : va_P D vwCl (enc cI cJ ad M) H) (hS : va_S (Fr ad) s.heap H locs) (hF : Q v M) (hdg : decode cc pc = .ok (.ireturn, 1)) : W p l e R s m args below meth c H locs cells slots (MQ below (QiW D cI cJ ad Q) args s cells slots (Fr ad)) (F0 m pc ls [.int v]) :=
  W.iret (v := v) S.1 S.2.1 hr (fun t ht _ => ⟨⟨v, M, rfl, hF, by unfold WdM; rw [ht]; exact hP⟩, hS.F ht⟩) hS.2.2 hdg
theorem retZ {Q : Int32 → Mm → Prop} {v : Int32} (S : CallFix p m c cc nL s args Ts own) (hr : meth.sig.returnType = some .boolean) (hlocks : meth.locks = false) (hP : va_P D vwCl (enc cI cJ ad M) H) (hS : va_S (Fr ad) s.heap H locs) (hn : nZ v) (hF : Q v M) (hdg : decode cc pc = .ok (.ireturn, 1)) : W p l e R s m args below meth c H locs cells slots (MQ below (QzW D cI cJ ad Q) args s cells slots (Fr ad)) (F0 m pc ls [.int v]) :=
  W.zret (v := v) (ty := .boolean) S.1 S.2.1 hr hn (fun t ht _ => ⟨⟨v, M, rfl, ⟨hn, hF⟩, by unfold WdM; rw [ht]; exact hP⟩, hS.F ht⟩) hS.2.2 hdg
theorem retL {Q : Int64 → Mm → Prop} {v : Int64} (S : CallFix p m c cc nL s args Ts own) (hr : meth.sig.returnType = some .long) (hlocks : meth.locks = false) (hP : va_P D vwCl (enc cI cJ ad M) H) (hS : va_S (Fr ad) s.heap H locs) (hF : Q v M) (hdg : decode cc pc = .ok (.lreturn, 1)) : W p l e R s m args below meth c H locs cells slots (MQ below (QlW D cI cJ ad Q) args s cells slots (Fr ad)) (F0 m pc ls [.long v]) :=
  W.lret (v := v) S.1 S.2.1 hr (fun t ht _ => ⟨⟨v, M, rfl, hF, by unfold WdM; rw [ht]; exact hP⟩, hS.F ht⟩) hS.2.2 hdg
theorem retV {Q : Mm → Prop} (S : CallFix p m c cc nL s args Ts own) (hr : meth.sig.returnType = none) (hlocks : meth.locks = false) (hP : va_P D vwCl (enc cI cJ ad M) H) (hS : va_S (Fr ad) s.heap H locs) (hF : Q M) (hdg : decode cc pc = .ok (.return_, 1)) : W p l e R s m args below meth c H locs cells slots (MQ below (QvW D cI cJ ad Q) args s cells slots (Fr ad)) (F0 m pc ls []) :=
  W.vret S.1 S.2.1 hr (fun t ht _ => ⟨⟨M, rfl, hF, by unfold WdM; rw [ht]; exact hP⟩, hS.F ht⟩) hS.2.2 hdg
theorem gF {C : String} {T : u_T} {N ci index : Nat} (S : CallFix p m c cc nL s args Ts own) (hK : KK D cI cJ s) (hP : va_P D vwCl (enc cI cJ ad M) H) (hin : ∀ w ∈ u_ws C T N, w ∈ Ts) {q0 a : Nat} {fs : List Value} (he : (enc cI cJ ad M)[q0]? = some (a, .inr (ci, fs))) (hc : vwCl[ci]? = some (C, T, N)) (k : Nat) (hk : k < N) (hlink : (Cond.fieldLink own index (T k).1 (T k).2.1 (T k).2.2.1).before args s = true) {v : Value} (hv : fs[k]? = some v) (hdg : decode cc pc = .ok (.getfield index, 3))
    (kk : W p l e R s m args below meth c H locs cells slots Q (F0 m (pc + 3) ls (v :: rest))) : W p l e R s m args below meth c H locs cells slots Q (F0 m pc ls (.ref a :: rest)) :=
  va_get S.1 S.2.1 S.2.2.2.2 hin S.2.2.2.1 hK.1 hP q0 he hc k hk hlink (fun _ h => h) hv hdg kk
theorem gN {C host : String} {T : u_T} {N ci index : Nat} (S : CallFix p m c cc nL s args Ts own) (hK : KK D cI cJ s) (hP : va_P D vwCl (enc cI cJ ad M) H) (hin : ∀ w ∈ u_ws C T N, w ∈ Ts) {q0 a : Nat} {fs : List Value} (he : (enc cI cJ ad M)[q0]? = some (a, .inr (ci, fs))) (hc : vwCl[ci]? = some (C, T, N)) (k : Nat) (hk : k < N) (hlink : Cond.fieldLinkNest own index (T k).1 (T k).2.1 (T k).2.2.1 host ∈ nW) {v : Value} (hv : fs[k]? = some v) (hdg : decode cc pc = .ok (.getfield index, 3))
    (kk : W p l e R s m args below meth c H locs cells slots Q (F0 m (pc + 3) ls (v :: rest))) : W p l e R s m args below meth c H locs cells slots Q (F0 m pc ls (.ref a :: rest)) :=
  va_getN S.1 S.2.1 S.2.2.2.2 hin S.2.2.2.1 hK.1 hP q0 he hc k hk (va_Nw.use rfl (hK.2 _ hlink)) (fun _ h => h) hv hdg kk
theorem pF {C : String} {T : u_T} {N ci index : Nat} (S : CallFix p m c cc nL s args Ts own) (hK : KK D cI cJ s) (had : inj54 ad) (hP : va_P D vwCl (enc cI cJ ad M) H) (hS : va_S (Fr ad) H0 H locs) (hin : ∀ w ∈ u_ws C T N, w ∈ Ts) {ty0 : Nat → FieldType} (hty : ∀ k, k < N → parseFieldDescriptor (T k).2.2.1 = some (ty0 k)) (hnm : ∀ a, a < N → ∀ b, b < N → a ≠ b → (T a).2.1 ≠ (T b).2.1) {q0 a : Nat} {fs : List Value} (he : (enc cI cJ ad M)[q0]? = some (a, .inr (ci, fs))) (hc : vwCl[ci]? = some (C, T, N)) (k : Nat) (hk : k < N) (hlink : (Cond.fieldLink own index (T k).1 (T k).2.1 (T k).2.2.1).before args s = true) (hfin : (T k).2.2.2 = false) {v : Value} (hn : narrow (ty0 k) v = v) (hfit : fits (ty0 k) v = true) (hl : k < fs.length) {M2 : Mm} (hset : (enc cI cJ ad M).set q0 (a, .inr (ci, fs.set k v)) = enc cI cJ ad M2) (hdg : decode cc pc = .ok (.putfield index, 3))
    (kk : ∀ (H1 : Heap) (locs1 : List Loc), va_P D vwCl (enc cI cJ ad M2) H1 → va_S (Fr ad) H0 H1 locs1 → W p l e R s m args below meth c H1 locs1 cells slots Q (F0 m (pc + 3) ls rest)) : W p l e R s m args below meth c H locs cells slots Q (F0 m pc ls (v :: .ref a :: rest)) :=
  va_put S.1 S.2.1 S.2.2.2.2 hin ty0 hty hnm S.2.2.2.1 hK.1 hP (enc_D had M) hS q0 he hc k hk hlink (fun _ h => h) hfin (hty k hk) hn hfit hl hdg (fun H1 l1 h1 _ h3 => kk H1 l1 (by rw [← hset]; exact h1) h3)
theorem alA (S : CallFix p m c cc nL s args Ts own) (hK : KK D cI cJ s) (hP : va_P D vwCl (enc cI cJ ad M) H) {k : Nat} (h : isA k = true) (hdg : decode cc pc = .ok (.arraylength, 1)) (kk : W p l e R s m args below meth c H locs cells slots Q (F0 m (pc + 1) ls (.int (Int32.ofNat (lenA k)) :: rest))) : W p l e R s m args below meth c H locs cells slots Q (F0 m pc ls (.ref (ad k) :: rest)) := va_alen S.1 S.2.1 hK.1 hP k 0 (eA h) rfl rfl hdg kk
theorem alB (S : CallFix p m c cc nL s args Ts own) (hK : KK D cI cJ s) (hP : va_P D vwCl (enc cI cJ ad M) H) {k : Nat} (h : isB k = true) (hdg : decode cc pc = .ok (.arraylength, 1)) (kk : W p l e R s m args below meth c H locs cells slots Q (F0 m (pc + 1) ls (.int (Int32.ofNat (lenA k)) :: rest))) : W p l e R s m args below meth c H locs cells slots Q (F0 m pc ls (.ref (ad k) :: rest)) := va_alen S.1 S.2.1 hK.1 hP k 1 (eB h) rfl rfl hdg kk
theorem ldA (S : CallFix p m c cc nL s args Ts own) (hK : KK D cI cJ s) (hP : va_P D vwCl (enc cI cJ ad M) H) {k : Nat} (h : isA k = true) {i : Int32} (hin : vp_in i (lenA k)) (hdg : decode cc pc = .ok (.iaload, 1)) (kk : W p l e R s m args below meth c H locs cells slots Q (F0 m (pc + 1) ls (.int (ga M k i.toNatClampNeg) :: rest))) : W p l e R s m args below meth c H locs cells slots Q (F0 m pc ls (.int i :: .ref (ad k) :: rest)) := va_iald S.1 S.2.1 hK.1 hP k 0 (eA h) rfl hin hdg kk
theorem ldB (S : CallFix p m c cc nL s args Ts own) (hK : KK D cI cJ s) (hP : va_P D vwCl (enc cI cJ ad M) H) {k : Nat} (h : isB k = true) {i : Int32} (hin : vp_in i (lenA k)) (hdg : decode cc pc = .ok (.laload, 1)) (kk : W p l e R s m args below meth c H locs cells slots Q (F0 m (pc + 1) ls (.long (gb M k i.toNatClampNeg) :: rest))) : W p l e R s m args below meth c H locs cells slots Q (F0 m pc ls (.int i :: .ref (ad k) :: rest)) := va_lald S.1 S.2.1 hK.1 hP k 1 (eB h) rfl hin hdg kk
theorem stA (S : CallFix p m c cc nL s args Ts own) (hK : KK D cI cJ s) (had : inj54 ad) (hP : va_P D vwCl (enc cI cJ ad M) H) (hS : va_S (Fr ad) H0 H locs) {k : Nat} (h : isA k = true) {i x : Int32} (hin : vp_in i (lenA k)) (hdg : decode cc pc = .ok (.iastore, 1)) (kk : ∀ (H1 : Heap) (locs1 : List Loc), va_P D vwCl (enc cI cJ ad (sa M k (upd (ga M k) i.toNatClampNeg x))) H1 → va_S (Fr ad) H0 H1 locs1 → W p l e R s m args below meth c H1 locs1 cells slots Q (F0 m (pc + 1) ls rest)) : W p l e R s m args below meth c H locs cells slots Q (F0 m pc ls (.int x :: .int i :: .ref (ad k) :: rest)) :=
  va_iast S.1 S.2.1 hK.1 hP (enc_D had M) hS k 0 (eA h) rfl hin hdg (fun H1 l1 h1 _ h3 => kk H1 l1 (by rw [← sA h]; exact h1) h3)
theorem stB (S : CallFix p m c cc nL s args Ts own) (hK : KK D cI cJ s) (had : inj54 ad) (hP : va_P D vwCl (enc cI cJ ad M) H) (hS : va_S (Fr ad) H0 H locs) {k : Nat} (h : isB k = true) {i : Int32} {x : Int64} (hin : vp_in i (lenA k)) (hdg : decode cc pc = .ok (.lastore, 1)) (kk : ∀ (H1 : Heap) (locs1 : List Loc), va_P D vwCl (enc cI cJ ad (sb M k (vp_updL (gb M k) i.toNatClampNeg x))) H1 → va_S (Fr ad) H0 H1 locs1 → W p l e R s m args below meth c H1 locs1 cells slots Q (F0 m (pc + 1) ls rest)) : W p l e R s m args below meth c H locs cells slots Q (F0 m pc ls (.long x :: .int i :: .ref (ad k) :: rest)) :=
  va_last S.1 S.2.1 hK.1 hP (enc_D had M) hS k 1 (eB h) rfl hin hdg (fun H1 l1 h1 _ h3 => kk H1 l1 (by rw [← sB h]; exact h1) h3)
variable {y : MethodName} {bytes : ByteArray} {maxL n index : Nat} {ret : Option FieldType} {ws : List Cond} {rm : Room} {Qc : Array Value → State → Outcome → State → Prop} {b : Addr} {As : List Value} {C : String}
abbrev RunW (p : Program) (l : Launch) (e : Env) (R : Room) (s : State) (m : MethodId) (args : Array Value) (below : List Frame) (meth : Method) (c : Code) (H : Heap) (locs : List Loc) (cells slots : Nat) (g : JFrame) (rest : List Value) (Qa : State → Outcome → State → Prop) (free : Addr → Prop) : Prop := va_Run p l e R s m args below meth c H locs cells slots 0 0 g rest Qa free
theorem rV {ci q0 : Nat} {T : u_T} {N : Nat} {fs : List Value} (S : CallFix p m c cc nL s args Ts own) (hK : KK D cI cJ s) (hP : va_P D vwCl (enc cI cJ ad M) H) (hM : Met l y ws rm (PcW D cI cJ ad M (.ref b :: As)) Qc 0 0 (Fr ad)) (cw : CallW R s args own C index y bytes maxL ret ws rm 0 0 n) (he : (enc cI cJ ad M)[q0]? = some (b, .inr (ci, fs))) (hc : vwCl[ci]? = some (C, T, N)) (hn : As.length = n) (hl : ls.size = nL) (hst : st0 = As.reverse ++ .ref b :: rest) (hrm : (rest.map fun v => v.category).sum ≤ 8) (hdg : decode cc pc = .ok (.invokevirtual index, 3)) (hf : cells ≤ R.cells ∧ slots ≤ R.slots) :
    RunW p l e R s m args below meth c H locs cells slots (F0 m pc ls st0) rest (Qc (Value.ref b :: As).toArray) (Fr ad) :=
  va_runV S hM cw ⟨PcW.blind, va_recv hK.1 hP hc he, fun U hU hW => ⟨rfl, by rw [hU]; exact hP, hK.warm hW⟩⟩ rfl hn hl hst (lv_room (m := m) (pc := pc) (ls := ls) (rest := st0) hrm) hdg hf
theorem rS (S : CallFix p m c cc nL s args Ts own) (hK : KK D cI cJ s) (hP : va_P D vwCl (enc cI cJ ad M) H) (hM : Met l y ws rm (PcW D cI cJ ad M As) Qc 0 0 (Fr ad)) (cw : CallB R s args own index y bytes maxL ret ws rm 0 0 n ∧ (Cond.static y).before args s = true) (hn : As.length = n) (hl : ls.size = nL) (hst : st0 = As.reverse ++ rest) (hrm : (rest.map fun v => v.category).sum ≤ 8) (hdg : decode cc pc = .ok (.invokestatic index, 3)) (hf : cells ≤ R.cells ∧ slots ≤ R.slots) :
    RunW p l e R s m args below meth c H locs cells slots (F0 m pc ls st0) rest (Qc As.toArray) (Fr ad) :=
  va_runS S hM cw ⟨PcW.blind, fun U hU hW => ⟨rfl, by rw [hU]; exact hP, hK.warm hW⟩⟩ rfl hn hl hst (lv_room (m := m) (pc := pc) (ls := ls) (rest := st0) hrm) hdg hf
theorem rSN {host : String} (S : CallFix p m c cc nL s args Ts own) (hK : KK D cI cJ s) (hP : va_P D vwCl (enc cI cJ ad M) H) (hM : Met l y ws rm (PcW D cI cJ ad M As) Qc 0 0 (Fr ad)) (cw : va_CN R s args own index y host bytes maxL ret ws rm 0 0 n ∧ (Cond.static y).before args s = true ∧ True) (hn : As.length = n) (hl : ls.size = nL) (hst : st0 = As.reverse ++ rest) (hrm : (rest.map fun v => v.category).sum ≤ 8) (hdg : decode cc pc = .ok (.invokestatic index, 3)) (hf : cells ≤ R.cells ∧ slots ≤ R.slots) :
    RunW p l e R s m args below meth c H locs cells slots (F0 m pc ls st0) rest (Qc As.toArray) (Fr ad) :=
  va_runSN S hM cw ⟨PcW.blind, fun U hU hW => ⟨rfl, by rw [hU]; exact hP, hK.warm hW⟩⟩ rfl hn hl hst (lv_room (m := m) (pc := pc) (ls := ls) (rest := st0) hrm) hdg hf
variable {a : Array Value}
theorem goI {Qr : Int32 → Mm → Prop} (hr : RunW p l e R s m args below meth c H locs cells slots (F0 m pc ls st0) rest (QiW D cI cJ ad Qr a) (Fr ad)) (hS : va_S (Fr ad) H0 H locs)
    (kk : ∀ (r : Int32) (M1 : Mm) (H1 : Heap) (locs1 : List Loc), va_P D vwCl (enc cI cJ ad M1) H1 → va_S (Fr ad) H0 H1 locs1 → Qr r M1 → W p l e R s m args below meth c H1 locs1 cells slots Q (F0 m (pc + 3) ls (.int r :: rest))) : W p l e R s m args below meth c H locs cells slots Q (F0 m pc ls st0) :=
  va_calli hr hS (fun _ _ h => h) (fun _ h => h) (fun r u t H1 l1 ht _ hp hb _ _ hS1 => kk r u H1 l1 (by rw [← ht]; exact hb) hS1 hp)
theorem goZ {Qr : Int32 → Mm → Prop} (hr : RunW p l e R s m args below meth c H locs cells slots (F0 m pc ls st0) rest (QzW D cI cJ ad Qr a) (Fr ad)) (hS : va_S (Fr ad) H0 H locs)
    (kk : ∀ (r : Int32) (M1 : Mm) (H1 : Heap) (locs1 : List Loc), va_P D vwCl (enc cI cJ ad M1) H1 → va_S (Fr ad) H0 H1 locs1 → nZ r → Qr r M1 → W p l e R s m args below meth c H1 locs1 cells slots Q (F0 m (pc + 3) ls (.int r :: rest))) : W p l e R s m args below meth c H locs cells slots Q (F0 m pc ls st0) :=
  va_calli hr hS (fun _ _ h => h) (fun _ h => h) (fun r u t H1 l1 ht _ hp hb _ _ hS1 => kk r u H1 l1 (by rw [← ht]; exact hb) hS1 hp.1 hp.2)
theorem goL {Qr : Int64 → Mm → Prop} (hr : RunW p l e R s m args below meth c H locs cells slots (F0 m pc ls st0) rest (QlW D cI cJ ad Qr a) (Fr ad)) (hS : va_S (Fr ad) H0 H locs)
    (kk : ∀ (r : Int64) (M1 : Mm) (H1 : Heap) (locs1 : List Loc), va_P D vwCl (enc cI cJ ad M1) H1 → va_S (Fr ad) H0 H1 locs1 → Qr r M1 → W p l e R s m args below meth c H1 locs1 cells slots Q (F0 m (pc + 3) ls (.long r :: rest))) : W p l e R s m args below meth c H locs cells slots Q (F0 m pc ls st0) :=
  va_calll hr hS (fun _ _ h => h) (fun _ h => h) (fun r u t H1 l1 ht _ hp hb _ _ hS1 => kk r u H1 l1 (by rw [← ht]; exact hb) hS1 hp)
theorem goV {Qr : Mm → Prop} (hr : RunW p l e R s m args below meth c H locs cells slots (F0 m pc ls st0) rest (QvW D cI cJ ad Qr a) (Fr ad)) (hS : va_S (Fr ad) H0 H locs)
    (kk : ∀ (M1 : Mm) (H1 : Heap) (locs1 : List Loc), va_P D vwCl (enc cI cJ ad M1) H1 → va_S (Fr ad) H0 H1 locs1 → Qr M1 → W p l e R s m args below meth c H1 locs1 cells slots Q (F0 m (pc + 3) ls rest)) : W p l e R s m args below meth c H locs cells slots Q (F0 m pc ls st0) :=
  va_callv hr hS (fun _ _ h => h) (fun _ h => h) (fun u t H1 l1 ht _ hp hb _ _ hS1 => kk u H1 l1 (by rw [← ht]; exact hb) hS1 hp)
end BASE
theorem lc_eq {x y : Int64} : lg_cmp x y = 0 ↔ x = y := by
  unfold lg_cmp; by_cases h1 : y < x
  · have : x ≠ y := fun q => by subst q; exact absurd h1 (Int64.lt_irrefl _)
    simp [h1, this]
  · by_cases h2 : x = y <;> simp [h1, h2]
theorem lc_lt {x y : Int64} : lg_cmp x y < 0 ↔ x < y := by
  unfold lg_cmp; by_cases h1 : y < x
  · have : ¬ x < y := fun q => absurd (Int64.lt_trans h1 q) (Int64.lt_irrefl _)
    simp [h1, this]
  · by_cases h2 : x = y
    · subst h2; simp [h1]
    · have : x < y := Int64.lt_of_le_of_ne (Int64.not_lt.mp h1) h2
      simp [h1, h2, this]; decide
theorem lc_gt {x y : Int64} : 0 < lg_cmp x y ↔ y < x := by
  unfold lg_cmp; by_cases h1 : y < x
  · simp [h1]
  · by_cases h2 : x = y <;> simp [h1, h2]; decide
theorem lc_ge {x y : Int64} : 0 ≤ lg_cmp x y ↔ y ≤ x := by
  rw [← Int32.not_lt, lc_lt, Int64.not_lt]
theorem lc_le {x y : Int64} : lg_cmp x y ≤ 0 ↔ x ≤ y := by
  rw [← Int32.not_lt, lc_gt, Int64.not_lt]
end
