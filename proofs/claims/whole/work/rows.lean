section
-- ===== PART A: goes FIRST, ahead of the names: the tables' words, and 'selects' of the private methods out of them =====
/-- a private method of a class that the tables say can be made, by its rows of tables_1 -/
def lw_okq (q : MethodName × Nat) : Prop := (q.1.cls ≠ "java/lang/invoke/MethodHandle" ∧ q.1.cls ≠ "java/lang/invoke/VarHandle") ∧ Cond.instantiable q.1.cls q.2 ∈ tables_1 ∧ Cond.privateMethod q.1 ∈ tables_1 ∧ Cond.instanceMethod q.1 ∈ tables_1
theorem lw_p0 : lw_okq (⟨"SandBank$Plan", "tiedToSome", "(I)I"⟩, 17) := ⟨⟨by decide +kernel, by decide +kernel⟩, List.mem_of_getElem? (i := 53) (by decide +kernel), List.mem_of_getElem? (i := 250) (by decide +kernel), List.mem_of_getElem? (i := 251) (by decide +kernel)⟩
theorem lw_p1 : lw_okq (⟨"SandBank$Reader", "readItem", "(LSandBank$Text;LSandBank$Plan;)Z"⟩, 2) := ⟨⟨by decide +kernel, by decide +kernel⟩, List.mem_of_getElem? (i := 39) (by decide +kernel), List.mem_of_getElem? (i := 328) (by decide +kernel), List.mem_of_getElem? (i := 329) (by decide +kernel)⟩
theorem lw_p2 : lw_okq (⟨"SandBank$Reader", "readNumber", "(LSandBank$Text;I)Z"⟩, 2) := ⟨⟨by decide +kernel, by decide +kernel⟩, List.mem_of_getElem? (i := 39) (by decide +kernel), List.mem_of_getElem? (i := 340) (by decide +kernel), List.mem_of_getElem? (i := 341) (by decide +kernel)⟩
theorem lw_p3 : lw_okq (⟨"SandBank$Reader", "addItem", "(ILSandBank$Plan;)Z"⟩, 2) := ⟨⟨by decide +kernel, by decide +kernel⟩, List.mem_of_getElem? (i := 39) (by decide +kernel), List.mem_of_getElem? (i := 345) (by decide +kernel), List.mem_of_getElem? (i := 346) (by decide +kernel)⟩
theorem lw_p4 : lw_okq (⟨"SandBank$Plan", "isTold", "(I)Z"⟩, 17) := ⟨⟨by decide +kernel, by decide +kernel⟩, List.mem_of_getElem? (i := 53) (by decide +kernel), List.mem_of_getElem? (i := 354) (by decide +kernel), List.mem_of_getElem? (i := 355) (by decide +kernel)⟩
theorem lw_p5 : lw_okq (⟨"SandBank", "isGlass", "(I)Z"⟩, 14) := ⟨⟨by decide +kernel, by decide +kernel⟩, List.mem_of_getElem? (i := 15) (by decide +kernel), List.mem_of_getElem? (i := 378) (by decide +kernel), List.mem_of_getElem? (i := 379) (by decide +kernel)⟩
theorem lw_p6 : lw_okq (⟨"SandBank$Changes", "makeRoom", "()V"⟩, 5) := ⟨⟨by decide +kernel, by decide +kernel⟩, List.mem_of_getElem? (i := 155) (by decide +kernel), List.mem_of_getElem? (i := 431) (by decide +kernel), List.mem_of_getElem? (i := 432) (by decide +kernel)⟩
theorem lw_p7 : lw_okq (⟨"SandBank", "lookAhead", "(III)LSandBank$Shelf;"⟩, 14) := ⟨⟨by decide +kernel, by decide +kernel⟩, List.mem_of_getElem? (i := 15) (by decide +kernel), List.mem_of_getElem? (i := 467) (by decide +kernel), List.mem_of_getElem? (i := 468) (by decide +kernel)⟩
theorem lw_p8 : lw_okq (⟨"SandBank", "isDelay", "(III)Z"⟩, 14) := ⟨⟨by decide +kernel, by decide +kernel⟩, List.mem_of_getElem? (i := 15) (by decide +kernel), List.mem_of_getElem? (i := 501) (by decide +kernel), List.mem_of_getElem? (i := 502) (by decide +kernel)⟩
theorem lw_p9 : lw_okq (⟨"SandBank", "countHoldings", "(LSandBank$Shelf;)I"⟩, 14) := ⟨⟨by decide +kernel, by decide +kernel⟩, List.mem_of_getElem? (i := 15) (by decide +kernel), List.mem_of_getElem? (i := 510) (by decide +kernel), List.mem_of_getElem? (i := 511) (by decide +kernel)⟩
theorem lw_p10 : lw_okq (⟨"SandBank$Rounds", "stoodBy", "(LSandBank$Plan;LSandBank$Shelf;II)I"⟩, 3) := ⟨⟨by decide +kernel, by decide +kernel⟩, List.mem_of_getElem? (i := 198) (by decide +kernel), List.mem_of_getElem? (i := 533) (by decide +kernel), List.mem_of_getElem? (i := 534) (by decide +kernel)⟩
theorem lw_p11 : lw_okq (⟨"SandBank$Rounds", "stepRow", "(II)V"⟩, 3) := ⟨⟨by decide +kernel, by decide +kernel⟩, List.mem_of_getElem? (i := 198) (by decide +kernel), List.mem_of_getElem? (i := 541) (by decide +kernel), List.mem_of_getElem? (i := 542) (by decide +kernel)⟩
theorem lw_p12 : lw_okq (⟨"SandBank$Tally", "exceedsEarlier", "(I)Z"⟩, 4) := ⟨⟨by decide +kernel, by decide +kernel⟩, List.mem_of_getElem? (i := 178) (by decide +kernel), List.mem_of_getElem? (i := 576) (by decide +kernel), List.mem_of_getElem? (i := 577) (by decide +kernel)⟩
theorem lw_p13 : lw_okq (⟨"SandBank", "comesFirst", "(IIII)Z"⟩, 14) := ⟨⟨by decide +kernel, by decide +kernel⟩, List.mem_of_getElem? (i := 15) (by decide +kernel), List.mem_of_getElem? (i := 584) (by decide +kernel), List.mem_of_getElem? (i := 585) (by decide +kernel)⟩
theorem lw_p14 : lw_okq (⟨"SandBank", "passNight", "(II)V"⟩, 14) := ⟨⟨by decide +kernel, by decide +kernel⟩, List.mem_of_getElem? (i := 15) (by decide +kernel), List.mem_of_getElem? (i := 595) (by decide +kernel), List.mem_of_getElem? (i := 596) (by decide +kernel)⟩
theorem lw_p15 : lw_okq (⟨"SandBank$Night", "befall", "(LSandBank$Plan;LSandBank$Shelf;II)V"⟩, 3) := ⟨⟨by decide +kernel, by decide +kernel⟩, List.mem_of_getElem? (i := 216) (by decide +kernel), List.mem_of_getElem? (i := 612) (by decide +kernel), List.mem_of_getElem? (i := 613) (by decide +kernel)⟩
def lw_privs_1 : List (MethodName × Nat) := [(⟨"SandBank$Plan", "tiedToSome", "(I)I"⟩, 17), (⟨"SandBank$Reader", "readItem", "(LSandBank$Text;LSandBank$Plan;)Z"⟩, 2), (⟨"SandBank$Reader", "readNumber", "(LSandBank$Text;I)Z"⟩, 2), (⟨"SandBank$Reader", "addItem", "(ILSandBank$Plan;)Z"⟩, 2), (⟨"SandBank$Plan", "isTold", "(I)Z"⟩, 17), (⟨"SandBank", "isGlass", "(I)Z"⟩, 14), (⟨"SandBank$Changes", "makeRoom", "()V"⟩, 5), (⟨"SandBank", "lookAhead", "(III)LSandBank$Shelf;"⟩, 14), (⟨"SandBank", "isDelay", "(III)Z"⟩, 14), (⟨"SandBank", "countHoldings", "(LSandBank$Shelf;)I"⟩, 14), (⟨"SandBank$Rounds", "stoodBy", "(LSandBank$Plan;LSandBank$Shelf;II)I"⟩, 3), (⟨"SandBank$Rounds", "stepRow", "(II)V"⟩, 3), (⟨"SandBank$Tally", "exceedsEarlier", "(I)Z"⟩, 4), (⟨"SandBank", "comesFirst", "(IIII)Z"⟩, 14), (⟨"SandBank", "passNight", "(II)V"⟩, 14), (⟨"SandBank$Night", "befall", "(LSandBank$Plan;LSandBank$Shelf;II)V"⟩, 3)]
theorem lw_r1 : ∀ q ∈ lw_privs_1, lw_okq q := List.forall_mem_cons.mpr ⟨lw_p0, List.forall_mem_cons.mpr ⟨lw_p1, List.forall_mem_cons.mpr ⟨lw_p2, List.forall_mem_cons.mpr ⟨lw_p3, List.forall_mem_cons.mpr ⟨lw_p4, List.forall_mem_cons.mpr ⟨lw_p5, List.forall_mem_cons.mpr ⟨lw_p6, List.forall_mem_cons.mpr ⟨lw_p7, List.forall_mem_cons.mpr ⟨lw_p8, List.forall_mem_cons.mpr ⟨lw_p9, List.forall_mem_cons.mpr ⟨lw_p10, List.forall_mem_cons.mpr ⟨lw_p11, List.forall_mem_cons.mpr ⟨lw_p12, List.forall_mem_cons.mpr ⟨lw_p13, List.forall_mem_cons.mpr ⟨lw_p14, List.forall_mem_cons.mpr ⟨lw_p15, fun _ h => absurd h List.not_mem_nil⟩⟩⟩⟩⟩⟩⟩⟩⟩⟩⟩⟩⟩⟩⟩⟩
theorem lw_p16 : lw_okq (⟨"SandBank$Night", "lose", "(LSandBank$Shelf;II)V"⟩, 3) := ⟨⟨by decide +kernel, by decide +kernel⟩, List.mem_of_getElem? (i := 216) (by decide +kernel), List.mem_of_getElem? (i := 616) (by decide +kernel), List.mem_of_getElem? (i := 617) (by decide +kernel)⟩
theorem lw_p17 : lw_okq (⟨"SandBankModel", "noShelf", "(I)V"⟩, 36) := ⟨⟨by decide +kernel, by decide +kernel⟩, List.mem_of_getElem? (i := 639) (by decide +kernel), List.mem_of_getElem? (i := 645) (by decide +kernel), List.mem_of_getElem? (i := 646) (by decide +kernel)⟩
theorem lw_p18 : lw_okq (⟨"SandBankModel", "layShelf", "()V"⟩, 36) := ⟨⟨by decide +kernel, by decide +kernel⟩, List.mem_of_getElem? (i := 639) (by decide +kernel), List.mem_of_getElem? (i := 649) (by decide +kernel), List.mem_of_getElem? (i := 650) (by decide +kernel)⟩
theorem lw_p19 : lw_okq (⟨"SandBankModel", "readAll", "()I"⟩, 36) := ⟨⟨by decide +kernel, by decide +kernel⟩, List.mem_of_getElem? (i := 639) (by decide +kernel), List.mem_of_getElem? (i := 779) (by decide +kernel), List.mem_of_getElem? (i := 780) (by decide +kernel)⟩
theorem lw_p20 : lw_okq (⟨"SandBankModel", "item", "()Z"⟩, 36) := ⟨⟨by decide +kernel, by decide +kernel⟩, List.mem_of_getElem? (i := 639) (by decide +kernel), List.mem_of_getElem? (i := 783) (by decide +kernel), List.mem_of_getElem? (i := 784) (by decide +kernel)⟩
theorem lw_p21 : lw_okq (⟨"SandBankModel", "byteAt", "(I)I"⟩, 36) := ⟨⟨by decide +kernel, by decide +kernel⟩, List.mem_of_getElem? (i := 639) (by decide +kernel), List.mem_of_getElem? (i := 787) (by decide +kernel), List.mem_of_getElem? (i := 788) (by decide +kernel)⟩
theorem lw_p22 : lw_okq (⟨"SandBankModel", "glassItem", "()Z"⟩, 36) := ⟨⟨by decide +kernel, by decide +kernel⟩, List.mem_of_getElem? (i := 639) (by decide +kernel), List.mem_of_getElem? (i := 791) (by decide +kernel), List.mem_of_getElem? (i := 792) (by decide +kernel)⟩
theorem lw_p23 : lw_okq (⟨"SandBankModel", "figures", "(I)Z"⟩, 36) := ⟨⟨by decide +kernel, by decide +kernel⟩, List.mem_of_getElem? (i := 639) (by decide +kernel), List.mem_of_getElem? (i := 795) (by decide +kernel), List.mem_of_getElem? (i := 796) (by decide +kernel)⟩
theorem lw_p24 : lw_okq (⟨"SandBankModel", "tieItem", "()Z"⟩, 36) := ⟨⟨by decide +kernel, by decide +kernel⟩, List.mem_of_getElem? (i := 639) (by decide +kernel), List.mem_of_getElem? (i := 803) (by decide +kernel), List.mem_of_getElem? (i := 804) (by decide +kernel)⟩
theorem lw_p25 : lw_okq (⟨"SandBankModel", "clerkItem", "()Z"⟩, 36) := ⟨⟨by decide +kernel, by decide +kernel⟩, List.mem_of_getElem? (i := 639) (by decide +kernel), List.mem_of_getElem? (i := 807) (by decide +kernel), List.mem_of_getElem? (i := 808) (by decide +kernel)⟩
theorem lw_p26 : lw_okq (⟨"SandBankModel", "isGlass", "(I)Z"⟩, 36) := ⟨⟨by decide +kernel, by decide +kernel⟩, List.mem_of_getElem? (i := 639) (by decide +kernel), List.mem_of_getElem? (i := 820) (by decide +kernel), List.mem_of_getElem? (i := 821) (by decide +kernel)⟩
theorem lw_p27 : lw_okq (⟨"SandBankModel", "hasOf", "(II)I"⟩, 36) := ⟨⟨by decide +kernel, by decide +kernel⟩, List.mem_of_getElem? (i := 639) (by decide +kernel), List.mem_of_getElem? (i := 832) (by decide +kernel), List.mem_of_getElem? (i := 833) (by decide +kernel)⟩
theorem lw_p28 : lw_okq (⟨"SandBankModel", "clerks", "(I)V"⟩, 36) := ⟨⟨by decide +kernel, by decide +kernel⟩, List.mem_of_getElem? (i := 639) (by decide +kernel), List.mem_of_getElem? (i := 842) (by decide +kernel), List.mem_of_getElem? (i := 843) (by decide +kernel)⟩
theorem lw_p29 : lw_okq (⟨"SandBankModel", "turnOf", "(II)I"⟩, 36) := ⟨⟨by decide +kernel, by decide +kernel⟩, List.mem_of_getElem? (i := 639) (by decide +kernel), List.mem_of_getElem? (i := 846) (by decide +kernel), List.mem_of_getElem? (i := 847) (by decide +kernel)⟩
theorem lw_p30 : lw_okq (⟨"SandBankModel", "tiedTo", "(I)I"⟩, 36) := ⟨⟨by decide +kernel, by decide +kernel⟩, List.mem_of_getElem? (i := 639) (by decide +kernel), List.mem_of_getElem? (i := 850) (by decide +kernel), List.mem_of_getElem? (i := 851) (by decide +kernel)⟩
theorem lw_p31 : lw_okq (⟨"SandBankModel", "fall", "(I)V"⟩, 36) := ⟨⟨by decide +kernel, by decide +kernel⟩, List.mem_of_getElem? (i := 639) (by decide +kernel), List.mem_of_getElem? (i := 857) (by decide +kernel), List.mem_of_getElem? (i := 858) (by decide +kernel)⟩
def lw_privs_2 : List (MethodName × Nat) := [(⟨"SandBank$Night", "lose", "(LSandBank$Shelf;II)V"⟩, 3), (⟨"SandBankModel", "noShelf", "(I)V"⟩, 36), (⟨"SandBankModel", "layShelf", "()V"⟩, 36), (⟨"SandBankModel", "readAll", "()I"⟩, 36), (⟨"SandBankModel", "item", "()Z"⟩, 36), (⟨"SandBankModel", "byteAt", "(I)I"⟩, 36), (⟨"SandBankModel", "glassItem", "()Z"⟩, 36), (⟨"SandBankModel", "figures", "(I)Z"⟩, 36), (⟨"SandBankModel", "tieItem", "()Z"⟩, 36), (⟨"SandBankModel", "clerkItem", "()Z"⟩, 36), (⟨"SandBankModel", "isGlass", "(I)Z"⟩, 36), (⟨"SandBankModel", "hasOf", "(II)I"⟩, 36), (⟨"SandBankModel", "clerks", "(I)V"⟩, 36), (⟨"SandBankModel", "turnOf", "(II)I"⟩, 36), (⟨"SandBankModel", "tiedTo", "(I)I"⟩, 36), (⟨"SandBankModel", "fall", "(I)V"⟩, 36)]
theorem lw_r2 : ∀ q ∈ lw_privs_2, lw_okq q := List.forall_mem_cons.mpr ⟨lw_p16, List.forall_mem_cons.mpr ⟨lw_p17, List.forall_mem_cons.mpr ⟨lw_p18, List.forall_mem_cons.mpr ⟨lw_p19, List.forall_mem_cons.mpr ⟨lw_p20, List.forall_mem_cons.mpr ⟨lw_p21, List.forall_mem_cons.mpr ⟨lw_p22, List.forall_mem_cons.mpr ⟨lw_p23, List.forall_mem_cons.mpr ⟨lw_p24, List.forall_mem_cons.mpr ⟨lw_p25, List.forall_mem_cons.mpr ⟨lw_p26, List.forall_mem_cons.mpr ⟨lw_p27, List.forall_mem_cons.mpr ⟨lw_p28, List.forall_mem_cons.mpr ⟨lw_p29, List.forall_mem_cons.mpr ⟨lw_p30, List.forall_mem_cons.mpr ⟨lw_p31, fun _ h => absurd h List.not_mem_nil⟩⟩⟩⟩⟩⟩⟩⟩⟩⟩⟩⟩⟩⟩⟩⟩
theorem lw_p32 : lw_okq (⟨"SandBankModel", "upper", "(II)I"⟩, 36) := ⟨⟨by decide +kernel, by decide +kernel⟩, List.mem_of_getElem? (i := 639) (by decide +kernel), List.mem_of_getElem? (i := 861) (by decide +kernel), List.mem_of_getElem? (i := 862) (by decide +kernel)⟩
theorem lw_p33 : lw_okq (⟨"SandBankModel", "lower", "(II)I"⟩, 36) := ⟨⟨by decide +kernel, by decide +kernel⟩, List.mem_of_getElem? (i := 639) (by decide +kernel), List.mem_of_getElem? (i := 865) (by decide +kernel), List.mem_of_getElem? (i := 866) (by decide +kernel)⟩
theorem lw_p34 : lw_okq (⟨"SandBankModel", "noteUndo", "(III)V"⟩, 36) := ⟨⟨by decide +kernel, by decide +kernel⟩, List.mem_of_getElem? (i := 639) (by decide +kernel), List.mem_of_getElem? (i := 873) (by decide +kernel), List.mem_of_getElem? (i := 874) (by decide +kernel)⟩
theorem lw_p35 : lw_okq (⟨"SandBankModel", "runOn", "(I)V"⟩, 36) := ⟨⟨by decide +kernel, by decide +kernel⟩, List.mem_of_getElem? (i := 639) (by decide +kernel), List.mem_of_getElem? (i := 894) (by decide +kernel), List.mem_of_getElem? (i := 895) (by decide +kernel)⟩
theorem lw_p36 : lw_okq (⟨"SandBankModel", "copy", "(II)V"⟩, 36) := ⟨⟨by decide +kernel, by decide +kernel⟩, List.mem_of_getElem? (i := 639) (by decide +kernel), List.mem_of_getElem? (i := 898) (by decide +kernel), List.mem_of_getElem? (i := 899) (by decide +kernel)⟩
theorem lw_p37 : lw_okq (⟨"SandBankModel", "standing", "(I)I"⟩, 36) := ⟨⟨by decide +kernel, by decide +kernel⟩, List.mem_of_getElem? (i := 639) (by decide +kernel), List.mem_of_getElem? (i := 902) (by decide +kernel), List.mem_of_getElem? (i := 903) (by decide +kernel)⟩
theorem lw_p38 : lw_okq (⟨"SandBankModel", "isLate", "(III)Z"⟩, 36) := ⟨⟨by decide +kernel, by decide +kernel⟩, List.mem_of_getElem? (i := 639) (by decide +kernel), List.mem_of_getElem? (i := 918) (by decide +kernel), List.mem_of_getElem? (i := 919) (by decide +kernel)⟩
theorem lw_p39 : lw_okq (⟨"SandBankModel", "layMore", "(III)V"⟩, 36) := ⟨⟨by decide +kernel, by decide +kernel⟩, List.mem_of_getElem? (i := 639) (by decide +kernel), List.mem_of_getElem? (i := 922) (by decide +kernel), List.mem_of_getElem? (i := 923) (by decide +kernel)⟩
theorem lw_p40 : lw_okq (⟨"SandBankModel", "lowestStanding", "()I"⟩, 36) := ⟨⟨by decide +kernel, by decide +kernel⟩, List.mem_of_getElem? (i := 639) (by decide +kernel), List.mem_of_getElem? (i := 936) (by decide +kernel), List.mem_of_getElem? (i := 937) (by decide +kernel)⟩
theorem lw_p41 : lw_okq (⟨"SandBankModel", "roundOf", "(III)I"⟩, 36) := ⟨⟨by decide +kernel, by decide +kernel⟩, List.mem_of_getElem? (i := 639) (by decide +kernel), List.mem_of_getElem? (i := 946) (by decide +kernel), List.mem_of_getElem? (i := 947) (by decide +kernel)⟩
theorem lw_p42 : lw_okq (⟨"SandBankModel", "figure", "(III)I"⟩, 36) := ⟨⟨by decide +kernel, by decide +kernel⟩, List.mem_of_getElem? (i := 639) (by decide +kernel), List.mem_of_getElem? (i := 950) (by decide +kernel), List.mem_of_getElem? (i := 951) (by decide +kernel)⟩
theorem lw_p43 : lw_okq (⟨"SandBankModel", "fewest", "(II)I"⟩, 36) := ⟨⟨by decide +kernel, by decide +kernel⟩, List.mem_of_getElem? (i := 639) (by decide +kernel), List.mem_of_getElem? (i := 962) (by decide +kernel), List.mem_of_getElem? (i := 963) (by decide +kernel)⟩
theorem lw_p44 : lw_okq (⟨"SandBankModel", "till", "(II)I"⟩, 36) := ⟨⟨by decide +kernel, by decide +kernel⟩, List.mem_of_getElem? (i := 639) (by decide +kernel), List.mem_of_getElem? (i := 966) (by decide +kernel), List.mem_of_getElem? (i := 967) (by decide +kernel)⟩
theorem lw_p45 : lw_okq (⟨"SandBankModel", "since", "(II)I"⟩, 36) := ⟨⟨by decide +kernel, by decide +kernel⟩, List.mem_of_getElem? (i := 639) (by decide +kernel), List.mem_of_getElem? (i := 970) (by decide +kernel), List.mem_of_getElem? (i := 971) (by decide +kernel)⟩
theorem lw_p46 : lw_okq (⟨"SandBankModel", "falseOnes", "(I)I"⟩, 36) := ⟨⟨by decide +kernel, by decide +kernel⟩, List.mem_of_getElem? (i := 639) (by decide +kernel), List.mem_of_getElem? (i := 974) (by decide +kernel), List.mem_of_getElem? (i := 975) (by decide +kernel)⟩
theorem lw_p47 : lw_okq (⟨"SandBankModel", "goNight", "(II)V"⟩, 36) := ⟨⟨by decide +kernel, by decide +kernel⟩, List.mem_of_getElem? (i := 639) (by decide +kernel), List.mem_of_getElem? (i := 990) (by decide +kernel), List.mem_of_getElem? (i := 991) (by decide +kernel)⟩
def lw_privs_3 : List (MethodName × Nat) := [(⟨"SandBankModel", "upper", "(II)I"⟩, 36), (⟨"SandBankModel", "lower", "(II)I"⟩, 36), (⟨"SandBankModel", "noteUndo", "(III)V"⟩, 36), (⟨"SandBankModel", "runOn", "(I)V"⟩, 36), (⟨"SandBankModel", "copy", "(II)V"⟩, 36), (⟨"SandBankModel", "standing", "(I)I"⟩, 36), (⟨"SandBankModel", "isLate", "(III)Z"⟩, 36), (⟨"SandBankModel", "layMore", "(III)V"⟩, 36), (⟨"SandBankModel", "lowestStanding", "()I"⟩, 36), (⟨"SandBankModel", "roundOf", "(III)I"⟩, 36), (⟨"SandBankModel", "figure", "(III)I"⟩, 36), (⟨"SandBankModel", "fewest", "(II)I"⟩, 36), (⟨"SandBankModel", "till", "(II)I"⟩, 36), (⟨"SandBankModel", "since", "(II)I"⟩, 36), (⟨"SandBankModel", "falseOnes", "(I)I"⟩, 36), (⟨"SandBankModel", "goNight", "(II)V"⟩, 36)]
theorem lw_r3 : ∀ q ∈ lw_privs_3, lw_okq q := List.forall_mem_cons.mpr ⟨lw_p32, List.forall_mem_cons.mpr ⟨lw_p33, List.forall_mem_cons.mpr ⟨lw_p34, List.forall_mem_cons.mpr ⟨lw_p35, List.forall_mem_cons.mpr ⟨lw_p36, List.forall_mem_cons.mpr ⟨lw_p37, List.forall_mem_cons.mpr ⟨lw_p38, List.forall_mem_cons.mpr ⟨lw_p39, List.forall_mem_cons.mpr ⟨lw_p40, List.forall_mem_cons.mpr ⟨lw_p41, List.forall_mem_cons.mpr ⟨lw_p42, List.forall_mem_cons.mpr ⟨lw_p43, List.forall_mem_cons.mpr ⟨lw_p44, List.forall_mem_cons.mpr ⟨lw_p45, List.forall_mem_cons.mpr ⟨lw_p46, List.forall_mem_cons.mpr ⟨lw_p47, fun _ h => absurd h List.not_mem_nil⟩⟩⟩⟩⟩⟩⟩⟩⟩⟩⟩⟩⟩⟩⟩⟩
theorem lw_p48 : lw_okq (⟨"SandBankModel", "suffer", "(II)V"⟩, 36) := ⟨⟨by decide +kernel, by decide +kernel⟩, List.mem_of_getElem? (i := 639) (by decide +kernel), List.mem_of_getElem? (i := 1002) (by decide +kernel), List.mem_of_getElem? (i := 1003) (by decide +kernel)⟩
theorem lw_p49 : lw_okq (⟨"SandBankModel", "copyCounts", "(II)V"⟩, 36) := ⟨⟨by decide +kernel, by decide +kernel⟩, List.mem_of_getElem? (i := 639) (by decide +kernel), List.mem_of_getElem? (i := 1014) (by decide +kernel), List.mem_of_getElem? (i := 1015) (by decide +kernel)⟩
def lw_privs_4 : List (MethodName × Nat) := [(⟨"SandBankModel", "suffer", "(II)V"⟩, 36), (⟨"SandBankModel", "copyCounts", "(II)V"⟩, 36)]
theorem lw_r4 : ∀ q ∈ lw_privs_4, lw_okq q := List.forall_mem_cons.mpr ⟨lw_p48, List.forall_mem_cons.mpr ⟨lw_p49, fun _ h => absurd h List.not_mem_nil⟩⟩
def lw_privs : List (MethodName × Nat) := lw_privs_1 ++ (lw_privs_2 ++ (lw_privs_3 ++ (lw_privs_4)))
def lw_tbl : List Cond := k2_sels lw_privs ++ tables_1
theorem lw_privs_ok : ∀ q ∈ lw_privs, lw_okq q := by
  show ∀ q ∈ lw_privs_1 ++ (lw_privs_2 ++ (lw_privs_3 ++ (lw_privs_4))), lw_okq q
  exact List.forall_mem_append.mpr ⟨lw_r1, List.forall_mem_append.mpr ⟨lw_r2, List.forall_mem_append.mpr ⟨lw_r3, lw_r4⟩⟩⟩
def RX0 : String := "SandBank$Changes"
def TX0 : u_T := fun k => match k with
  | 0 => ("SandBank$Changes", "size", "I", false)
  | 1 => ("SandBank$Changes", "turned", "[I", true)
  | 2 => ("SandBank$Changes", "from", "[I", true)
  | 3 => ("SandBank$Changes", "to", "[I", true)
  | _ => ("SandBank$Changes", "grains", "[I", true)
def tyX0 : Nat → FieldType := fun k => match k with
  | 0 => .int
  | 1 => .array .int
  | 2 => .array .int
  | 3 => .array .int
  | _ => .array .int
abbrev wsX00 : List Cond := u_ws RX0 TX0 5
theorem nmX0 : ∀ a, a < 5 → ∀ b, b < 5 → a ≠ b → (TX0 a).2.1 ≠ (TX0 b).2.1 := by decide +kernel
theorem tyX0_ok : ∀ k, k < 5 → parseFieldDescriptor (TX0 k).2.2.1 = some (tyX0 k) := by decide +kernel
abbrev cX0_init : ByteArray := prog_2_method_1_code
def yX0_init : MethodName := ⟨RX0, "<init>", "()V"⟩
abbrev cX0_noteTurn : ByteArray := prog_2_method_2_code
def yX0_noteTurn : MethodName := ⟨RX0, "noteTurn", "(I)V"⟩
abbrev cX0_notePouring : ByteArray := prog_2_method_3_code
def yX0_notePouring : MethodName := ⟨RX0, "notePouring", "(III)V"⟩
abbrev cX0_makeRoom : ByteArray := prog_2_method_4_code
def yX0_makeRoom : MethodName := ⟨RX0, "makeRoom", "()V"⟩
abbrev cX0_takeBack : ByteArray := prog_2_method_5_code
def yX0_takeBack : MethodName := ⟨RX0, "takeBack", "(LSandBank$Shelf;)V"⟩
def RX1 : String := "SandBank$Night"
def TX1 : u_T := fun k => match k with
  | 0 => ("SandBank$Night", "lost", "I", false)
  | 1 => ("SandBank$Night", "broken", "I", false)
  | _ => ("SandBank$Night", "shards", "I", false)
def tyX1 : Nat → FieldType := fun k => match k with
  | 0 => .int
  | 1 => .int
  | _ => .int
abbrev wsX10 : List Cond := u_ws RX1 TX1 3
theorem nmX1 : ∀ a, a < 3 → ∀ b, b < 3 → a ≠ b → (TX1 a).2.1 ≠ (TX1 b).2.1 := by decide +kernel
theorem tyX1_ok : ∀ k, k < 3 → parseFieldDescriptor (TX1 k).2.2.1 = some (tyX1 k) := by decide +kernel
abbrev cX1_init : ByteArray := prog_3_method_1_code
def yX1_init : MethodName := ⟨RX1, "<init>", "()V"⟩
abbrev cX1_pass : ByteArray := prog_3_method_2_code
def yX1_pass : MethodName := ⟨RX1, "pass", "(LSandBank$Plan;LSandBank$Shelf;II)V"⟩
abbrev cX1_befall : ByteArray := prog_3_method_3_code
def yX1_befall : MethodName := ⟨RX1, "befall", "(LSandBank$Plan;LSandBank$Shelf;II)V"⟩
abbrev cX1_lose : ByteArray := prog_3_method_4_code
def yX1_lose : MethodName := ⟨RX1, "lose", "(LSandBank$Shelf;II)V"⟩
abbrev cX1_draw : ByteArray := prog_3_method_5_code
def yX1_draw : MethodName := ⟨RX1, "draw", "(III)I"⟩
def RX2 : String := "SandBank$Plan"
def TX2 : u_T := fun k => match k with
  | 0 => ("SandBank$Plan", "glasses", "I", false)
  | 1 => ("SandBank$Plan", "kind", "[I", true)
  | 2 => ("SandBank$Plan", "neck", "[I", true)
  | 3 => ("SandBank$Plan", "partner", "[I", true)
  | 4 => ("SandBank$Plan", "owner", "[I", true)
  | 5 => ("SandBank$Plan", "told", "[I", true)
  | 6 => ("SandBank$Plan", "flow", "[I", true)
  | 7 => ("SandBank$Plan", "stickyFlow", "[I", true)
  | 8 => ("SandBank$Plan", "ties", "I", false)
  | 9 => ("SandBank$Plan", "tiedTo", "[I", true)
  | 10 => ("SandBank$Plan", "turnedWith", "[I", true)
  | 11 => ("SandBank$Plan", "clerks", "I", false)
  | 12 => ("SandBank$Plan", "clerkGlass", "[I", true)
  | 13 => ("SandBank$Plan", "clerkEvery", "[I", true)
  | 14 => ("SandBank$Plan", "clerkFirst", "[I", true)
  | 15 => ("SandBank$Plan", "breaks", "I", false)
  | _ => ("SandBank$Plan", "mice", "I", false)
def tyX2 : Nat → FieldType := fun k => match k with
  | 0 => .int
  | 1 => .array .int
  | 2 => .array .int
  | 3 => .array .int
  | 4 => .array .int
  | 5 => .array .int
  | 6 => .array .int
  | 7 => .array .int
  | 8 => .int
  | 9 => .array .int
  | 10 => .array .int
  | 11 => .int
  | 12 => .array .int
  | 13 => .array .int
  | 14 => .array .int
  | 15 => .int
  | _ => .int
abbrev wsX20 : List Cond := u_ws RX2 TX2 17
theorem nmX2 : ∀ a, a < 17 → ∀ b, b < 17 → a ≠ b → (TX2 a).2.1 ≠ (TX2 b).2.1 := by decide +kernel
theorem tyX2_ok : ∀ k, k < 17 → parseFieldDescriptor (TX2 k).2.2.1 = some (tyX2 k) := by decide +kernel
abbrev cX2_init : ByteArray := prog_4_method_1_code
def yX2_init : MethodName := ⟨RX2, "<init>", "()V"⟩
abbrev cX2_clear : ByteArray := prog_4_method_2_code
def yX2_clear : MethodName := ⟨RX2, "clear", "()V"⟩
abbrev cX2_isTold : ByteArray := prog_4_method_3_code
def yX2_isTold : MethodName := ⟨RX2, "isTold", "(I)Z"⟩
abbrev cX2_addGlass : ByteArray := prog_4_method_4_code
def yX2_addGlass : MethodName := ⟨RX2, "addGlass", "(IIIIII)Z"⟩
abbrev cX2_addTie : ByteArray := prog_4_method_5_code
def yX2_addTie : MethodName := ⟨RX2, "addTie", "(II)Z"⟩
abbrev cX2_addClerk : ByteArray := prog_4_method_6_code
def yX2_addClerk : MethodName := ⟨RX2, "addClerk", "(III)Z"⟩
abbrev cX2_setPartner : ByteArray := prog_4_method_7_code
def yX2_setPartner : MethodName := ⟨RX2, "setPartner", "(II)Z"⟩
abbrev cX2_setRisks : ByteArray := prog_4_method_8_code
def yX2_setRisks : MethodName := ⟨RX2, "setRisks", "(II)Z"⟩
abbrev cX2_bindTies : ByteArray := prog_4_method_9_code
def yX2_bindTies : MethodName := ⟨RX2, "bindTies", "()V"⟩
abbrev cX2_tiedToSome : ByteArray := prog_4_method_10_code
def yX2_tiedToSome : MethodName := ⟨RX2, "tiedToSome", "(I)I"⟩
def RX3 : String := "SandBank$Reader"
def TX3 : u_T := fun k => match k with
  | 0 => ("SandBank$Reader", "numbers", "[I", true)
  | _ => ("SandBank$Reader", "place", "I", false)
def tyX3 : Nat → FieldType := fun k => match k with
  | 0 => .array .int
  | _ => .int
abbrev wsX30 : List Cond := u_ws RX3 TX3 2
theorem nmX3 : ∀ a, a < 2 → ∀ b, b < 2 → a ≠ b → (TX3 a).2.1 ≠ (TX3 b).2.1 := by decide +kernel
theorem tyX3_ok : ∀ k, k < 2 → parseFieldDescriptor (TX3 k).2.2.1 = some (tyX3 k) := by decide +kernel
abbrev cX3_init : ByteArray := prog_5_method_1_code
def yX3_init : MethodName := ⟨RX3, "<init>", "()V"⟩
abbrev cX3_readText : ByteArray := prog_5_method_2_code
def yX3_readText : MethodName := ⟨RX3, "readText", "(LSandBank$Text;LSandBank$Plan;)I"⟩
abbrev cX3_readItem : ByteArray := prog_5_method_3_code
def yX3_readItem : MethodName := ⟨RX3, "readItem", "(LSandBank$Text;LSandBank$Plan;)Z"⟩
abbrev cX3_numbersOf : ByteArray := prog_5_method_4_code
def yX3_numbersOf : MethodName := ⟨RX3, "numbersOf", "(I)I"⟩
abbrev cX3_readNumber : ByteArray := prog_5_method_5_code
def yX3_readNumber : MethodName := ⟨RX3, "readNumber", "(LSandBank$Text;I)Z"⟩
abbrev cX3_addItem : ByteArray := prog_5_method_6_code
def yX3_addItem : MethodName := ⟨RX3, "addItem", "(ILSandBank$Plan;)Z"⟩
def RX4 : String := "SandBank$Rounds"
def TX4 : u_T := fun k => match k with
  | 0 => ("SandBank$Rounds", "row", "[I", true)
  | 1 => ("SandBank$Rounds", "best", "[I", true)
  | _ => ("SandBank$Rounds", "fewest", "I", false)
def tyX4 : Nat → FieldType := fun k => match k with
  | 0 => .array .int
  | 1 => .array .int
  | _ => .int
abbrev wsX40 : List Cond := u_ws RX4 TX4 3
theorem nmX4 : ∀ a, a < 3 → ∀ b, b < 3 → a ≠ b → (TX4 a).2.1 ≠ (TX4 b).2.1 := by decide +kernel
theorem tyX4_ok : ∀ k, k < 3 → parseFieldDescriptor (TX4 k).2.2.1 = some (tyX4 k) := by decide +kernel
abbrev cX4_init : ByteArray := prog_6_method_1_code
def yX4_init : MethodName := ⟨RX4, "<init>", "()V"⟩
abbrev cX4_search : ByteArray := prog_6_method_2_code
def yX4_search : MethodName := ⟨RX4, "search", "(LSandBank$Plan;LSandBank$Shelf;LSandBank$Shelf;II)V"⟩
abbrev cX4_stoodBy : ByteArray := prog_6_method_3_code
def yX4_stoodBy : MethodName := ⟨RX4, "stoodBy", "(LSandBank$Plan;LSandBank$Shelf;II)I"⟩
abbrev cX4_stepRow : ByteArray := prog_6_method_4_code
def yX4_stepRow : MethodName := ⟨RX4, "stepRow", "(II)V"⟩
def RX5 : String := "SandBank$Shelf"
def TX5 : u_T := fun k => match k with
  | 0 => ("SandBank$Shelf", "sand", "[I", true)
  | 1 => ("SandBank$Shelf", "up", "I", false)
  | _ => ("SandBank$Shelf", "minute", "I", false)
def tyX5 : Nat → FieldType := fun k => match k with
  | 0 => .array .int
  | 1 => .int
  | _ => .int
abbrev wsX50 : List Cond := u_ws RX5 TX5 3
theorem nmX5 : ∀ a, a < 3 → ∀ b, b < 3 → a ≠ b → (TX5 a).2.1 ≠ (TX5 b).2.1 := by decide +kernel
theorem tyX5_ok : ∀ k, k < 3 → parseFieldDescriptor (TX5 k).2.2.1 = some (tyX5 k) := by decide +kernel
abbrev cX5_init : ByteArray := prog_7_method_1_code
def yX5_init : MethodName := ⟨RX5, "<init>", "()V"⟩
abbrev cX5_fill : ByteArray := prog_7_method_2_code
def yX5_fill : MethodName := ⟨RX5, "fill", "(LSandBank$Plan;)V"⟩
abbrev cX5_copyFrom : ByteArray := prog_7_method_3_code
def yX5_copyFrom : MethodName := ⟨RX5, "copyFrom", "(LSandBank$Shelf;)V"⟩
abbrev cX5_upperSide : ByteArray := prog_7_method_4_code
def yX5_upperSide : MethodName := ⟨RX5, "upperSide", "(I)I"⟩
abbrev cX5_upperBulb : ByteArray := prog_7_method_5_code
def yX5_upperBulb : MethodName := ⟨RX5, "upperBulb", "(I)I"⟩
abbrev cX5_flip : ByteArray := prog_7_method_6_code
def yX5_flip : MethodName := ⟨RX5, "flip", "(I)V"⟩
abbrev cX5_move : ByteArray := prog_7_method_7_code
def yX5_move : MethodName := ⟨RX5, "move", "(III)V"⟩
abbrev cX5_goOn : ByteArray := prog_7_method_8_code
def yX5_goOn : MethodName := ⟨RX5, "goOn", "(LSandBank$Plan;III)V"⟩
abbrev cX5_letClerksTurn : ByteArray := prog_7_method_9_code
def yX5_letClerksTurn : MethodName := ⟨RX5, "letClerksTurn", "(LSandBank$Plan;II)V"⟩
abbrev cX5_letSandFall : ByteArray := prog_7_method_10_code
def yX5_letSandFall : MethodName := ⟨RX5, "letSandFall", "(LSandBank$Plan;)V"⟩
abbrev cX5_flowIn : ByteArray := prog_7_method_11_code
def yX5_flowIn : MethodName := ⟨RX5, "flowIn", "(LSandBank$Plan;I)[I"⟩
abbrev cX5_standing : ByteArray := prog_7_method_12_code
def yX5_standing : MethodName := ⟨RX5, "standing", "(LSandBank$Plan;)I"⟩
abbrev cX5_minutesLeft : ByteArray := prog_7_method_13_code
def yX5_minutesLeft : MethodName := ⟨RX5, "minutesLeft", "(LSandBank$Plan;I)I"⟩
abbrev cX5_grainsOf : ByteArray := prog_7_method_14_code
def yX5_grainsOf : MethodName := ⟨RX5, "grainsOf", "(LSandBank$Plan;I)I"⟩
def RX6 : String := "SandBank$Tally"
def TX6 : u_T := fun k => match k with
  | 0 => ("SandBank$Tally", "size", "I", false)
  | 1 => ("SandBank$Tally", "glass", "[I", true)
  | 2 => ("SandBank$Tally", "minute", "[I", true)
  | _ => ("SandBank$Tally", "grains", "[I", true)
def tyX6 : Nat → FieldType := fun k => match k with
  | 0 => .int
  | 1 => .array .int
  | 2 => .array .int
  | _ => .array .int
abbrev wsX60 : List Cond := u_ws RX6 TX6 4
theorem nmX6 : ∀ a, a < 4 → ∀ b, b < 4 → a ≠ b → (TX6 a).2.1 ≠ (TX6 b).2.1 := by decide +kernel
theorem tyX6_ok : ∀ k, k < 4 → parseFieldDescriptor (TX6 k).2.2.1 = some (tyX6 k) := by decide +kernel
abbrev cX6_init : ByteArray := prog_8_method_1_code
def yX6_init : MethodName := ⟨RX6, "<init>", "()V"⟩
abbrev cX6_note : ByteArray := prog_8_method_2_code
def yX6_note : MethodName := ⟨RX6, "note", "(III)V"⟩
abbrev cX6_missing : ByteArray := prog_8_method_3_code
def yX6_missing : MethodName := ⟨RX6, "missing", "(II)I"⟩
abbrev cX6_till : ByteArray := prog_8_method_4_code
def yX6_till : MethodName := ⟨RX6, "till", "(II)I"⟩
abbrev cX6_since : ByteArray := prog_8_method_5_code
def yX6_since : MethodName := ⟨RX6, "since", "(II)I"⟩
abbrev cX6_falseOnes : ByteArray := prog_8_method_6_code
def yX6_falseOnes : MethodName := ⟨RX6, "falseOnes", "(I)I"⟩
abbrev cX6_exceedsEarlier : ByteArray := prog_8_method_7_code
def yX6_exceedsEarlier : MethodName := ⟨RX6, "exceedsEarlier", "(I)Z"⟩
def RX7 : String := "SandBank$Text"
def TX7 : u_T := fun k => match k with
  | 0 => ("SandBank$Text", "bytes", "[B", true)
  | _ => ("SandBank$Text", "length", "I", false)
def tyX7 : Nat → FieldType := fun k => match k with
  | 0 => .array .byte
  | _ => .int
abbrev wsX70 : List Cond := u_ws RX7 TX7 2
theorem nmX7 : ∀ a, a < 2 → ∀ b, b < 2 → a ≠ b → (TX7 a).2.1 ≠ (TX7 b).2.1 := by decide +kernel
theorem tyX7_ok : ∀ k, k < 2 → parseFieldDescriptor (TX7 k).2.2.1 = some (tyX7 k) := by decide +kernel
abbrev cX7_init : ByteArray := prog_9_method_1_code
def yX7_init : MethodName := ⟨RX7, "<init>", "()V"⟩
abbrev cX7_append : ByteArray := prog_9_method_2_code
def yX7_append : MethodName := ⟨RX7, "append", "(IJ)V"⟩
abbrev cX7_at : ByteArray := prog_9_method_3_code
def yX7_at : MethodName := ⟨RX7, "at", "(I)I"⟩
def RX8 : String := "SandBank"
def TX8 : u_T := fun k => match k with
  | 0 => ("SandBank", "text", "LSandBank$Text;", true)
  | 1 => ("SandBank", "reader", "LSandBank$Reader;", true)
  | 2 => ("SandBank", "plan", "LSandBank$Plan;", false)
  | 3 => ("SandBank", "draft", "LSandBank$Plan;", false)
  | 4 => ("SandBank", "shelf", "LSandBank$Shelf;", true)
  | 5 => ("SandBank", "ahead", "LSandBank$Shelf;", true)
  | 6 => ("SandBank", "changes", "LSandBank$Changes;", true)
  | 7 => ("SandBank", "tally", "LSandBank$Tally;", true)
  | 8 => ("SandBank", "rounds", "LSandBank$Rounds;", true)
  | 9 => ("SandBank", "dark", "LSandBank$Night;", true)
  | 10 => ("SandBank", "keptShelves", "[LSandBank$Shelf;", true)
  | 11 => ("SandBank", "keptCounts", "[I", true)
  | 12 => ("SandBank", "kept", "I", false)
  | _ => ("SandBank", "holdings", "[I", true)
def tyX8 : Nat → FieldType := fun k => match k with
  | 0 => .object "SandBank$Text"
  | 1 => .object "SandBank$Reader"
  | 2 => .object "SandBank$Plan"
  | 3 => .object "SandBank$Plan"
  | 4 => .object "SandBank$Shelf"
  | 5 => .object "SandBank$Shelf"
  | 6 => .object "SandBank$Changes"
  | 7 => .object "SandBank$Tally"
  | 8 => .object "SandBank$Rounds"
  | 9 => .object "SandBank$Night"
  | 10 => .array (.object "SandBank$Shelf")
  | 11 => .array .int
  | 12 => .int
  | _ => .array .int
abbrev wsX80 : List Cond := u_ws RX8 TX8 14
theorem nmX8 : ∀ a, a < 14 → ∀ b, b < 14 → a ≠ b → (TX8 a).2.1 ≠ (TX8 b).2.1 := by decide +kernel
theorem tyX8_ok : ∀ k, k < 14 → parseFieldDescriptor (TX8 k).2.2.1 = some (tyX8 k) := by decide +kernel
abbrev cX8_init : ByteArray := prog_1_method_1_code
def yX8_init : MethodName := ⟨RX8, "<init>", "()V"⟩
abbrev cX8_write : ByteArray := prog_1_method_2_code
def yX8_write : MethodName := ⟨RX8, "write", "(IJ)I"⟩
abbrev cX8_wipe : ByteArray := prog_1_method_3_code
def yX8_wipe : MethodName := ⟨RX8, "wipe", "()I"⟩
abbrev cX8_fault : ByteArray := prog_1_method_4_code
def yX8_fault : MethodName := ⟨RX8, "fault", "()I"⟩
abbrev cX8_lay : ByteArray := prog_1_method_5_code
def yX8_lay : MethodName := ⟨RX8, "lay", "()I"⟩
abbrev cX8_glass : ByteArray := prog_1_method_6_code
def yX8_glass : MethodName := ⟨RX8, "glass", "(II)I"⟩
abbrev cX8_has : ByteArray := prog_1_method_7_code
def yX8_has : MethodName := ⟨RX8, "has", "(I)I"⟩
abbrev cX8_minutes : ByteArray := prog_1_method_8_code
def yX8_minutes : MethodName := ⟨RX8, "minutes", "(I)I"⟩
abbrev cX8_turn : ByteArray := prog_1_method_9_code
def yX8_turn : MethodName := ⟨RX8, "turn", "(I)I"⟩
abbrev cX8_pour : ByteArray := prog_1_method_10_code
def yX8_pour : MethodName := ⟨RX8, "pour", "(IIIII)I"⟩
abbrev cX8_undo : ByteArray := prog_1_method_11_code
def yX8_undo : MethodName := ⟨RX8, "undo", "()I"⟩
abbrev cX8_later : ByteArray := prog_1_method_12_code
def yX8_later : MethodName := ⟨RX8, "later", "(II)I"⟩
abbrev cX8_falls : ByteArray := prog_1_method_13_code
def yX8_falls : MethodName := ⟨RX8, "falls", "(III)I"⟩
abbrev cX8_empty : ByteArray := prog_1_method_14_code
def yX8_empty : MethodName := ⟨RX8, "empty", "(I)I"⟩
abbrev cX8_late : ByteArray := prog_1_method_15_code
def yX8_late : MethodName := ⟨RX8, "late", "(IIII)I"⟩
abbrev cX8_gains : ByteArray := prog_1_method_16_code
def yX8_gains : MethodName := ⟨RX8, "gains", "(IIII)I"⟩
abbrev cX8_run : ByteArray := prog_1_method_17_code
def yX8_run : MethodName := ⟨RX8, "run", "(I)I"⟩
abbrev cX8_round : ByteArray := prog_1_method_18_code
def yX8_round : MethodName := ⟨RX8, "round", "(III)I"⟩
abbrev cX8_counted : ByteArray := prog_1_method_19_code
def yX8_counted : MethodName := ⟨RX8, "counted", "(III)I"⟩
abbrev cX8_stolen : ByteArray := prog_1_method_20_code
def yX8_stolen : MethodName := ⟨RX8, "stolen", "(II)I"⟩
abbrev cX8_split : ByteArray := prog_1_method_21_code
def yX8_split : MethodName := ⟨RX8, "split", "(II)I"⟩
abbrev cX8_night : ByteArray := prog_1_method_22_code
def yX8_night : MethodName := ⟨RX8, "night", "(III)I"⟩
abbrev cX8_nightHas : ByteArray := prog_1_method_23_code
def yX8_nightHas : MethodName := ⟨RX8, "nightHas", "(III)I"⟩
abbrev cX8_keep : ByteArray := prog_1_method_24_code
def yX8_keep : MethodName := ⟨RX8, "keep", "()I"⟩
abbrev cX8_back : ByteArray := prog_1_method_25_code
def yX8_back : MethodName := ⟨RX8, "back", "()I"⟩
abbrev cX8_count : ByteArray := prog_1_method_26_code
def yX8_count : MethodName := ⟨RX8, "count", "(I)I"⟩
abbrev cX8_within : ByteArray := prog_1_method_27_code
def yX8_within : MethodName := ⟨RX8, "within", "(III)Z"⟩
abbrev cX8_isHand : ByteArray := prog_1_method_28_code
def yX8_isHand : MethodName := ⟨RX8, "isHand", "(I)Z"⟩
abbrev cX8_isGlass : ByteArray := prog_1_method_29_code
def yX8_isGlass : MethodName := ⟨RX8, "isGlass", "(I)Z"⟩
abbrev cX8_isDelay : ByteArray := prog_1_method_30_code
def yX8_isDelay : MethodName := ⟨RX8, "isDelay", "(III)Z"⟩
abbrev cX8_isNight : ByteArray := prog_1_method_31_code
def yX8_isNight : MethodName := ⟨RX8, "isNight", "(II)Z"⟩
abbrev cX8_lookAhead : ByteArray := prog_1_method_32_code
def yX8_lookAhead : MethodName := ⟨RX8, "lookAhead", "(III)LSandBank$Shelf;"⟩
abbrev cX8_passNight : ByteArray := prog_1_method_33_code
def yX8_passNight : MethodName := ⟨RX8, "passNight", "(II)V"⟩
abbrev cX8_countHoldings : ByteArray := prog_1_method_34_code
def yX8_countHoldings : MethodName := ⟨RX8, "countHoldings", "(LSandBank$Shelf;)I"⟩
abbrev cX8_comesFirst : ByteArray := prog_1_method_35_code
def yX8_comesFirst : MethodName := ⟨RX8, "comesFirst", "(IIII)Z"⟩
def RX9 : String := "SandBankModel"
def TX9 : u_T := fun k => match k with
  | 0 => ("SandBankModel", "length", "I", false)
  | 1 => ("SandBankModel", "text", "[I", true)
  | 2 => ("SandBankModel", "glassMany", "[I", true)
  | 3 => ("SandBankModel", "kinds", "[I", true)
  | 4 => ("SandBankModel", "handA", "[I", true)
  | 5 => ("SandBankModel", "handB", "[I", true)
  | 6 => ("SandBankModel", "necks", "[I", true)
  | 7 => ("SandBankModel", "toldA", "[I", true)
  | 8 => ("SandBankModel", "toldB", "[I", true)
  | 9 => ("SandBankModel", "partners", "[I", true)
  | 10 => ("SandBankModel", "tieMany", "[I", true)
  | 11 => ("SandBankModel", "ties", "[I", true)
  | 12 => ("SandBankModel", "newTies", "[I", true)
  | 13 => ("SandBankModel", "clerkMany", "[I", true)
  | 14 => ("SandBankModel", "clerkGlass", "[I", true)
  | 15 => ("SandBankModel", "clerkEach", "[I", true)
  | 16 => ("SandBankModel", "clerkFirst", "[I", true)
  | 17 => ("SandBankModel", "breaks", "[I", true)
  | 18 => ("SandBankModel", "mice", "[I", true)
  | 19 => ("SandBankModel", "bulbs", "[I", true)
  | 20 => ("SandBankModel", "ups", "[I", true)
  | 21 => ("SandBankModel", "minute", "[I", true)
  | 22 => ("SandBankModel", "countMany", "[I", true)
  | 23 => ("SandBankModel", "counts", "[I", true)
  | 24 => ("SandBankModel", "keptMany", "I", false)
  | 25 => ("SandBankModel", "undoMany", "I", false)
  | 26 => ("SandBankModel", "undos", "[I", true)
  | 27 => ("SandBankModel", "place", "I", false)
  | 28 => ("SandBankModel", "told", "[I", true)
  | 29 => ("SandBankModel", "lateClerk", "I", false)
  | 30 => ("SandBankModel", "lateBy", "I", false)
  | 31 => ("SandBankModel", "fell", "[I", true)
  | 32 => ("SandBankModel", "emptyMinutes", "I", false)
  | 33 => ("SandBankModel", "more", "[I", true)
  | 34 => ("SandBankModel", "lost", "I", false)
  | _ => ("SandBankModel", "brokenSet", "I", false)
def tyX9 : Nat → FieldType := fun k => match k with
  | 0 => .int
  | 1 => .array .int
  | 2 => .array .int
  | 3 => .array .int
  | 4 => .array .int
  | 5 => .array .int
  | 6 => .array .int
  | 7 => .array .int
  | 8 => .array .int
  | 9 => .array .int
  | 10 => .array .int
  | 11 => .array .int
  | 12 => .array .int
  | 13 => .array .int
  | 14 => .array .int
  | 15 => .array .int
  | 16 => .array .int
  | 17 => .array .int
  | 18 => .array .int
  | 19 => .array .int
  | 20 => .array .int
  | 21 => .array .int
  | 22 => .array .int
  | 23 => .array .int
  | 24 => .int
  | 25 => .int
  | 26 => .array .int
  | 27 => .int
  | 28 => .array .int
  | 29 => .int
  | 30 => .int
  | 31 => .array .int
  | 32 => .int
  | 33 => .array .int
  | 34 => .int
  | _ => .int
abbrev wsX90 : List Cond := u_ws RX9 TX9 36
theorem nmX9 : ∀ a, a < 36 → ∀ b, b < 36 → a ≠ b → (TX9 a).2.1 ≠ (TX9 b).2.1 := by decide +kernel
theorem tyX9_ok : ∀ k, k < 36 → parseFieldDescriptor (TX9 k).2.2.1 = some (tyX9 k) := by decide +kernel
abbrev cX9_init : ByteArray := prog_11_method_1_code
def yX9_init : MethodName := ⟨RX9, "<init>", "()V"⟩
abbrev cX9_in : ByteArray := prog_11_method_2_code
def yX9_in : MethodName := ⟨RX9, "in", "(JJJ)Z"⟩
abbrev cX9_has1 : ByteArray := prog_11_method_3_code
def yX9_has1 : MethodName := ⟨RX9, "has1", "(II)Z"⟩
abbrev cX9_noShelf : ByteArray := prog_11_method_4_code
def yX9_noShelf : MethodName := ⟨RX9, "noShelf", "(I)V"⟩
abbrev cX9_write : ByteArray := prog_11_method_5_code
def yX9_write : MethodName := ⟨RX9, "write", "(IJ)I"⟩
abbrev cX9_wipe : ByteArray := prog_11_method_6_code
def yX9_wipe : MethodName := ⟨RX9, "wipe", "()I"⟩
abbrev cX9_byteAt : ByteArray := prog_11_method_7_code
def yX9_byteAt : MethodName := ⟨RX9, "byteAt", "(I)I"⟩
abbrev cX9_figures : ByteArray := prog_11_method_8_code
def yX9_figures : MethodName := ⟨RX9, "figures", "(I)Z"⟩
abbrev cX9_glassItem : ByteArray := prog_11_method_9_code
def yX9_glassItem : MethodName := ⟨RX9, "glassItem", "()Z"⟩
abbrev cX9_tieItem : ByteArray := prog_11_method_10_code
def yX9_tieItem : MethodName := ⟨RX9, "tieItem", "()Z"⟩
abbrev cX9_clerkItem : ByteArray := prog_11_method_11_code
def yX9_clerkItem : MethodName := ⟨RX9, "clerkItem", "()Z"⟩
abbrev cX9_item : ByteArray := prog_11_method_12_code
def yX9_item : MethodName := ⟨RX9, "item", "()Z"⟩
abbrev cX9_readAll : ByteArray := prog_11_method_13_code
def yX9_readAll : MethodName := ⟨RX9, "readAll", "()I"⟩
abbrev cX9_fault : ByteArray := prog_11_method_14_code
def yX9_fault : MethodName := ⟨RX9, "fault", "()I"⟩
abbrev cX9_layShelf : ByteArray := prog_11_method_15_code
def yX9_layShelf : MethodName := ⟨RX9, "layShelf", "()V"⟩
abbrev cX9_lay : ByteArray := prog_11_method_16_code
def yX9_lay : MethodName := ⟨RX9, "lay", "()I"⟩
abbrev cX9_isGlass : ByteArray := prog_11_method_17_code
def yX9_isGlass : MethodName := ⟨RX9, "isGlass", "(I)Z"⟩
abbrev cX9_isHand : ByteArray := prog_11_method_18_code
def yX9_isHand : MethodName := ⟨RX9, "isHand", "(I)Z"⟩
abbrev cX9_glass : ByteArray := prog_11_method_19_code
def yX9_glass : MethodName := ⟨RX9, "glass", "(II)I"⟩
abbrev cX9_copy : ByteArray := prog_11_method_20_code
def yX9_copy : MethodName := ⟨RX9, "copy", "(II)V"⟩
abbrev cX9_hasOf : ByteArray := prog_11_method_21_code
def yX9_hasOf : MethodName := ⟨RX9, "hasOf", "(II)I"⟩
abbrev cX9_has : ByteArray := prog_11_method_22_code
def yX9_has : MethodName := ⟨RX9, "has", "(I)I"⟩
abbrev cX9_tiedTo : ByteArray := prog_11_method_23_code
def yX9_tiedTo : MethodName := ⟨RX9, "tiedTo", "(I)I"⟩
abbrev cX9_turnOf : ByteArray := prog_11_method_24_code
def yX9_turnOf : MethodName := ⟨RX9, "turnOf", "(II)I"⟩
abbrev cX9_clerks : ByteArray := prog_11_method_25_code
def yX9_clerks : MethodName := ⟨RX9, "clerks", "(I)V"⟩
abbrev cX9_upper : ByteArray := prog_11_method_26_code
def yX9_upper : MethodName := ⟨RX9, "upper", "(II)I"⟩
abbrev cX9_lower : ByteArray := prog_11_method_27_code
def yX9_lower : MethodName := ⟨RX9, "lower", "(II)I"⟩
abbrev cX9_standing : ByteArray := prog_11_method_28_code
def yX9_standing : MethodName := ⟨RX9, "standing", "(I)I"⟩
abbrev cX9_fall : ByteArray := prog_11_method_29_code
def yX9_fall : MethodName := ⟨RX9, "fall", "(I)V"⟩
abbrev cX9_minutes : ByteArray := prog_11_method_30_code
def yX9_minutes : MethodName := ⟨RX9, "minutes", "(I)I"⟩
abbrev cX9_noteUndo : ByteArray := prog_11_method_31_code
def yX9_noteUndo : MethodName := ⟨RX9, "noteUndo", "(III)V"⟩
abbrev cX9_turn : ByteArray := prog_11_method_32_code
def yX9_turn : MethodName := ⟨RX9, "turn", "(I)I"⟩
abbrev cX9_pour : ByteArray := prog_11_method_33_code
def yX9_pour : MethodName := ⟨RX9, "pour", "(IIIII)I"⟩
abbrev cX9_undo : ByteArray := prog_11_method_34_code
def yX9_undo : MethodName := ⟨RX9, "undo", "()I"⟩
abbrev cX9_runOn : ByteArray := prog_11_method_35_code
def yX9_runOn : MethodName := ⟨RX9, "runOn", "(I)V"⟩
abbrev cX9_isLater : ByteArray := prog_11_method_36_code
def yX9_isLater : MethodName := ⟨RX9, "isLater", "(I)Z"⟩
abbrev cX9_later : ByteArray := prog_11_method_37_code
def yX9_later : MethodName := ⟨RX9, "later", "(II)I"⟩
abbrev cX9_falls : ByteArray := prog_11_method_38_code
def yX9_falls : MethodName := ⟨RX9, "falls", "(III)I"⟩
abbrev cX9_empty : ByteArray := prog_11_method_39_code
def yX9_empty : MethodName := ⟨RX9, "empty", "(I)I"⟩
abbrev cX9_isLate : ByteArray := prog_11_method_40_code
def yX9_isLate : MethodName := ⟨RX9, "isLate", "(III)Z"⟩
abbrev cX9_layMore : ByteArray := prog_11_method_41_code
def yX9_layMore : MethodName := ⟨RX9, "layMore", "(III)V"⟩
abbrev cX9_late : ByteArray := prog_11_method_42_code
def yX9_late : MethodName := ⟨RX9, "late", "(IIII)I"⟩
abbrev cX9_gains : ByteArray := prog_11_method_43_code
def yX9_gains : MethodName := ⟨RX9, "gains", "(IIII)I"⟩
abbrev cX9_run : ByteArray := prog_11_method_44_code
def yX9_run : MethodName := ⟨RX9, "run", "(I)I"⟩
abbrev cX9_lowestStanding : ByteArray := prog_11_method_45_code
def yX9_lowestStanding : MethodName := ⟨RX9, "lowestStanding", "()I"⟩
abbrev cX9_roundOf : ByteArray := prog_11_method_46_code
def yX9_roundOf : MethodName := ⟨RX9, "roundOf", "(III)I"⟩
abbrev cX9_figure : ByteArray := prog_11_method_47_code
def yX9_figure : MethodName := ⟨RX9, "figure", "(III)I"⟩
abbrev cX9_round : ByteArray := prog_11_method_48_code
def yX9_round : MethodName := ⟨RX9, "round", "(III)I"⟩
abbrev cX9_counted : ByteArray := prog_11_method_49_code
def yX9_counted : MethodName := ⟨RX9, "counted", "(III)I"⟩
abbrev cX9_fewest : ByteArray := prog_11_method_50_code
def yX9_fewest : MethodName := ⟨RX9, "fewest", "(II)I"⟩
abbrev cX9_till : ByteArray := prog_11_method_51_code
def yX9_till : MethodName := ⟨RX9, "till", "(II)I"⟩
abbrev cX9_since : ByteArray := prog_11_method_52_code
def yX9_since : MethodName := ⟨RX9, "since", "(II)I"⟩
abbrev cX9_falseOnes : ByteArray := prog_11_method_53_code
def yX9_falseOnes : MethodName := ⟨RX9, "falseOnes", "(I)I"⟩
abbrev cX9_stolen : ByteArray := prog_11_method_54_code
def yX9_stolen : MethodName := ⟨RX9, "stolen", "(II)I"⟩
abbrev cX9_split : ByteArray := prog_11_method_55_code
def yX9_split : MethodName := ⟨RX9, "split", "(II)I"⟩
abbrev cX9_draw : ByteArray := prog_11_method_56_code
def yX9_draw : MethodName := ⟨RX9, "draw", "(III)I"⟩
abbrev cX9_goNight : ByteArray := prog_11_method_57_code
def yX9_goNight : MethodName := ⟨RX9, "goNight", "(II)V"⟩
abbrev cX9_suffer : ByteArray := prog_11_method_58_code
def yX9_suffer : MethodName := ⟨RX9, "suffer", "(II)V"⟩
abbrev cX9_isNight : ByteArray := prog_11_method_59_code
def yX9_isNight : MethodName := ⟨RX9, "isNight", "(II)Z"⟩
abbrev cX9_night : ByteArray := prog_11_method_60_code
def yX9_night : MethodName := ⟨RX9, "night", "(III)I"⟩
abbrev cX9_nightHas : ByteArray := prog_11_method_61_code
def yX9_nightHas : MethodName := ⟨RX9, "nightHas", "(III)I"⟩
abbrev cX9_copyCounts : ByteArray := prog_11_method_62_code
def yX9_copyCounts : MethodName := ⟨RX9, "copyCounts", "(II)V"⟩
abbrev cX9_keep : ByteArray := prog_11_method_63_code
def yX9_keep : MethodName := ⟨RX9, "keep", "()I"⟩
abbrev cX9_back : ByteArray := prog_11_method_64_code
def yX9_back : MethodName := ⟨RX9, "back", "()I"⟩
abbrev cX9_count : ByteArray := prog_11_method_65_code
def yX9_count : MethodName := ⟨RX9, "count", "(I)I"⟩
def RJ6 : String := "java/lang/Integer"
abbrev cJ6_bitCount_0f7a4 : ByteArray := prog_12_method_49_code
def yJ6_bitCount_0f7a4 : MethodName := ⟨RJ6, "bitCount", "(I)I"⟩
def RJ9 : String := "java/lang/Math"
abbrev cJ9_max_7cf53 : ByteArray := prog_13_method_65_code
def yJ9_max_7cf53 : MethodName := ⟨RJ9, "max", "(II)I"⟩
abbrev cJ9_min_7cf53 : ByteArray := prog_13_method_69_code
def yJ9_min_7cf53 : MethodName := ⟨RJ9, "min", "(II)I"⟩
def RJ10 : String := "java/lang/System"
def RL : String := "SandBankLaw"
abbrev vwCl : List vw_C := [(RX0, TX0, 5), (RX1, TX1, 3), (RX2, TX2, 17), (RX3, TX3, 2), (RX4, TX4, 3), (RX5, TX5, 3), (RX6, TX6, 4), (RX7, TX7, 2), (RX8, TX8, 14), (RX9, TX9, 36)]
end
section
/-! The tables: written by wip/whole/gen1.py out of the printed names and the statement; code as lists of (pc, instruction, length), resolved pools, methods, shapes of the cells in the order in which they are made. -/
abbrev CL := List (Nat × Instr × Nat)
abbrev PE := Nat × Nat × Nat × Int
def kc_X0_init : CL := [(0, .aload_n 0, 1), (1, .invokespecial 1, 3), (4, .aload_n 0, 1), (5, .iconst 0, 1), (6, .putfield 7, 3), (9, .aload_n 0, 1), (10, .bipush 8, 2), (12, .newarray .int, 2), (14, .putfield 13, 3), (17, .aload_n 0, 1), (18, .bipush 8, 2), (20, .newarray .int, 2), (22, .putfield 17, 3), (25, .aload_n 0, 1), (26, .bipush 8, 2), (28, .newarray .int, 2), (30, .putfield 20, 3), (33, .aload_n 0, 1), (34, .bipush 8, 2), (36, .newarray .int, 2), (38, .putfield 23, 3), (41, .return_, 1)]
def kc_X0_noteTurn : CL := [(0, .aload_n 0, 1), (1, .invokevirtual 26, 3), (4, .aload_n 0, 1), (5, .getfield 13, 3), (8, .aload_n 0, 1), (9, .getfield 7, 3), (12, .iload_n 1, 1), (13, .iastore, 1), (14, .aload_n 0, 1), (15, .dup, 1), (16, .getfield 7, 3), (19, .iconst 1, 1), (20, .iadd, 1), (21, .putfield 7, 3), (24, .return_, 1)]
def kc_X0_notePouring : CL := [(0, .aload_n 0, 1), (1, .invokevirtual 26, 3), (4, .aload_n 0, 1), (5, .getfield 13, 3), (8, .aload_n 0, 1), (9, .getfield 7, 3), (12, .iconst 0, 1), (13, .iastore, 1), (14, .aload_n 0, 1), (15, .getfield 17, 3), (18, .aload_n 0, 1), (19, .getfield 7, 3), (22, .iload_n 1, 1), (23, .iastore, 1), (24, .aload_n 0, 1), (25, .getfield 20, 3), (28, .aload_n 0, 1), (29, .getfield 7, 3), (32, .iload_n 2, 1), (33, .iastore, 1), (34, .aload_n 0, 1), (35, .getfield 23, 3), (38, .aload_n 0, 1), (39, .getfield 7, 3), (42, .iload_n 3, 1), (43, .iastore, 1), (44, .aload_n 0, 1), (45, .dup, 1), (46, .getfield 7, 3), (49, .iconst 1, 1), (50, .iadd, 1), (51, .putfield 7, 3), (54, .return_, 1)]
def kc_X0_makeRoom : CL := [(0, .aload_n 0, 1), (1, .getfield 7, 3), (4, .bipush 8, 2), (6, .if_icmp .ge 4, 3), (9, .return_, 1), (10, .iconst 1, 1), (11, .istore_n 1, 1), (12, .iload_n 1, 1), (13, .bipush 8, 2), (15, .if_icmp .ge 65, 3), (18, .aload_n 0, 1), (19, .getfield 13, 3), (22, .iload_n 1, 1), (23, .iconst 1, 1), (24, .isub, 1), (25, .aload_n 0, 1), (26, .getfield 13, 3), (29, .iload_n 1, 1), (30, .iaload, 1), (31, .iastore, 1), (32, .aload_n 0, 1), (33, .getfield 17, 3), (36, .iload_n 1, 1), (37, .iconst 1, 1), (38, .isub, 1), (39, .aload_n 0, 1), (40, .getfield 17, 3), (43, .iload_n 1, 1), (44, .iaload, 1), (45, .iastore, 1), (46, .aload_n 0, 1), (47, .getfield 20, 3), (50, .iload_n 1, 1), (51, .iconst 1, 1), (52, .isub, 1), (53, .aload_n 0, 1), (54, .getfield 20, 3), (57, .iload_n 1, 1), (58, .iaload, 1), (59, .iastore, 1), (60, .aload_n 0, 1), (61, .getfield 23, 3), (64, .iload_n 1, 1), (65, .iconst 1, 1), (66, .isub, 1), (67, .aload_n 0, 1), (68, .getfield 23, 3), (71, .iload_n 1, 1), (72, .iaload, 1), (73, .iastore, 1), (74, .iinc 1 1, 3), (77, .goto (-65), 3), (80, .aload_n 0, 1), (81, .bipush 7, 2), (83, .putfield 7, 3), (86, .return_, 1)]
def kc_X0_takeBack : CL := [(0, .aload_n 0, 1), (1, .getfield 7, 3), (4, .ifCond .gt 4, 3), (7, .return_, 1), (8, .aload_n 0, 1), (9, .dup, 1), (10, .getfield 7, 3), (13, .iconst 1, 1), (14, .isub, 1), (15, .putfield 7, 3), (18, .aload_n 0, 1), (19, .getfield 13, 3), (22, .aload_n 0, 1), (23, .getfield 7, 3), (26, .iaload, 1), (27, .ifCond .eq 19, 3), (30, .aload_n 1, 1), (31, .aload_n 0, 1), (32, .getfield 13, 3), (35, .aload_n 0, 1), (36, .getfield 7, 3), (39, .iaload, 1), (40, .invokevirtual 29, 3), (43, .goto 34, 3), (46, .aload_n 1, 1), (47, .aload_n 0, 1), (48, .getfield 20, 3), (51, .aload_n 0, 1), (52, .getfield 7, 3), (55, .iaload, 1), (56, .aload_n 0, 1), (57, .getfield 17, 3), (60, .aload_n 0, 1), (61, .getfield 7, 3), (64, .iaload, 1), (65, .aload_n 0, 1), (66, .getfield 23, 3), (69, .aload_n 0, 1), (70, .getfield 7, 3), (73, .iaload, 1), (74, .invokevirtual 35, 3), (77, .return_, 1)]
def kc_X1_init : CL := [(0, .aload_n 0, 1), (1, .invokespecial 3, 3), (4, .aload_n 0, 1), (5, .iconst 0, 1), (6, .putfield 9, 3), (9, .aload_n 0, 1), (10, .iconst 0, 1), (11, .putfield 15, 3), (14, .aload_n 0, 1), (15, .iconst 0, 1), (16, .putfield 18, 3), (19, .return_, 1)]
def kc_X1_pass : CL := [(0, .aload_n 0, 1), (1, .iconst 0, 1), (2, .putfield 9, 3), (5, .aload_n 0, 1), (6, .iconst 0, 1), (7, .putfield 15, 3), (10, .aload_n 0, 1), (11, .iconst 0, 1), (12, .putfield 18, 3), (15, .iconst 0, 1), (16, .istore 5, 2), (18, .iload 5, 2), (20, .iload 4, 2), (22, .if_icmp .ge 67, 3), (25, .aload_n 2, 1), (26, .aload_n 1, 1), (27, .iconst (-1), 1), (28, .iconst 0, 1), (29, .invokevirtual 21, 3), (32, .iconst 0, 1), (33, .istore 6, 2), (35, .iload 6, 2), (37, .aload_n 1, 1), (38, .getfield 27, 3), (41, .if_icmp .ge 37, 3), (44, .aload_n 0, 1), (45, .getfield 18, 3), (48, .iload 6, 2), (50, .ishr, 1), (51, .iconst 1, 1), (52, .iand, 1), (53, .ifCond .ne 19, 3), (56, .aload_n 0, 1), (57, .aload_n 1, 1), (58, .aload_n 2, 1), (59, .iload 6, 2), (61, .iload_n 3, 1), (62, .iload 6, 2), (64, .iload 5, 2), (66, .invokestatic 32, 3), (69, .invokevirtual 36, 3), (72, .iinc 6 1, 3), (75, .goto (-40), 3), (78, .aload_n 2, 1), (79, .aload_n 1, 1), (80, .invokevirtual 40, 3), (83, .iinc 5 1, 3), (86, .goto (-68), 3), (89, .return_, 1)]
def kc_X1_befall : CL := [(0, .iload 4, 2), (2, .aload_n 1, 1), (3, .getfield 44, 3), (6, .if_icmp .ge 64, 3), (9, .aload_n 0, 1), (10, .dup, 1), (11, .getfield 18, 3), (14, .iconst 1, 1), (15, .iload_n 3, 1), (16, .ishl, 1), (17, .ior, 1), (18, .putfield 18, 3), (21, .aload_n 0, 1), (22, .dup, 1), (23, .getfield 15, 3), (26, .iconst 1, 1), (27, .iadd, 1), (28, .putfield 15, 3), (31, .aload_n 0, 1), (32, .aload_n 2, 1), (33, .iconst 2, 1), (34, .iload_n 3, 1), (35, .imul, 1), (36, .aload_n 2, 1), (37, .getfield 47, 3), (40, .iconst 2, 1), (41, .iload_n 3, 1), (42, .imul, 1), (43, .iaload, 1), (44, .invokevirtual 51, 3), (47, .aload_n 0, 1), (48, .aload_n 2, 1), (49, .iconst 2, 1), (50, .iload_n 3, 1), (51, .imul, 1), (52, .iconst 1, 1), (53, .iadd, 1), (54, .aload_n 2, 1), (55, .getfield 47, 3), (58, .iconst 2, 1), (59, .iload_n 3, 1), (60, .imul, 1), (61, .iconst 1, 1), (62, .iadd, 1), (63, .iaload, 1), (64, .invokevirtual 51, 3), (67, .goto 42, 3), (70, .iload 4, 2), (72, .aload_n 1, 1), (73, .getfield 44, 3), (76, .aload_n 1, 1), (77, .getfield 55, 3), (80, .iadd, 1), (81, .if_icmp .ge 28, 3), (84, .aload_n 2, 1), (85, .iload_n 3, 1), (86, .invokevirtual 58, 3), (89, .istore 5, 2), (91, .aload_n 0, 1), (92, .aload_n 2, 1), (93, .iload 5, 2), (95, .iconst 3, 1), (96, .aload_n 2, 1), (97, .getfield 47, 3), (100, .iload 5, 2), (102, .iaload, 1), (103, .invokestatic 62, 3), (106, .invokevirtual 51, 3), (109, .return_, 1)]
def kc_X1_lose : CL := [(0, .aload_n 1, 1), (1, .getfield 47, 3), (4, .iload_n 2, 1), (5, .dup2, 1), (6, .iaload, 1), (7, .iload_n 3, 1), (8, .isub, 1), (9, .iastore, 1), (10, .aload_n 0, 1), (11, .dup, 1), (12, .getfield 9, 3), (15, .iload_n 3, 1), (16, .iadd, 1), (17, .putfield 9, 3), (20, .return_, 1)]
def kc_X1_draw : CL := [(0, .ldc2_w 68, 3), (3, .iload_n 0, 1), (4, .i2l, 1), (5, .lmul, 1), (6, .ldc2_w 70, 3), (9, .iload_n 1, 1), (10, .i2l, 1), (11, .lmul, 1), (12, .ladd, 1), (13, .ldc2_w 72, 3), (16, .iload_n 2, 1), (17, .i2l, 1), (18, .lmul, 1), (19, .ladd, 1), (20, .lconst 1, 1), (21, .ladd, 1), (22, .lstore_n 3, 1), (23, .lload_n 3, 1), (24, .lload_n 3, 1), (25, .lmul, 1), (26, .ldc2_w 74, 3), (29, .lrem, 1), (30, .ldc2_w 76, 3), (33, .lrem, 1), (34, .l2i, 1), (35, .ireturn, 1)]
def kc_X2_init : CL := [(0, .aload_n 0, 1), (1, .invokespecial 3, 3), (4, .aload_n 0, 1), (5, .iconst 0, 1), (6, .putfield 9, 3), (9, .aload_n 0, 1), (10, .bipush 8, 2), (12, .newarray .int, 2), (14, .putfield 15, 3), (17, .aload_n 0, 1), (18, .bipush 8, 2), (20, .newarray .int, 2), (22, .putfield 19, 3), (25, .aload_n 0, 1), (26, .bipush 8, 2), (28, .newarray .int, 2), (30, .putfield 22, 3), (33, .aload_n 0, 1), (34, .bipush 16, 2), (36, .newarray .int, 2), (38, .putfield 25, 3), (41, .aload_n 0, 1), (42, .bipush 16, 2), (44, .newarray .int, 2), (46, .putfield 28, 3), (49, .aload_n 0, 1), (50, .bipush 8, 2), (52, .newarray .int, 2), (54, .putfield 31, 3), (57, .aload_n 0, 1), (58, .bipush 8, 2), (60, .newarray .int, 2), (62, .putfield 34, 3), (65, .aload_n 0, 1), (66, .iconst 0, 1), (67, .putfield 37, 3), (70, .aload_n 0, 1), (71, .bipush 8, 2), (73, .newarray .int, 2), (75, .putfield 40, 3), (78, .aload_n 0, 1), (79, .bipush 8, 2), (81, .newarray .int, 2), (83, .putfield 43, 3), (86, .aload_n 0, 1), (87, .iconst 0, 1), (88, .putfield 46, 3), (91, .aload_n 0, 1), (92, .bipush 8, 2), (94, .newarray .int, 2), (96, .putfield 49, 3), (99, .aload_n 0, 1), (100, .bipush 8, 2), (102, .newarray .int, 2), (104, .putfield 52, 3), (107, .aload_n 0, 1), (108, .bipush 8, 2), (110, .newarray .int, 2), (112, .putfield 55, 3), (115, .aload_n 0, 1), (116, .iconst 0, 1), (117, .putfield 58, 3), (120, .aload_n 0, 1), (121, .iconst 0, 1), (122, .putfield 61, 3), (125, .return_, 1)]
def kc_X2_clear : CL := [(0, .aload_n 0, 1), (1, .iconst 0, 1), (2, .putfield 9, 3), (5, .aload_n 0, 1), (6, .iconst 0, 1), (7, .putfield 37, 3), (10, .aload_n 0, 1), (11, .iconst 0, 1), (12, .putfield 46, 3), (15, .aload_n 0, 1), (16, .iconst 0, 1), (17, .putfield 58, 3), (20, .aload_n 0, 1), (21, .iconst 0, 1), (22, .putfield 61, 3), (25, .return_, 1)]
def kc_X2_isTold : CL := [(0, .iload_n 1, 1), (1, .iconst 0, 1), (2, .aload_n 0, 1), (3, .getfield 9, 3), (6, .iconst 1, 1), (7, .isub, 1), (8, .invokestatic 64, 3), (11, .ireturn, 1)]
def kc_X2_addGlass : CL := [(0, .aload_n 0, 1), (1, .getfield 9, 3), (4, .bipush 8, 2), (6, .if_icmp .ge 61, 3), (9, .iload_n 1, 1), (10, .iconst 0, 1), (11, .iconst 3, 1), (12, .invokestatic 64, 3), (15, .ifCond .eq 52, 3), (18, .iload_n 2, 1), (19, .invokestatic 68, 3), (22, .ifCond .eq 45, 3), (25, .iload_n 3, 1), (26, .invokestatic 68, 3), (29, .ifCond .eq 38, 3), (32, .iload 4, 2), (34, .iconst 1, 1), (35, .bipush 60, 2), (37, .invokestatic 64, 3), (40, .ifCond .eq 27, 3), (43, .iload 5, 2), (45, .iconst 0, 1), (46, .sipush 999, 3), (49, .invokestatic 64, 3), (52, .ifCond .eq 15, 3), (55, .iload 6, 2), (57, .iconst 0, 1), (58, .sipush 999, 3), (61, .invokestatic 64, 3), (64, .ifCond .ne 5, 3), (67, .iconst 0, 1), (68, .ireturn, 1), (69, .aload_n 0, 1), (70, .getfield 9, 3), (73, .istore 7, 2), (75, .aload_n 0, 1), (76, .getfield 15, 3), (79, .iload 7, 2), (81, .iload_n 1, 1), (82, .iastore, 1), (83, .aload_n 0, 1), (84, .getfield 19, 3), (87, .iload 7, 2), (89, .iload 4, 2), (91, .iastore, 1), (92, .aload_n 0, 1), (93, .getfield 22, 3), (96, .iload 7, 2), (98, .iload_n 2, 1), (99, .iastore, 1), (100, .aload_n 0, 1), (101, .getfield 25, 3), (104, .iconst 2, 1), (105, .iload 7, 2), (107, .imul, 1), (108, .iload_n 2, 1), (109, .iastore, 1), (110, .aload_n 0, 1), (111, .getfield 25, 3), (114, .iconst 2, 1), (115, .iload 7, 2), (117, .imul, 1), (118, .iconst 1, 1), (119, .iadd, 1), (120, .iload_n 3, 1), (121, .iastore, 1), (122, .aload_n 0, 1), (123, .getfield 28, 3), (126, .iconst 2, 1), (127, .iload 7, 2), (129, .imul, 1), (130, .iload 5, 2), (132, .iastore, 1), (133, .aload_n 0, 1), (134, .getfield 28, 3), (137, .iconst 2, 1), (138, .iload 7, 2), (140, .imul, 1), (141, .iconst 1, 1), (142, .iadd, 1), (143, .iload 6, 2), (145, .iastore, 1), (146, .aload_n 0, 1), (147, .getfield 31, 3), (150, .iload 7, 2), (152, .iload_n 1, 1), (153, .iconst 3, 1), (154, .if_icmp .ne 10, 3), (157, .iconst 2, 1), (158, .iload 4, 2), (160, .imul, 1), (161, .goto 5, 3), (164, .iload 4, 2), (166, .iastore, 1), (167, .aload_n 0, 1), (168, .getfield 34, 3), (171, .iload 7, 2), (173, .iload_n 1, 1), (174, .iconst 1, 1), (175, .if_icmp .eq 8, 3), (178, .iload_n 1, 1), (179, .iconst 3, 1), (180, .if_icmp .ne 7, 3), (183, .iconst 0, 1), (184, .goto 5, 3), (187, .iload 4, 2), (189, .iastore, 1), (190, .aload_n 0, 1), (191, .getfield 40, 3), (194, .iload 7, 2), (196, .iconst 0, 1), (197, .iastore, 1), (198, .aload_n 0, 1), (199, .dup, 1), (200, .getfield 9, 3), (203, .iconst 1, 1), (204, .iadd, 1), (205, .putfield 9, 3), (208, .iconst 1, 1), (209, .ireturn, 1)]
def kc_X2_addTie : CL := [(0, .aload_n 0, 1), (1, .getfield 37, 3), (4, .bipush 8, 2), (6, .if_icmp .ge 24, 3), (9, .aload_n 0, 1), (10, .iload_n 1, 1), (11, .invokevirtual 72, 3), (14, .ifCond .eq 16, 3), (17, .aload_n 0, 1), (18, .iload_n 2, 1), (19, .invokevirtual 72, 3), (22, .ifCond .eq 8, 3), (25, .iload_n 1, 1), (26, .iload_n 2, 1), (27, .if_icmp .ne 5, 3), (30, .iconst 0, 1), (31, .ireturn, 1), (32, .aload_n 0, 1), (33, .getfield 40, 3), (36, .iload_n 1, 1), (37, .dup2, 1), (38, .iaload, 1), (39, .iconst 1, 1), (40, .iload_n 2, 1), (41, .ishl, 1), (42, .ior, 1), (43, .iastore, 1), (44, .aload_n 0, 1), (45, .dup, 1), (46, .getfield 37, 3), (49, .iconst 1, 1), (50, .iadd, 1), (51, .putfield 37, 3), (54, .iconst 1, 1), (55, .ireturn, 1)]
def kc_X2_addClerk : CL := [(0, .aload_n 0, 1), (1, .getfield 46, 3), (4, .bipush 8, 2), (6, .if_icmp .ge 31, 3), (9, .aload_n 0, 1), (10, .iload_n 1, 1), (11, .invokevirtual 72, 3), (14, .ifCond .eq 23, 3), (17, .iload_n 2, 1), (18, .iconst 1, 1), (19, .bipush 99, 2), (21, .invokestatic 64, 3), (24, .ifCond .eq 13, 3), (27, .iload_n 3, 1), (28, .iconst 0, 1), (29, .bipush 99, 2), (31, .invokestatic 64, 3), (34, .ifCond .ne 5, 3), (37, .iconst 0, 1), (38, .ireturn, 1), (39, .aload_n 0, 1), (40, .getfield 49, 3), (43, .aload_n 0, 1), (44, .getfield 46, 3), (47, .iload_n 1, 1), (48, .iastore, 1), (49, .aload_n 0, 1), (50, .getfield 52, 3), (53, .aload_n 0, 1), (54, .getfield 46, 3), (57, .iload_n 2, 1), (58, .iastore, 1), (59, .aload_n 0, 1), (60, .getfield 55, 3), (63, .aload_n 0, 1), (64, .getfield 46, 3), (67, .iload_n 3, 1), (68, .iastore, 1), (69, .aload_n 0, 1), (70, .dup, 1), (71, .getfield 46, 3), (74, .iconst 1, 1), (75, .iadd, 1), (76, .putfield 46, 3), (79, .iconst 1, 1), (80, .ireturn, 1)]
def kc_X2_setPartner : CL := [(0, .aload_n 0, 1), (1, .iload_n 1, 1), (2, .invokevirtual 72, 3), (5, .ifCond .eq 10, 3), (8, .iload_n 2, 1), (9, .invokestatic 68, 3), (12, .ifCond .ne 5, 3), (15, .iconst 0, 1), (16, .ireturn, 1), (17, .aload_n 0, 1), (18, .getfield 22, 3), (21, .iload_n 1, 1), (22, .iload_n 2, 1), (23, .iastore, 1), (24, .iconst 1, 1), (25, .ireturn, 1)]
def kc_X2_setRisks : CL := [(0, .iload_n 1, 1), (1, .iconst 0, 1), (2, .bipush 99, 2), (4, .invokestatic 64, 3), (7, .ifCond .eq 13, 3), (10, .iload_n 2, 1), (11, .iconst 0, 1), (12, .bipush 99, 2), (14, .invokestatic 64, 3), (17, .ifCond .ne 5, 3), (20, .iconst 0, 1), (21, .ireturn, 1), (22, .aload_n 0, 1), (23, .iload_n 1, 1), (24, .putfield 58, 3), (27, .aload_n 0, 1), (28, .iload_n 2, 1), (29, .putfield 61, 3), (32, .iconst 1, 1), (33, .ireturn, 1)]
def kc_X2_bindTies : CL := [(0, .iconst 0, 1), (1, .istore_n 1, 1), (2, .iload_n 1, 1), (3, .aload_n 0, 1), (4, .getfield 9, 3), (7, .if_icmp .ge 44, 3), (10, .iconst 1, 1), (11, .iload_n 1, 1), (12, .ishl, 1), (13, .istore_n 2, 1), (14, .iconst 1, 1), (15, .istore_n 3, 1), (16, .iload_n 3, 1), (17, .aload_n 0, 1), (18, .getfield 9, 3), (21, .if_icmp .ge 17, 3), (24, .iload_n 2, 1), (25, .aload_n 0, 1), (26, .iload_n 2, 1), (27, .invokevirtual 75, 3), (30, .ior, 1), (31, .istore_n 2, 1), (32, .iinc 3 1, 3), (35, .goto (-19), 3), (38, .aload_n 0, 1), (39, .getfield 43, 3), (42, .iload_n 1, 1), (43, .iload_n 2, 1), (44, .iastore, 1), (45, .iinc 1 1, 3), (48, .goto (-46), 3), (51, .return_, 1)]
def kc_X2_tiedToSome : CL := [(0, .iconst 0, 1), (1, .istore_n 2, 1), (2, .iconst 0, 1), (3, .istore_n 3, 1), (4, .iload_n 3, 1), (5, .aload_n 0, 1), (6, .getfield 9, 3), (9, .if_icmp .ge 27, 3), (12, .iload_n 1, 1), (13, .iload_n 3, 1), (14, .ishr, 1), (15, .iconst 1, 1), (16, .iand, 1), (17, .iconst 1, 1), (18, .if_icmp .ne 12, 3), (21, .iload_n 2, 1), (22, .aload_n 0, 1), (23, .getfield 40, 3), (26, .iload_n 3, 1), (27, .iaload, 1), (28, .ior, 1), (29, .istore_n 2, 1), (30, .iinc 3 1, 3), (33, .goto (-29), 3), (36, .iload_n 2, 1), (37, .ireturn, 1)]
def kc_X3_init : CL := [(0, .aload_n 0, 1), (1, .invokespecial 3, 3), (4, .aload_n 0, 1), (5, .bipush 6, 2), (7, .newarray .int, 2), (9, .putfield 11, 3), (12, .aload_n 0, 1), (13, .iconst 0, 1), (14, .putfield 15, 3), (17, .return_, 1)]
def kc_X3_readText : CL := [(0, .aload_n 2, 1), (1, .invokevirtual 19, 3), (4, .aload_n 0, 1), (5, .iconst 0, 1), (6, .putfield 15, 3), (9, .iconst 0, 1), (10, .istore_n 3, 1), (11, .iload_n 3, 1), (12, .sipush 400, 3), (15, .if_icmp .ge 38, 3), (18, .aload_n 0, 1), (19, .getfield 15, 3), (22, .aload_n 1, 1), (23, .getfield 24, 3), (26, .if_icmp .ge 27, 3), (29, .aload_n 0, 1), (30, .getfield 15, 3), (33, .istore 4, 2), (35, .aload_n 0, 1), (36, .aload_n 1, 1), (37, .aload_n 2, 1), (38, .invokevirtual 29, 3), (41, .ifCond .ne 6, 3), (44, .iload 4, 2), (46, .ireturn, 1), (47, .iinc 3 1, 3), (50, .goto (-39), 3), (53, .bipush (-4), 2), (55, .ireturn, 1)]
def kc_X3_readItem : CL := [(0, .aload_n 1, 1), (1, .aload_n 0, 1), (2, .getfield 15, 3), (5, .invokevirtual 33, 3), (8, .istore_n 3, 1), (9, .iload_n 3, 1), (10, .invokestatic 37, 3), (13, .istore 4, 2), (15, .iload 4, 2), (17, .ifCond .ne 5, 3), (20, .iconst 0, 1), (21, .ireturn, 1), (22, .aload_n 0, 1), (23, .dup, 1), (24, .getfield 15, 3), (27, .iconst 1, 1), (28, .iadd, 1), (29, .putfield 15, 3), (32, .iconst 0, 1), (33, .istore 5, 2), (35, .iload 5, 2), (37, .iload 4, 2), (39, .if_icmp .ge 67, 3), (42, .iload 5, 2), (44, .bipush 6, 2), (46, .if_icmp .ge 60, 3), (49, .aload_n 0, 1), (50, .aload_n 1, 1), (51, .iload 5, 2), (53, .invokevirtual 40, 3), (56, .ifCond .ne 5, 3), (59, .iconst 0, 1), (60, .ireturn, 1), (61, .aload_n 1, 1), (62, .aload_n 0, 1), (63, .getfield 15, 3), (66, .invokevirtual 33, 3), (69, .iload 5, 2), (71, .iload 4, 2), (73, .iconst 1, 1), (74, .isub, 1), (75, .if_icmp .ne 8, 3), (78, .bipush 59, 2), (80, .goto 5, 3), (83, .bipush 44, 2), (85, .if_icmp .eq 5, 3), (88, .iconst 0, 1), (89, .ireturn, 1), (90, .aload_n 0, 1), (91, .dup, 1), (92, .getfield 15, 3), (95, .iconst 1, 1), (96, .iadd, 1), (97, .putfield 15, 3), (100, .iinc 5 1, 3), (103, .goto (-68), 3), (106, .aload_n 0, 1), (107, .iload_n 3, 1), (108, .aload_n 2, 1), (109, .invokevirtual 44, 3), (112, .ireturn, 1)]
def kc_X3_numbersOf : CL := [(0, .iload_n 0, 1), (1, .lookupswitch 58 #[(99, 54), (103, 51), (112, 56), (114, 56), (121, 56)], 51), (52, .bipush 6, 2), (54, .ireturn, 1), (55, .iconst 3, 1), (56, .ireturn, 1), (57, .iconst 2, 1), (58, .ireturn, 1), (59, .iconst 0, 1), (60, .ireturn, 1)]
def kc_X3_readNumber : CL := [(0, .iconst 0, 1), (1, .istore_n 3, 1), (2, .iconst 0, 1), (3, .istore 4, 2), (5, .iload 4, 2), (7, .iconst 3, 1), (8, .if_icmp .ge 54, 3), (11, .aload_n 1, 1), (12, .aload_n 0, 1), (13, .getfield 15, 3), (16, .invokevirtual 33, 3), (19, .bipush 48, 2), (21, .bipush 57, 2), (23, .invokestatic 48, 3), (26, .ifCond .eq 36, 3), (29, .bipush 10, 2), (31, .iload_n 3, 1), (32, .imul, 1), (33, .aload_n 1, 1), (34, .aload_n 0, 1), (35, .getfield 15, 3), (38, .invokevirtual 33, 3), (41, .iadd, 1), (42, .bipush 48, 2), (44, .isub, 1), (45, .istore_n 3, 1), (46, .aload_n 0, 1), (47, .dup, 1), (48, .getfield 15, 3), (51, .iconst 1, 1), (52, .iadd, 1), (53, .putfield 15, 3), (56, .iinc 4 1, 3), (59, .goto (-54), 3), (62, .aload_n 0, 1), (63, .getfield 11, 3), (66, .iload_n 2, 1), (67, .iload_n 3, 1), (68, .iastore, 1), (69, .iload 4, 2), (71, .ifCond .le 7, 3), (74, .iconst 1, 1), (75, .goto 4, 3), (78, .iconst 0, 1), (79, .ireturn, 1)]
def kc_X3_addItem : CL := [(0, .iload_n 1, 1), (1, .lookupswitch 166 #[(99, 109), (103, 51), (112, 132), (114, 149), (121, 92)], 51), (52, .aload_n 2, 1), (53, .aload_n 0, 1), (54, .getfield 11, 3), (57, .iconst 0, 1), (58, .iaload, 1), (59, .aload_n 0, 1), (60, .getfield 11, 3), (63, .iconst 1, 1), (64, .iaload, 1), (65, .aload_n 0, 1), (66, .getfield 11, 3), (69, .iconst 2, 1), (70, .iaload, 1), (71, .aload_n 0, 1), (72, .getfield 11, 3), (75, .iconst 3, 1), (76, .iaload, 1), (77, .aload_n 0, 1), (78, .getfield 11, 3), (81, .iconst 4, 1), (82, .iaload, 1), (83, .aload_n 0, 1), (84, .getfield 11, 3), (87, .iconst 5, 1), (88, .iaload, 1), (89, .invokevirtual 52, 3), (92, .ireturn, 1), (93, .aload_n 2, 1), (94, .aload_n 0, 1), (95, .getfield 11, 3), (98, .iconst 0, 1), (99, .iaload, 1), (100, .aload_n 0, 1), (101, .getfield 11, 3), (104, .iconst 1, 1), (105, .iaload, 1), (106, .invokevirtual 56, 3), (109, .ireturn, 1), (110, .aload_n 2, 1), (111, .aload_n 0, 1), (112, .getfield 11, 3), (115, .iconst 0, 1), (116, .iaload, 1), (117, .aload_n 0, 1), (118, .getfield 11, 3), (121, .iconst 1, 1), (122, .iaload, 1), (123, .aload_n 0, 1), (124, .getfield 11, 3), (127, .iconst 2, 1), (128, .iaload, 1), (129, .invokevirtual 60, 3), (132, .ireturn, 1), (133, .aload_n 2, 1), (134, .aload_n 0, 1), (135, .getfield 11, 3), (138, .iconst 0, 1), (139, .iaload, 1), (140, .aload_n 0, 1), (141, .getfield 11, 3), (144, .iconst 1, 1), (145, .iaload, 1), (146, .invokevirtual 63, 3), (149, .ireturn, 1), (150, .aload_n 2, 1), (151, .aload_n 0, 1), (152, .getfield 11, 3), (155, .iconst 0, 1), (156, .iaload, 1), (157, .aload_n 0, 1), (158, .getfield 11, 3), (161, .iconst 1, 1), (162, .iaload, 1), (163, .invokevirtual 66, 3), (166, .ireturn, 1), (167, .iconst 0, 1), (168, .ireturn, 1)]
def kc_X4_init : CL := [(0, .aload_n 0, 1), (1, .invokespecial 1, 3), (4, .aload_n 0, 1), (5, .iconst 3, 1), (6, .newarray .int, 2), (8, .putfield 9, 3), (11, .aload_n 0, 1), (12, .iconst 3, 1), (13, .newarray .int, 2), (15, .putfield 13, 3), (18, .aload_n 0, 1), (19, .iconst 0, 1), (20, .putfield 16, 3), (23, .return_, 1)]
def kc_X4_search : CL := [(0, .iconst 1, 1), (1, .istore 6, 2), (3, .iconst 0, 1), (4, .istore 7, 2), (6, .iload 7, 2), (8, .iconst 3, 1), (9, .if_icmp .ge 37, 3), (12, .aload_n 0, 1), (13, .getfield 9, 3), (16, .iload 7, 2), (18, .iconst 0, 1), (19, .iastore, 1), (20, .iload 6, 2), (22, .iload 7, 2), (24, .iload 4, 2), (26, .if_icmp .ge 10, 3), (29, .aload_n 1, 1), (30, .getfield 20, 3), (33, .goto 4, 3), (36, .iconst 1, 1), (37, .imul, 1), (38, .istore 6, 2), (40, .iinc 7 1, 3), (43, .goto (-37), 3), (46, .aload_n 0, 1), (47, .ldc 27, 2), (49, .putfield 16, 3), (52, .iconst 0, 1), (53, .istore 7, 2), (55, .iload 7, 2), (57, .iload 6, 2), (59, .if_icmp .ge 65, 3), (62, .aload_n 3, 1), (63, .aload_n 2, 1), (64, .invokevirtual 28, 3), (67, .aload_n 0, 1), (68, .aload_n 1, 1), (69, .aload_n 3, 1), (70, .iload 4, 2), (72, .iload 5, 2), (74, .invokevirtual 34, 3), (77, .istore 8, 2), (79, .iload 8, 2), (81, .aload_n 0, 1), (82, .getfield 16, 3), (85, .if_icmp .ge 23, 3), (88, .aload_n 0, 1), (89, .iload 8, 2), (91, .putfield 16, 3), (94, .aload_n 0, 1), (95, .getfield 9, 3), (98, .iconst 0, 1), (99, .aload_n 0, 1), (100, .getfield 13, 3), (103, .iconst 0, 1), (104, .iconst 3, 1), (105, .invokestatic 38, 3), (108, .aload_n 0, 1), (109, .aload_n 1, 1), (110, .getfield 20, 3), (113, .iload 4, 2), (115, .invokevirtual 44, 3), (118, .iinc 7 1, 3), (121, .goto (-66), 3), (124, .return_, 1)]
def kc_X4_stoodBy : CL := [(0, .iconst 0, 1), (1, .istore 5, 2), (3, .iconst 0, 1), (4, .istore 6, 2), (6, .iconst 0, 1), (7, .istore 7, 2), (9, .iload 7, 2), (11, .iload 4, 2), (13, .if_icmp .ge 67, 3), (16, .iload 5, 2), (18, .aload_n 0, 1), (19, .getfield 16, 3), (22, .if_icmp .ge 58, 3), (25, .aload_n 2, 1), (26, .aload_n 1, 1), (27, .getfield 48, 3), (30, .aload_n 0, 1), (31, .getfield 9, 3), (34, .iload 6, 2), (36, .iaload, 1), (37, .iaload, 1), (38, .invokevirtual 51, 3), (41, .iload 6, 2), (43, .iconst 1, 1), (44, .iadd, 1), (45, .iload_n 3, 1), (46, .if_icmp .ge 10, 3), (49, .iload 6, 2), (51, .iconst 1, 1), (52, .iadd, 1), (53, .goto 4, 3), (56, .iconst 0, 1), (57, .istore 6, 2), (59, .iload 5, 2), (61, .aload_n 2, 1), (62, .aload_n 1, 1), (63, .invokevirtual 55, 3), (66, .iadd, 1), (67, .istore 5, 2), (69, .aload_n 2, 1), (70, .aload_n 1, 1), (71, .invokevirtual 59, 3), (74, .iinc 7 1, 3), (77, .goto (-68), 3), (80, .iload 5, 2), (82, .ireturn, 1)]
def kc_X4_stepRow : CL := [(0, .iload_n 2, 1), (1, .iconst 3, 1), (2, .invokestatic 63, 3), (5, .iconst 1, 1), (6, .isub, 1), (7, .istore_n 3, 1), (8, .iload_n 3, 1), (9, .ifCond .lt 37, 3), (12, .aload_n 0, 1), (13, .getfield 9, 3), (16, .iload_n 3, 1), (17, .dup2, 1), (18, .iaload, 1), (19, .iconst 1, 1), (20, .iadd, 1), (21, .iastore, 1), (22, .aload_n 0, 1), (23, .getfield 9, 3), (26, .iload_n 3, 1), (27, .iaload, 1), (28, .iload_n 1, 1), (29, .if_icmp .ge 4, 3), (32, .return_, 1), (33, .aload_n 0, 1), (34, .getfield 9, 3), (37, .iload_n 3, 1), (38, .iconst 0, 1), (39, .iastore, 1), (40, .iinc 3 (-1), 3), (43, .goto (-35), 3), (46, .return_, 1)]
def kc_X5_init : CL := [(0, .aload_n 0, 1), (1, .invokespecial 3, 3), (4, .aload_n 0, 1), (5, .bipush 16, 2), (7, .newarray .int, 2), (9, .putfield 9, 3), (12, .aload_n 0, 1), (13, .iconst 0, 1), (14, .putfield 15, 3), (17, .aload_n 0, 1), (18, .iconst 0, 1), (19, .putfield 19, 3), (22, .return_, 1)]
def kc_X5_fill : CL := [(0, .aload_n 1, 1), (1, .getfield 22, 3), (4, .iconst 0, 1), (5, .aload_n 0, 1), (6, .getfield 9, 3), (9, .iconst 0, 1), (10, .aload_n 0, 1), (11, .getfield 9, 3), (14, .arraylength, 1), (15, .invokestatic 27, 3), (18, .aload_n 0, 1), (19, .iconst 0, 1), (20, .putfield 15, 3), (23, .aload_n 0, 1), (24, .iconst 0, 1), (25, .putfield 19, 3), (28, .return_, 1)]
def kc_X5_copyFrom : CL := [(0, .aload_n 1, 1), (1, .getfield 9, 3), (4, .iconst 0, 1), (5, .aload_n 0, 1), (6, .getfield 9, 3), (9, .iconst 0, 1), (10, .aload_n 0, 1), (11, .getfield 9, 3), (14, .arraylength, 1), (15, .invokestatic 27, 3), (18, .aload_n 0, 1), (19, .aload_n 1, 1), (20, .getfield 15, 3), (23, .putfield 15, 3), (26, .aload_n 0, 1), (27, .aload_n 1, 1), (28, .getfield 19, 3), (31, .putfield 19, 3), (34, .return_, 1)]
def kc_X5_upperSide : CL := [(0, .aload_n 0, 1), (1, .getfield 15, 3), (4, .iload_n 1, 1), (5, .ishr, 1), (6, .iconst 1, 1), (7, .iand, 1), (8, .ireturn, 1)]
def kc_X5_upperBulb : CL := [(0, .iconst 2, 1), (1, .iload_n 1, 1), (2, .imul, 1), (3, .aload_n 0, 1), (4, .iload_n 1, 1), (5, .invokevirtual 33, 3), (8, .iadd, 1), (9, .ireturn, 1)]
def kc_X5_flip : CL := [(0, .aload_n 0, 1), (1, .dup, 1), (2, .getfield 15, 3), (5, .iload_n 1, 1), (6, .ixor, 1), (7, .putfield 15, 3), (10, .return_, 1)]
def kc_X5_move : CL := [(0, .aload_n 0, 1), (1, .getfield 9, 3), (4, .iload_n 1, 1), (5, .dup2, 1), (6, .iaload, 1), (7, .iload_n 3, 1), (8, .isub, 1), (9, .iastore, 1), (10, .aload_n 0, 1), (11, .getfield 9, 3), (14, .iload_n 2, 1), (15, .dup2, 1), (16, .iaload, 1), (17, .iload_n 3, 1), (18, .iadd, 1), (19, .iastore, 1), (20, .return_, 1)]
def kc_X5_goOn : CL := [(0, .iconst 0, 1), (1, .istore 5, 2), (3, .iload 5, 2), (5, .iload_n 2, 1), (6, .if_icmp .ge 22, 3), (9, .aload_n 0, 1), (10, .aload_n 1, 1), (11, .iload_n 3, 1), (12, .iload 4, 2), (14, .invokevirtual 37, 3), (17, .aload_n 0, 1), (18, .aload_n 1, 1), (19, .invokevirtual 41, 3), (22, .iinc 5 1, 3), (25, .goto (-22), 3), (28, .return_, 1)]
def kc_X5_letClerksTurn : CL := [(0, .iconst 0, 1), (1, .istore 4, 2), (3, .iload 4, 2), (5, .aload_n 1, 1), (6, .getfield 45, 3), (9, .if_icmp .ge 78, 3), (12, .aload_n 0, 1), (13, .getfield 19, 3), (16, .aload_n 1, 1), (17, .getfield 48, 3), (20, .iload 4, 2), (22, .iaload, 1), (23, .isub, 1), (24, .iload 4, 2), (26, .iload_n 2, 1), (27, .if_icmp .ne 7, 3), (30, .iload_n 3, 1), (31, .goto 4, 3), (34, .iconst 0, 1), (35, .isub, 1), (36, .istore 5, 2), (38, .aload_n 1, 1), (39, .getfield 51, 3), (42, .iload 4, 2), (44, .iaload, 1), (45, .istore 6, 2), (47, .iload 5, 2), (49, .ifCond .lt 32, 3), (52, .iload 6, 2), (54, .ifCond .le 27, 3), (57, .iload 5, 2), (59, .iload 6, 2), (61, .irem, 1), (62, .ifCond .ne 19, 3), (65, .aload_n 0, 1), (66, .aload_n 1, 1), (67, .getfield 54, 3), (70, .aload_n 1, 1), (71, .getfield 57, 3), (74, .iload 4, 2), (76, .iaload, 1), (77, .iaload, 1), (78, .invokevirtual 60, 3), (81, .iinc 4 1, 3), (84, .goto (-81), 3), (87, .return_, 1)]
def kc_X5_letSandFall : CL := [(0, .aload_n 1, 1), (1, .aload_n 0, 1), (2, .getfield 19, 3), (5, .invokestatic 64, 3), (8, .astore_n 2, 1), (9, .iconst 0, 1), (10, .istore_n 3, 1), (11, .iload_n 3, 1), (12, .aload_n 1, 1), (13, .getfield 68, 3), (16, .if_icmp .ge 64, 3), (19, .iconst 2, 1), (20, .iload_n 3, 1), (21, .imul, 1), (22, .aload_n 0, 1), (23, .getfield 15, 3), (26, .iload_n 3, 1), (27, .ishr, 1), (28, .iconst 1, 1), (29, .iand, 1), (30, .iadd, 1), (31, .istore 4, 2), (33, .aload_n 0, 1), (34, .getfield 9, 3), (37, .iload 4, 2), (39, .iaload, 1), (40, .aload_n 2, 1), (41, .iload_n 3, 1), (42, .iaload, 1), (43, .invokestatic 71, 3), (46, .istore 5, 2), (48, .aload_n 0, 1), (49, .getfield 9, 3), (52, .iload 4, 2), (54, .dup2, 1), (55, .iaload, 1), (56, .iload 5, 2), (58, .isub, 1), (59, .iastore, 1), (60, .aload_n 0, 1), (61, .getfield 9, 3), (64, .iload 4, 2), (66, .iconst 1, 1), (67, .ixor, 1), (68, .dup2, 1), (69, .iaload, 1), (70, .iload 5, 2), (72, .iadd, 1), (73, .iastore, 1), (74, .iinc 3 1, 3), (77, .goto (-66), 3), (80, .aload_n 0, 1), (81, .dup, 1), (82, .getfield 19, 3), (85, .iconst 1, 1), (86, .iadd, 1), (87, .putfield 19, 3), (90, .return_, 1)]
def kc_X5_flowIn : CL := [(0, .iload_n 1, 1), (1, .iconst 3, 1), (2, .irem, 1), (3, .iconst 2, 1), (4, .if_icmp .ne 10, 3), (7, .aload_n 0, 1), (8, .getfield 77, 3), (11, .goto 7, 3), (14, .aload_n 0, 1), (15, .getfield 80, 3), (18, .areturn, 1)]
def kc_X5_standing : CL := [(0, .iconst 0, 1), (1, .istore_n 2, 1), (2, .iconst 0, 1), (3, .istore_n 3, 1), (4, .iload_n 3, 1), (5, .aload_n 1, 1), (6, .getfield 68, 3), (9, .if_icmp .ge 25, 3), (12, .aload_n 0, 1), (13, .getfield 9, 3), (16, .aload_n 0, 1), (17, .iload_n 3, 1), (18, .invokevirtual 83, 3), (21, .iaload, 1), (22, .ifCond .ne 6, 3), (25, .iinc 2 1, 3), (28, .iinc 3 1, 3), (31, .goto (-27), 3), (34, .iload_n 2, 1), (35, .ireturn, 1)]
def kc_X5_minutesLeft : CL := [(0, .aload_n 0, 1), (1, .getfield 9, 3), (4, .aload_n 0, 1), (5, .iload_n 2, 1), (6, .invokevirtual 83, 3), (9, .iaload, 1), (10, .istore_n 3, 1), (11, .iconst 0, 1), (12, .istore 4, 2), (14, .iload_n 3, 1), (15, .ifCond .le 32, 3), (18, .iload 4, 2), (20, .ldc 86, 2), (22, .if_icmp .ge 25, 3), (25, .iload_n 3, 1), (26, .aload_n 1, 1), (27, .aload_n 0, 1), (28, .getfield 19, 3), (31, .iload 4, 2), (33, .iadd, 1), (34, .invokestatic 64, 3), (37, .iload_n 2, 1), (38, .iaload, 1), (39, .isub, 1), (40, .istore_n 3, 1), (41, .iinc 4 1, 3), (44, .goto (-30), 3), (47, .iload 4, 2), (49, .ireturn, 1)]
def kc_X5_grainsOf : CL := [(0, .iconst 0, 1), (1, .istore_n 3, 1), (2, .iconst 0, 1), (3, .istore 4, 2), (5, .iload 4, 2), (7, .aload_n 1, 1), (8, .getfield 68, 3), (11, .if_icmp .ge 107, 3), (14, .aload_n 0, 1), (15, .getfield 9, 3), (18, .iconst 2, 1), (19, .iload 4, 2), (21, .imul, 1), (22, .iaload, 1), (23, .istore 5, 2), (25, .aload_n 1, 1), (26, .getfield 87, 3), (29, .iload 4, 2), (31, .iaload, 1), (32, .iconst 2, 1), (33, .if_icmp .ne 10, 3), (36, .iload 5, 2), (38, .iconst 2, 1), (39, .idiv, 1), (40, .goto 4, 3), (43, .iconst 0, 1), (44, .istore 6, 2), (46, .aload_n 1, 1), (47, .getfield 90, 3), (50, .iconst 2, 1), (51, .iload 4, 2), (53, .imul, 1), (54, .iaload, 1), (55, .iload_n 2, 1), (56, .if_icmp .ne 11, 3), (59, .iload_n 3, 1), (60, .iload 5, 2), (62, .iload 6, 2), (64, .isub, 1), (65, .iadd, 1), (66, .istore_n 3, 1), (67, .aload_n 1, 1), (68, .getfield 93, 3), (71, .iload 4, 2), (73, .iaload, 1), (74, .iload_n 2, 1), (75, .if_icmp .ne 8, 3), (78, .iload_n 3, 1), (79, .iload 6, 2), (81, .iadd, 1), (82, .istore_n 3, 1), (83, .aload_n 1, 1), (84, .getfield 90, 3), (87, .iconst 2, 1), (88, .iload 4, 2), (90, .imul, 1), (91, .iconst 1, 1), (92, .iadd, 1), (93, .iaload, 1), (94, .iload_n 2, 1), (95, .if_icmp .ne 17, 3), (98, .iload_n 3, 1), (99, .aload_n 0, 1), (100, .getfield 9, 3), (103, .iconst 2, 1), (104, .iload 4, 2), (106, .imul, 1), (107, .iconst 1, 1), (108, .iadd, 1), (109, .iaload, 1), (110, .iadd, 1), (111, .istore_n 3, 1), (112, .iinc 4 1, 3), (115, .goto (-110), 3), (118, .iload_n 3, 1), (119, .ireturn, 1)]
def kc_X6_init : CL := [(0, .aload_n 0, 1), (1, .invokespecial 3, 3), (4, .aload_n 0, 1), (5, .iconst 0, 1), (6, .putfield 9, 3), (9, .aload_n 0, 1), (10, .bipush 12, 2), (12, .newarray .int, 2), (14, .putfield 15, 3), (17, .aload_n 0, 1), (18, .bipush 12, 2), (20, .newarray .int, 2), (22, .putfield 19, 3), (25, .aload_n 0, 1), (26, .bipush 12, 2), (28, .newarray .int, 2), (30, .putfield 22, 3), (33, .return_, 1)]
def kc_X6_note : CL := [(0, .aload_n 0, 1), (1, .getfield 9, 3), (4, .bipush 12, 2), (6, .if_icmp .lt 4, 3), (9, .return_, 1), (10, .aload_n 0, 1), (11, .getfield 15, 3), (14, .aload_n 0, 1), (15, .getfield 9, 3), (18, .iload_n 1, 1), (19, .iastore, 1), (20, .aload_n 0, 1), (21, .getfield 19, 3), (24, .aload_n 0, 1), (25, .getfield 9, 3), (28, .iload_n 2, 1), (29, .iastore, 1), (30, .aload_n 0, 1), (31, .getfield 22, 3), (34, .aload_n 0, 1), (35, .getfield 9, 3), (38, .iload_n 3, 1), (39, .iastore, 1), (40, .aload_n 0, 1), (41, .dup, 1), (42, .getfield 9, 3), (45, .iconst 1, 1), (46, .iadd, 1), (47, .putfield 9, 3), (50, .return_, 1)]
def kc_X6_missing : CL := [(0, .iconst 0, 1), (1, .istore_n 3, 1), (2, .iconst 0, 1), (3, .istore 4, 2), (5, .iload 4, 2), (7, .aload_n 0, 1), (8, .getfield 9, 3), (11, .if_icmp .ge 34, 3), (14, .aload_n 0, 1), (15, .getfield 15, 3), (18, .iload 4, 2), (20, .iaload, 1), (21, .iload_n 1, 1), (22, .if_icmp .ne 17, 3), (25, .iload_n 3, 1), (26, .iload_n 2, 1), (27, .aload_n 0, 1), (28, .getfield 22, 3), (31, .iload 4, 2), (33, .iaload, 1), (34, .isub, 1), (35, .invokestatic 25, 3), (38, .istore_n 3, 1), (39, .iinc 4 1, 3), (42, .goto (-37), 3), (45, .iload_n 3, 1), (46, .ireturn, 1)]
def kc_X6_till : CL := [(0, .bipush (-4), 2), (2, .istore_n 3, 1), (3, .iconst 0, 1), (4, .istore 4, 2), (6, .iload 4, 2), (8, .aload_n 0, 1), (9, .getfield 9, 3), (12, .if_icmp .ge 56, 3), (15, .aload_n 0, 1), (16, .getfield 15, 3), (19, .iload 4, 2), (21, .iaload, 1), (22, .iload_n 1, 1), (23, .if_icmp .ne 39, 3), (26, .aload_n 0, 1), (27, .getfield 22, 3), (30, .iload 4, 2), (32, .iaload, 1), (33, .iload_n 2, 1), (34, .if_icmp .ge 28, 3), (37, .iload_n 3, 1), (38, .bipush (-4), 2), (40, .if_icmp .eq 14, 3), (43, .aload_n 0, 1), (44, .getfield 19, 3), (47, .iload 4, 2), (49, .iaload, 1), (50, .iload_n 3, 1), (51, .if_icmp .ge 11, 3), (54, .aload_n 0, 1), (55, .getfield 19, 3), (58, .iload 4, 2), (60, .iaload, 1), (61, .istore_n 3, 1), (62, .iinc 4 1, 3), (65, .goto (-59), 3), (68, .iload_n 3, 1), (69, .ireturn, 1)]
def kc_X6_since : CL := [(0, .aload_n 0, 1), (1, .iload_n 1, 1), (2, .iload_n 2, 1), (3, .invokevirtual 31, 3), (6, .istore_n 3, 1), (7, .bipush (-4), 2), (9, .istore 4, 2), (11, .iconst 0, 1), (12, .istore 5, 2), (14, .iload 5, 2), (16, .aload_n 0, 1), (17, .getfield 9, 3), (20, .if_icmp .ge 56, 3), (23, .aload_n 0, 1), (24, .getfield 15, 3), (27, .iload 5, 2), (29, .iaload, 1), (30, .iload_n 1, 1), (31, .if_icmp .ne 39, 3), (34, .aload_n 0, 1), (35, .getfield 22, 3), (38, .iload 5, 2), (40, .iaload, 1), (41, .iload_n 2, 1), (42, .if_icmp .lt 28, 3), (45, .aload_n 0, 1), (46, .getfield 19, 3), (49, .iload 5, 2), (51, .iaload, 1), (52, .iload_n 3, 1), (53, .if_icmp .ge 17, 3), (56, .iload 4, 2), (58, .aload_n 0, 1), (59, .getfield 19, 3), (62, .iload 5, 2), (64, .iaload, 1), (65, .invokestatic 25, 3), (68, .istore 4, 2), (70, .iinc 5 1, 3), (73, .goto (-59), 3), (76, .iload 4, 2), (78, .ireturn, 1)]
def kc_X6_falseOnes : CL := [(0, .iconst 0, 1), (1, .istore_n 2, 1), (2, .iconst 0, 1), (3, .istore_n 3, 1), (4, .iload_n 3, 1), (5, .aload_n 0, 1), (6, .getfield 9, 3), (9, .if_icmp .ge 30, 3), (12, .aload_n 0, 1), (13, .getfield 15, 3), (16, .iload_n 3, 1), (17, .iaload, 1), (18, .iload_n 1, 1), (19, .if_icmp .ne 14, 3), (22, .aload_n 0, 1), (23, .iload_n 3, 1), (24, .invokevirtual 34, 3), (27, .ifCond .eq 6, 3), (30, .iinc 2 1, 3), (33, .iinc 3 1, 3), (36, .goto (-32), 3), (39, .iload_n 2, 1), (40, .ireturn, 1)]
def kc_X6_exceedsEarlier : CL := [(0, .iconst 0, 1), (1, .istore_n 2, 1), (2, .iload_n 2, 1), (3, .aload_n 0, 1), (4, .getfield 9, 3), (7, .if_icmp .ge 56, 3), (10, .aload_n 0, 1), (11, .getfield 15, 3), (14, .iload_n 2, 1), (15, .iaload, 1), (16, .aload_n 0, 1), (17, .getfield 15, 3), (20, .iload_n 1, 1), (21, .iaload, 1), (22, .if_icmp .ne 35, 3), (25, .aload_n 0, 1), (26, .getfield 19, 3), (29, .iload_n 2, 1), (30, .iaload, 1), (31, .aload_n 0, 1), (32, .getfield 19, 3), (35, .iload_n 1, 1), (36, .iaload, 1), (37, .if_icmp .ge 20, 3), (40, .aload_n 0, 1), (41, .getfield 22, 3), (44, .iload_n 2, 1), (45, .iaload, 1), (46, .aload_n 0, 1), (47, .getfield 22, 3), (50, .iload_n 1, 1), (51, .iaload, 1), (52, .if_icmp .ge 5, 3), (55, .iconst 1, 1), (56, .ireturn, 1), (57, .iinc 2 1, 3), (60, .goto (-58), 3), (63, .iconst 0, 1), (64, .ireturn, 1)]
def kc_X7_init : CL := [(0, .aload_n 0, 1), (1, .invokespecial 3, 3), (4, .aload_n 0, 1), (5, .sipush 400, 3), (8, .newarray .byte, 2), (10, .putfield 9, 3), (13, .aload_n 0, 1), (14, .iconst 0, 1), (15, .putfield 15, 3), (18, .return_, 1)]
def kc_X7_append : CL := [(0, .iload_n 1, 1), (1, .iconst 1, 1), (2, .isub, 1), (3, .istore 4, 2), (5, .iload 4, 2), (7, .ifCond .lt 47, 3), (10, .aload_n 0, 1), (11, .getfield 15, 3), (14, .sipush 400, 3), (17, .if_icmp .ge 37, 3), (20, .aload_n 0, 1), (21, .getfield 9, 3), (24, .aload_n 0, 1), (25, .getfield 15, 3), (28, .lload_n 2, 1), (29, .bipush 8, 2), (31, .iload 4, 2), (33, .imul, 1), (34, .lshr, 1), (35, .l2i, 1), (36, .i2b, 1), (37, .bastore, 1), (38, .aload_n 0, 1), (39, .dup, 1), (40, .getfield 15, 3), (43, .iconst 1, 1), (44, .iadd, 1), (45, .putfield 15, 3), (48, .iinc 4 (-1), 3), (51, .goto (-46), 3), (54, .return_, 1)]
def kc_X7_at : CL := [(0, .iload_n 1, 1), (1, .iconst 0, 1), (2, .aload_n 0, 1), (3, .getfield 15, 3), (6, .iconst 1, 1), (7, .isub, 1), (8, .invokestatic 19, 3), (11, .ifCond .eq 16, 3), (14, .aload_n 0, 1), (15, .getfield 9, 3), (18, .iload_n 1, 1), (19, .baload, 1), (20, .sipush 255, 3), (23, .iand, 1), (24, .goto 4, 3), (27, .iconst (-1), 1), (28, .ireturn, 1)]
def kc_X8_init : CL := [(0, .aload_n 0, 1), (1, .invokespecial 1, 3), (4, .aload_n 0, 1), (5, .new 7, 3), (8, .dup, 1), (9, .invokespecial 9, 3), (12, .putfield 10, 3), (15, .aload_n 0, 1), (16, .new 16, 3), (19, .dup, 1), (20, .invokespecial 18, 3), (23, .putfield 19, 3), (26, .aload_n 0, 1), (27, .new 23, 3), (30, .dup, 1), (31, .invokespecial 25, 3), (34, .putfield 26, 3), (37, .aload_n 0, 1), (38, .new 23, 3), (41, .dup, 1), (42, .invokespecial 25, 3), (45, .putfield 30, 3), (48, .aload_n 0, 1), (49, .new 33, 3), (52, .dup, 1), (53, .invokespecial 35, 3), (56, .putfield 36, 3), (59, .aload_n 0, 1), (60, .new 33, 3), (63, .dup, 1), (64, .invokespecial 35, 3), (67, .putfield 40, 3), (70, .aload_n 0, 1), (71, .new 43, 3), (74, .dup, 1), (75, .invokespecial 45, 3), (78, .putfield 46, 3), (81, .aload_n 0, 1), (82, .new 50, 3), (85, .dup, 1), (86, .invokespecial 52, 3), (89, .putfield 53, 3), (92, .aload_n 0, 1), (93, .new 57, 3), (96, .dup, 1), (97, .invokespecial 59, 3), (100, .putfield 60, 3), (103, .aload_n 0, 1), (104, .new 64, 3), (107, .dup, 1), (108, .invokespecial 66, 3), (111, .putfield 67, 3), (114, .aload_n 0, 1), (115, .iconst 2, 1), (116, .anewarray 33, 3), (119, .dup, 1), (120, .iconst 0, 1), (121, .new 33, 3), (124, .dup, 1), (125, .invokespecial 35, 3), (128, .aastore, 1), (129, .dup, 1), (130, .iconst 1, 1), (131, .new 33, 3), (134, .dup, 1), (135, .invokespecial 35, 3), (138, .aastore, 1), (139, .putfield 71, 3), (142, .aload_n 0, 1), (143, .iconst 2, 1), (144, .newarray .int, 2), (146, .putfield 75, 3), (149, .aload_n 0, 1), (150, .iconst 0, 1), (151, .putfield 79, 3), (154, .aload_n 0, 1), (155, .bipush 6, 2), (157, .newarray .int, 2), (159, .putfield 83, 3), (162, .aload_n 0, 1), (163, .getfield 26, 3), (166, .iconst 0, 1), (167, .iconst 0, 1), (168, .iconst 1, 1), (169, .iconst 2, 1), (170, .bipush 20, 2), (172, .iconst 0, 1), (173, .invokevirtual 86, 3), (176, .pop, 1), (177, .aload_n 0, 1), (178, .getfield 26, 3), (181, .invokevirtual 90, 3), (184, .aload_n 0, 1), (185, .getfield 36, 3), (188, .aload_n 0, 1), (189, .getfield 26, 3), (192, .invokevirtual 93, 3), (195, .return_, 1)]
def kc_X8_write : CL := [(0, .iload_n 1, 1), (1, .iconst 1, 1), (2, .bipush 8, 2), (4, .invokestatic 97, 3), (7, .ifCond .ne 5, 3), (10, .iconst (-1), 1), (11, .ireturn, 1), (12, .aload_n 0, 1), (13, .getfield 10, 3), (16, .getfield 101, 3), (19, .iload_n 1, 1), (20, .iadd, 1), (21, .sipush 400, 3), (24, .if_icmp .le 6, 3), (27, .bipush (-3), 2), (29, .ireturn, 1), (30, .aload_n 0, 1), (31, .getfield 10, 3), (34, .iload_n 1, 1), (35, .lload_n 2, 1), (36, .invokevirtual 104, 3), (39, .aload_n 0, 1), (40, .getfield 10, 3), (43, .getfield 101, 3), (46, .ireturn, 1)]
def kc_X8_wipe : CL := [(0, .aload_n 0, 1), (1, .getfield 10, 3), (4, .getfield 101, 3), (7, .istore_n 1, 1), (8, .aload_n 0, 1), (9, .getfield 10, 3), (12, .iconst 0, 1), (13, .putfield 101, 3), (16, .iload_n 1, 1), (17, .ireturn, 1)]
def kc_X8_fault : CL := [(0, .aload_n 0, 1), (1, .getfield 19, 3), (4, .aload_n 0, 1), (5, .getfield 10, 3), (8, .aload_n 0, 1), (9, .getfield 30, 3), (12, .invokevirtual 108, 3), (15, .ireturn, 1)]
def kc_X8_lay : CL := [(0, .aload_n 0, 1), (1, .getfield 19, 3), (4, .aload_n 0, 1), (5, .getfield 10, 3), (8, .aload_n 0, 1), (9, .getfield 30, 3), (12, .invokevirtual 108, 3), (15, .bipush (-4), 2), (17, .if_icmp .ne 13, 3), (20, .aload_n 0, 1), (21, .getfield 30, 3), (24, .getfield 112, 3), (27, .ifCond .ne 6, 3), (30, .bipush (-2), 2), (32, .ireturn, 1), (33, .aload_n 0, 1), (34, .getfield 26, 3), (37, .astore_n 1, 1), (38, .aload_n 0, 1), (39, .aload_n 0, 1), (40, .getfield 30, 3), (43, .putfield 26, 3), (46, .aload_n 0, 1), (47, .aload_n 1, 1), (48, .putfield 30, 3), (51, .aload_n 0, 1), (52, .getfield 26, 3), (55, .invokevirtual 90, 3), (58, .aload_n 0, 1), (59, .getfield 36, 3), (62, .aload_n 0, 1), (63, .getfield 26, 3), (66, .invokevirtual 93, 3), (69, .aload_n 0, 1), (70, .getfield 46, 3), (73, .iconst 0, 1), (74, .putfield 115, 3), (77, .aload_n 0, 1), (78, .getfield 53, 3), (81, .iconst 0, 1), (82, .putfield 118, 3), (85, .aload_n 0, 1), (86, .iconst 0, 1), (87, .putfield 79, 3), (90, .aload_n 0, 1), (91, .getfield 26, 3), (94, .getfield 112, 3), (97, .ireturn, 1)]
def kc_X8_glass : CL := [(0, .aload_n 0, 1), (1, .iload_n 1, 1), (2, .invokevirtual 119, 3), (5, .ifCond .ne 5, 3), (8, .iconst (-1), 1), (9, .ireturn, 1), (10, .iload_n 2, 1), (11, .tableswitch 90 0 5 #[37, 37, 51, 60, 70, 80], 37), (48, .aload_n 0, 1), (49, .getfield 36, 3), (52, .getfield 123, 3), (55, .iconst 2, 1), (56, .iload_n 1, 1), (57, .imul, 1), (58, .iload_n 2, 1), (59, .iadd, 1), (60, .iaload, 1), (61, .ireturn, 1), (62, .aload_n 0, 1), (63, .getfield 36, 3), (66, .iload_n 1, 1), (67, .invokevirtual 126, 3), (70, .ireturn, 1), (71, .aload_n 0, 1), (72, .getfield 26, 3), (75, .getfield 130, 3), (78, .iload_n 1, 1), (79, .iaload, 1), (80, .ireturn, 1), (81, .aload_n 0, 1), (82, .getfield 26, 3), (85, .getfield 133, 3), (88, .iload_n 1, 1), (89, .iaload, 1), (90, .ireturn, 1), (91, .aload_n 0, 1), (92, .getfield 26, 3), (95, .getfield 136, 3), (98, .iload_n 1, 1), (99, .iaload, 1), (100, .ireturn, 1), (101, .iconst (-1), 1), (102, .ireturn, 1)]
def kc_X8_has : CL := [(0, .iload_n 1, 1), (1, .invokestatic 139, 3), (4, .ifCond .eq 18, 3), (7, .aload_n 0, 1), (8, .getfield 36, 3), (11, .aload_n 0, 1), (12, .getfield 26, 3), (15, .iload_n 1, 1), (16, .invokevirtual 142, 3), (19, .goto 4, 3), (22, .iconst (-1), 1), (23, .ireturn, 1)]
def kc_X8_minutes : CL := [(0, .iload_n 1, 1), (1, .iconst 1, 1), (2, .sipush 999, 3), (5, .invokestatic 97, 3), (8, .ifCond .ne 5, 3), (11, .iconst (-1), 1), (12, .ireturn, 1), (13, .aload_n 0, 1), (14, .getfield 36, 3), (17, .getfield 146, 3), (20, .iload_n 1, 1), (21, .iadd, 1), (22, .ldc 149, 2), (24, .if_icmp .le 6, 3), (27, .bipush (-2), 2), (29, .ireturn, 1), (30, .aload_n 0, 1), (31, .getfield 36, 3), (34, .aload_n 0, 1), (35, .getfield 26, 3), (38, .iload_n 1, 1), (39, .iconst (-1), 1), (40, .iconst 0, 1), (41, .invokevirtual 150, 3), (44, .aload_n 0, 1), (45, .getfield 46, 3), (48, .iconst 0, 1), (49, .putfield 115, 3), (52, .aload_n 0, 1), (53, .getfield 36, 3), (56, .getfield 146, 3), (59, .ireturn, 1)]
def kc_X8_turn : CL := [(0, .aload_n 0, 1), (1, .iload_n 1, 1), (2, .invokevirtual 119, 3), (5, .ifCond .ne 5, 3), (8, .iconst (-1), 1), (9, .ireturn, 1), (10, .aload_n 0, 1), (11, .getfield 26, 3), (14, .getfield 154, 3), (17, .iload_n 1, 1), (18, .iaload, 1), (19, .istore_n 2, 1), (20, .aload_n 0, 1), (21, .getfield 36, 3), (24, .iload_n 2, 1), (25, .invokevirtual 157, 3), (28, .aload_n 0, 1), (29, .getfield 46, 3), (32, .iload_n 2, 1), (33, .invokevirtual 161, 3), (36, .iload_n 2, 1), (37, .invokestatic 164, 3), (40, .ireturn, 1)]
def kc_X8_pour : CL := [(0, .aload_n 0, 1), (1, .iload_n 1, 1), (2, .invokevirtual 119, 3), (5, .ifCond .eq 42, 3), (8, .iload_n 2, 1), (9, .iconst 0, 1), (10, .iconst 1, 1), (11, .invokestatic 97, 3), (14, .ifCond .eq 33, 3), (17, .aload_n 0, 1), (18, .iload_n 3, 1), (19, .invokevirtual 119, 3), (22, .ifCond .eq 25, 3), (25, .iload 4, 2), (27, .iconst 0, 1), (28, .iconst 1, 1), (29, .invokestatic 97, 3), (32, .ifCond .eq 15, 3), (35, .iload 5, 2), (37, .iconst 1, 1), (38, .sipush 9999, 3), (41, .invokestatic 97, 3), (44, .ifCond .ne 5, 3), (47, .iconst (-1), 1), (48, .ireturn, 1), (49, .iconst 2, 1), (50, .iload_n 1, 1), (51, .imul, 1), (52, .iload_n 2, 1), (53, .iadd, 1), (54, .istore 6, 2), (56, .iconst 2, 1), (57, .iload_n 3, 1), (58, .imul, 1), (59, .iload 4, 2), (61, .iadd, 1), (62, .istore 7, 2), (64, .iload 6, 2), (66, .iload 7, 2), (68, .if_icmp .ne 5, 3), (71, .iconst (-1), 1), (72, .ireturn, 1), (73, .aload_n 0, 1), (74, .getfield 36, 3), (77, .getfield 123, 3), (80, .iload 6, 2), (82, .iaload, 1), (83, .iload 5, 2), (85, .if_icmp .lt 22, 3), (88, .aload_n 0, 1), (89, .getfield 36, 3), (92, .getfield 123, 3), (95, .iload 7, 2), (97, .iaload, 1), (98, .iload 5, 2), (100, .iadd, 1), (101, .sipush 9999, 3), (104, .if_icmp .le 6, 3), (107, .bipush (-2), 2), (109, .ireturn, 1), (110, .aload_n 0, 1), (111, .getfield 36, 3), (114, .iload 6, 2), (116, .iload 7, 2), (118, .iload 5, 2), (120, .invokevirtual 169, 3), (123, .aload_n 0, 1), (124, .getfield 46, 3), (127, .iload 6, 2), (129, .iload 7, 2), (131, .iload 5, 2), (133, .invokevirtual 173, 3), (136, .aload_n 0, 1), (137, .getfield 36, 3), (140, .getfield 123, 3), (143, .iload 7, 2), (145, .iaload, 1), (146, .ireturn, 1)]
def kc_X8_undo : CL := [(0, .aload_n 0, 1), (1, .getfield 46, 3), (4, .getfield 115, 3), (7, .ifCond .ne 6, 3), (10, .bipush (-2), 2), (12, .ireturn, 1), (13, .aload_n 0, 1), (14, .getfield 46, 3), (17, .aload_n 0, 1), (18, .getfield 36, 3), (21, .invokevirtual 176, 3), (24, .aload_n 0, 1), (25, .getfield 46, 3), (28, .getfield 115, 3), (31, .ireturn, 1)]
def kc_X8_later : CL := [(0, .iload_n 1, 1), (1, .iconst 0, 1), (2, .sipush 20000, 3), (5, .invokestatic 97, 3), (8, .ifCond .eq 10, 3), (11, .iload_n 2, 1), (12, .invokestatic 139, 3), (15, .ifCond .ne 5, 3), (18, .iconst (-1), 1), (19, .ireturn, 1), (20, .aload_n 0, 1), (21, .iload_n 1, 1), (22, .iconst (-1), 1), (23, .iconst 0, 1), (24, .invokevirtual 180, 3), (27, .aload_n 0, 1), (28, .getfield 26, 3), (31, .iload_n 2, 1), (32, .invokevirtual 142, 3), (35, .ireturn, 1)]
def kc_X8_falls : CL := [(0, .iload_n 1, 1), (1, .iconst 0, 1), (2, .sipush 20000, 3), (5, .invokestatic 97, 3), (8, .ifCond .eq 20, 3), (11, .aload_n 0, 1), (12, .iload_n 2, 1), (13, .invokevirtual 119, 3), (16, .ifCond .eq 12, 3), (19, .iload_n 3, 1), (20, .iconst 0, 1), (21, .iconst 1, 1), (22, .invokestatic 97, 3), (25, .ifCond .ne 5, 3), (28, .iconst (-1), 1), (29, .ireturn, 1), (30, .aload_n 0, 1), (31, .getfield 40, 3), (34, .aload_n 0, 1), (35, .getfield 36, 3), (38, .invokevirtual 184, 3), (41, .iconst 2, 1), (42, .iload_n 2, 1), (43, .imul, 1), (44, .iload_n 3, 1), (45, .iadd, 1), (46, .istore 4, 2), (48, .iconst 0, 1), (49, .istore 5, 2), (51, .iconst 0, 1), (52, .istore 6, 2), (54, .iload 6, 2), (56, .iload_n 1, 1), (57, .if_icmp .ge 57, 3), (60, .aload_n 0, 1), (61, .getfield 40, 3), (64, .getfield 123, 3), (67, .iload 4, 2), (69, .iaload, 1), (70, .istore 7, 2), (72, .aload_n 0, 1), (73, .getfield 40, 3), (76, .aload_n 0, 1), (77, .getfield 26, 3), (80, .iconst 1, 1), (81, .iconst (-1), 1), (82, .iconst 0, 1), (83, .invokevirtual 150, 3), (86, .iload 5, 2), (88, .iconst 0, 1), (89, .iload 7, 2), (91, .aload_n 0, 1), (92, .getfield 40, 3), (95, .getfield 123, 3), (98, .iload 4, 2), (100, .iaload, 1), (101, .isub, 1), (102, .invokestatic 187, 3), (105, .iadd, 1), (106, .istore 5, 2), (108, .iinc 6 1, 3), (111, .goto (-57), 3), (114, .iload 5, 2), (116, .ireturn, 1)]
def kc_X8_empty : CL := [(0, .iload_n 1, 1), (1, .iconst 0, 1), (2, .sipush 20000, 3), (5, .invokestatic 97, 3), (8, .ifCond .ne 5, 3), (11, .iconst (-1), 1), (12, .ireturn, 1), (13, .aload_n 0, 1), (14, .getfield 40, 3), (17, .aload_n 0, 1), (18, .getfield 36, 3), (21, .invokevirtual 184, 3), (24, .iconst 0, 1), (25, .istore_n 2, 1), (26, .iconst 0, 1), (27, .istore_n 3, 1), (28, .iload_n 3, 1), (29, .iload_n 1, 1), (30, .if_icmp .ge 50, 3), (33, .aload_n 0, 1), (34, .getfield 40, 3), (37, .aload_n 0, 1), (38, .getfield 26, 3), (41, .iconst (-1), 1), (42, .iconst 0, 1), (43, .invokevirtual 193, 3), (46, .aload_n 0, 1), (47, .getfield 40, 3), (50, .aload_n 0, 1), (51, .getfield 26, 3), (54, .invokevirtual 197, 3), (57, .ifCond .le 6, 3), (60, .iinc 2 1, 3), (63, .aload_n 0, 1), (64, .getfield 40, 3), (67, .aload_n 0, 1), (68, .getfield 26, 3), (71, .invokevirtual 201, 3), (74, .iinc 3 1, 3), (77, .goto (-49), 3), (80, .iload_n 2, 1), (81, .ireturn, 1)]
def kc_X8_late : CL := [(0, .aload_n 0, 1), (1, .iload_n 1, 1), (2, .iload_n 2, 1), (3, .iload_n 3, 1), (4, .invokevirtual 204, 3), (7, .ifCond .eq 11, 3), (10, .iload 4, 2), (12, .invokestatic 139, 3), (15, .ifCond .ne 5, 3), (18, .iconst (-1), 1), (19, .ireturn, 1), (20, .aload_n 0, 1), (21, .iload_n 3, 1), (22, .iconst (-1), 1), (23, .iconst 0, 1), (24, .invokevirtual 180, 3), (27, .aload_n 0, 1), (28, .getfield 26, 3), (31, .iload 4, 2), (33, .invokevirtual 142, 3), (36, .istore 5, 2), (38, .aload_n 0, 1), (39, .iload_n 3, 1), (40, .iload_n 1, 1), (41, .iload_n 2, 1), (42, .invokevirtual 180, 3), (45, .aload_n 0, 1), (46, .getfield 26, 3), (49, .iload 4, 2), (51, .invokevirtual 142, 3), (54, .iload 5, 2), (56, .isub, 1), (57, .ldc 207, 2), (59, .iadd, 1), (60, .ireturn, 1)]
def kc_X8_gains : CL := [(0, .aload_n 0, 1), (1, .iload_n 1, 1), (2, .iload_n 2, 1), (3, .iload_n 3, 1), (4, .invokevirtual 204, 3), (7, .ifCond .eq 13, 3), (10, .iload 4, 2), (12, .iconst 0, 1), (13, .iconst 1, 1), (14, .invokestatic 97, 3), (17, .ifCond .ne 5, 3), (20, .iconst (-1), 1), (21, .ireturn, 1), (22, .aload_n 0, 1), (23, .aload_n 0, 1), (24, .iload_n 3, 1), (25, .iconst (-1), 1), (26, .iconst 0, 1), (27, .invokevirtual 180, 3), (30, .invokevirtual 208, 3), (33, .pop, 1), (34, .aload_n 0, 1), (35, .iload_n 3, 1), (36, .iload_n 1, 1), (37, .iload_n 2, 1), (38, .invokevirtual 180, 3), (41, .pop, 1), (42, .iconst 0, 1), (43, .istore 5, 2), (45, .aload_n 0, 1), (46, .getfield 40, 3), (49, .aload_n 0, 1), (50, .getfield 26, 3), (53, .iconst 0, 1), (54, .invokevirtual 142, 3), (57, .aload_n 0, 1), (58, .getfield 83, 3), (61, .iconst 0, 1), (62, .iaload, 1), (63, .isub, 1), (64, .istore 6, 2), (66, .iconst 1, 1), (67, .istore 7, 2), (69, .iload 7, 2), (71, .bipush 6, 2), (73, .if_icmp .ge 47, 3), (76, .aload_n 0, 1), (77, .getfield 40, 3), (80, .aload_n 0, 1), (81, .getfield 26, 3), (84, .iload 7, 2), (86, .invokevirtual 142, 3), (89, .aload_n 0, 1), (90, .getfield 83, 3), (93, .iload 7, 2), (95, .iaload, 1), (96, .isub, 1), (97, .istore 8, 2), (99, .iload 8, 2), (101, .iload 6, 2), (103, .if_icmp .le 11, 3), (106, .iload 7, 2), (108, .istore 5, 2), (110, .iload 8, 2), (112, .istore 6, 2), (114, .iinc 7 1, 3), (117, .goto (-48), 3), (120, .iload 4, 2), (122, .ifCond .ne 8, 3), (125, .iload 5, 2), (127, .goto 8, 3), (130, .iload 6, 2), (132, .ldc 207, 2), (134, .iadd, 1), (135, .ireturn, 1)]
def kc_X8_run : CL := [(0, .iload_n 1, 1), (1, .iconst 0, 1), (2, .iconst 2, 1), (3, .invokestatic 97, 3), (6, .ifCond .ne 5, 3), (9, .iconst (-1), 1), (10, .ireturn, 1), (11, .iconst 0, 1), (12, .istore_n 2, 1), (13, .aload_n 0, 1), (14, .getfield 36, 3), (17, .aload_n 0, 1), (18, .getfield 26, 3), (21, .iconst 0, 1), (22, .invokevirtual 212, 3), (25, .istore_n 3, 1), (26, .iload_n 3, 1), (27, .istore 4, 2), (29, .iconst 1, 1), (30, .istore 5, 2), (32, .iload 5, 2), (34, .aload_n 0, 1), (35, .getfield 26, 3), (38, .getfield 112, 3), (41, .if_icmp .ge 45, 3), (44, .aload_n 0, 1), (45, .getfield 36, 3), (48, .aload_n 0, 1), (49, .getfield 26, 3), (52, .iload 5, 2), (54, .invokevirtual 212, 3), (57, .istore 6, 2), (59, .iload 6, 2), (61, .iload_n 3, 1), (62, .if_icmp .ge 9, 3), (65, .iload 5, 2), (67, .istore_n 2, 1), (68, .iload 6, 2), (70, .istore_n 3, 1), (71, .iload 4, 2), (73, .iload 6, 2), (75, .invokestatic 187, 3), (78, .istore 4, 2), (80, .iinc 5 1, 3), (83, .goto (-51), 3), (86, .iload_n 1, 1), (87, .ifCond .ne 5, 3), (90, .iload_n 2, 1), (91, .ireturn, 1), (92, .iload_n 1, 1), (93, .iconst 1, 1), (94, .if_icmp .ne 7, 3), (97, .iload_n 3, 1), (98, .goto 5, 3), (101, .iload 4, 2), (103, .ireturn, 1)]
def kc_X8_round : CL := [(0, .iload_n 1, 1), (1, .iconst 1, 1), (2, .iconst 3, 1), (3, .invokestatic 97, 3), (6, .ifCond .eq 25, 3), (9, .iload_n 2, 1), (10, .iconst 1, 1), (11, .sipush 200, 3), (14, .invokestatic 97, 3), (17, .ifCond .eq 14, 3), (20, .iload_n 3, 1), (21, .iconst (-1), 1), (22, .iload_n 1, 1), (23, .iconst 1, 1), (24, .isub, 1), (25, .invokestatic 97, 3), (28, .ifCond .ne 5, 3), (31, .iconst (-1), 1), (32, .ireturn, 1), (33, .aload_n 0, 1), (34, .getfield 60, 3), (37, .aload_n 0, 1), (38, .getfield 26, 3), (41, .aload_n 0, 1), (42, .getfield 36, 3), (45, .aload_n 0, 1), (46, .getfield 40, 3), (49, .iload_n 1, 1), (50, .iload_n 2, 1), (51, .invokevirtual 215, 3), (54, .iload_n 3, 1), (55, .ifCond .ge 13, 3), (58, .aload_n 0, 1), (59, .getfield 60, 3), (62, .getfield 219, 3), (65, .goto 12, 3), (68, .aload_n 0, 1), (69, .getfield 60, 3), (72, .getfield 222, 3), (75, .iload_n 3, 1), (76, .iaload, 1), (77, .ireturn, 1)]
def kc_X8_counted : CL := [(0, .aload_n 0, 1), (1, .iload_n 1, 1), (2, .invokevirtual 119, 3), (5, .ifCond .eq 25, 3), (8, .iload_n 2, 1), (9, .iconst 0, 1), (10, .sipush 20000, 3), (13, .invokestatic 97, 3), (16, .ifCond .eq 14, 3), (19, .iload_n 3, 1), (20, .iconst 0, 1), (21, .sipush 9999, 3), (24, .invokestatic 97, 3), (27, .ifCond .ne 5, 3), (30, .iconst (-1), 1), (31, .ireturn, 1), (32, .aload_n 0, 1), (33, .getfield 53, 3), (36, .getfield 118, 3), (39, .bipush 12, 2), (41, .if_icmp .lt 6, 3), (44, .bipush (-3), 2), (46, .ireturn, 1), (47, .aload_n 0, 1), (48, .getfield 53, 3), (51, .iload_n 1, 1), (52, .iload_n 2, 1), (53, .iload_n 3, 1), (54, .invokevirtual 225, 3), (57, .aload_n 0, 1), (58, .getfield 53, 3), (61, .getfield 118, 3), (64, .ireturn, 1)]
def kc_X8_stolen : CL := [(0, .aload_n 0, 1), (1, .iload_n 1, 1), (2, .invokevirtual 119, 3), (5, .ifCond .ne 5, 3), (8, .iconst (-1), 1), (9, .ireturn, 1), (10, .aload_n 0, 1), (11, .getfield 26, 3), (14, .getfield 228, 3), (17, .iconst 2, 1), (18, .iload_n 1, 1), (19, .imul, 1), (20, .iaload, 1), (21, .aload_n 0, 1), (22, .getfield 26, 3), (25, .getfield 228, 3), (28, .iconst 2, 1), (29, .iload_n 1, 1), (30, .imul, 1), (31, .iconst 1, 1), (32, .iadd, 1), (33, .iaload, 1), (34, .iadd, 1), (35, .istore_n 3, 1), (36, .iload_n 2, 1), (37, .tableswitch 70 0 3 #[31, 41, 51, 61], 31), (68, .aload_n 0, 1), (69, .getfield 53, 3), (72, .iload_n 1, 1), (73, .iload_n 3, 1), (74, .invokevirtual 231, 3), (77, .ireturn, 1), (78, .aload_n 0, 1), (79, .getfield 53, 3), (82, .iload_n 1, 1), (83, .iload_n 3, 1), (84, .invokevirtual 234, 3), (87, .ireturn, 1), (88, .aload_n 0, 1), (89, .getfield 53, 3), (92, .iload_n 1, 1), (93, .iload_n 3, 1), (94, .invokevirtual 237, 3), (97, .ireturn, 1), (98, .aload_n 0, 1), (99, .getfield 53, 3), (102, .iload_n 1, 1), (103, .invokevirtual 240, 3), (106, .ireturn, 1), (107, .iconst (-1), 1), (108, .ireturn, 1)]
def kc_X8_split : CL := [(0, .iload_n 1, 1), (1, .iconst 0, 1), (2, .sipush 9999, 3), (5, .invokestatic 97, 3), (8, .ifCond .eq 10, 3), (11, .iload_n 2, 1), (12, .invokestatic 139, 3), (15, .ifCond .ne 5, 3), (18, .iconst (-1), 1), (19, .ireturn, 1), (20, .aload_n 0, 1), (21, .aload_n 0, 1), (22, .getfield 36, 3), (25, .invokevirtual 208, 3), (28, .istore_n 3, 1), (29, .iload_n 3, 1), (30, .ifCond .gt 6, 3), (33, .bipush (-4), 2), (35, .ireturn, 1), (36, .aload_n 0, 1), (37, .getfield 83, 3), (40, .iload_n 2, 1), (41, .iaload, 1), (42, .ifCond .ne 5, 3), (45, .iconst 0, 1), (46, .ireturn, 1), (47, .iload_n 1, 1), (48, .istore 4, 2), (50, .iconst 0, 1), (51, .istore 5, 2), (53, .iconst 0, 1), (54, .istore 6, 2), (56, .iload 6, 2), (58, .bipush 6, 2), (60, .if_icmp .ge 40, 3), (63, .iload 4, 2), (65, .iload_n 1, 1), (66, .aload_n 0, 1), (67, .getfield 83, 3), (70, .iload 6, 2), (72, .iaload, 1), (73, .imul, 1), (74, .iload_n 3, 1), (75, .idiv, 1), (76, .isub, 1), (77, .istore 4, 2), (79, .aload_n 0, 1), (80, .iload 6, 2), (82, .iload_n 2, 1), (83, .iload_n 1, 1), (84, .iload_n 3, 1), (85, .invokevirtual 243, 3), (88, .ifCond .eq 6, 3), (91, .iinc 5 1, 3), (94, .iinc 6 1, 3), (97, .goto (-41), 3), (100, .iload_n 1, 1), (101, .aload_n 0, 1), (102, .getfield 83, 3), (105, .iload_n 2, 1), (106, .iaload, 1), (107, .imul, 1), (108, .iload_n 3, 1), (109, .idiv, 1), (110, .iload 5, 2), (112, .iload 4, 2), (114, .if_icmp .ge 7, 3), (117, .iconst 1, 1), (118, .goto 4, 3), (121, .iconst 0, 1), (122, .iadd, 1), (123, .ireturn, 1)]
def kc_X8_night : CL := [(0, .iload_n 1, 1), (1, .iload_n 2, 1), (2, .invokestatic 247, 3), (5, .ifCond .eq 12, 3), (8, .iload_n 3, 1), (9, .iconst 0, 1), (10, .iconst 1, 1), (11, .invokestatic 97, 3), (14, .ifCond .ne 5, 3), (17, .iconst (-1), 1), (18, .ireturn, 1), (19, .aload_n 0, 1), (20, .iload_n 1, 1), (21, .iload_n 2, 1), (22, .invokevirtual 251, 3), (25, .iload_n 3, 1), (26, .ifCond .ne 13, 3), (29, .aload_n 0, 1), (30, .getfield 67, 3), (33, .getfield 255, 3), (36, .goto 10, 3), (39, .aload_n 0, 1), (40, .getfield 67, 3), (43, .getfield 258, 3), (46, .ireturn, 1)]
def kc_X8_nightHas : CL := [(0, .iload_n 1, 1), (1, .iload_n 2, 1), (2, .invokestatic 247, 3), (5, .ifCond .eq 10, 3), (8, .iload_n 3, 1), (9, .invokestatic 139, 3), (12, .ifCond .ne 5, 3), (15, .iconst (-1), 1), (16, .ireturn, 1), (17, .aload_n 0, 1), (18, .iload_n 1, 1), (19, .iload_n 2, 1), (20, .invokevirtual 251, 3), (23, .aload_n 0, 1), (24, .getfield 40, 3), (27, .aload_n 0, 1), (28, .getfield 26, 3), (31, .iload_n 3, 1), (32, .invokevirtual 142, 3), (35, .ireturn, 1)]
def kc_X8_keep : CL := [(0, .aload_n 0, 1), (1, .getfield 79, 3), (4, .iconst 2, 1), (5, .if_icmp .lt 6, 3), (8, .bipush (-3), 2), (10, .ireturn, 1), (11, .aload_n 0, 1), (12, .getfield 71, 3), (15, .aload_n 0, 1), (16, .getfield 79, 3), (19, .aaload, 1), (20, .aload_n 0, 1), (21, .getfield 36, 3), (24, .invokevirtual 184, 3), (27, .aload_n 0, 1), (28, .getfield 75, 3), (31, .aload_n 0, 1), (32, .getfield 79, 3), (35, .aload_n 0, 1), (36, .getfield 53, 3), (39, .getfield 118, 3), (42, .iastore, 1), (43, .aload_n 0, 1), (44, .dup, 1), (45, .getfield 79, 3), (48, .iconst 1, 1), (49, .iadd, 1), (50, .putfield 79, 3), (53, .aload_n 0, 1), (54, .getfield 79, 3), (57, .ireturn, 1)]
def kc_X8_back : CL := [(0, .aload_n 0, 1), (1, .getfield 79, 3), (4, .ifCond .gt 6, 3), (7, .bipush (-2), 2), (9, .ireturn, 1), (10, .aload_n 0, 1), (11, .dup, 1), (12, .getfield 79, 3), (15, .iconst 1, 1), (16, .isub, 1), (17, .putfield 79, 3), (20, .aload_n 0, 1), (21, .getfield 36, 3), (24, .aload_n 0, 1), (25, .getfield 71, 3), (28, .aload_n 0, 1), (29, .getfield 79, 3), (32, .aaload, 1), (33, .invokevirtual 184, 3), (36, .aload_n 0, 1), (37, .getfield 53, 3), (40, .aload_n 0, 1), (41, .getfield 75, 3), (44, .aload_n 0, 1), (45, .getfield 79, 3), (48, .iaload, 1), (49, .putfield 118, 3), (52, .aload_n 0, 1), (53, .getfield 46, 3), (56, .iconst 0, 1), (57, .putfield 115, 3), (60, .aload_n 0, 1), (61, .getfield 79, 3), (64, .ireturn, 1)]
def kc_X8_count : CL := [(0, .iload_n 1, 1), (1, .tableswitch 108 0 7 #[47, 55, 63, 71, 79, 87, 95, 103], 47), (48, .aload_n 0, 1), (49, .getfield 26, 3), (52, .getfield 112, 3), (55, .ireturn, 1), (56, .aload_n 0, 1), (57, .getfield 26, 3), (60, .getfield 261, 3), (63, .ireturn, 1), (64, .aload_n 0, 1), (65, .getfield 26, 3), (68, .getfield 264, 3), (71, .ireturn, 1), (72, .aload_n 0, 1), (73, .getfield 36, 3), (76, .getfield 146, 3), (79, .ireturn, 1), (80, .aload_n 0, 1), (81, .getfield 46, 3), (84, .getfield 115, 3), (87, .ireturn, 1), (88, .aload_n 0, 1), (89, .getfield 53, 3), (92, .getfield 118, 3), (95, .ireturn, 1), (96, .aload_n 0, 1), (97, .getfield 10, 3), (100, .getfield 101, 3), (103, .ireturn, 1), (104, .aload_n 0, 1), (105, .getfield 79, 3), (108, .ireturn, 1), (109, .iconst (-1), 1), (110, .ireturn, 1)]
def kc_X8_within : CL := [(0, .iload_n 0, 1), (1, .iload_n 1, 1), (2, .if_icmp .lt 12, 3), (5, .iload_n 0, 1), (6, .iload_n 2, 1), (7, .if_icmp .gt 7, 3), (10, .iconst 1, 1), (11, .goto 4, 3), (14, .iconst 0, 1), (15, .ireturn, 1)]
def kc_X8_isHand : CL := [(0, .iload_n 0, 1), (1, .iconst 0, 1), (2, .iconst 5, 1), (3, .invokestatic 97, 3), (6, .ireturn, 1)]
def kc_X8_isGlass : CL := [(0, .iload_n 1, 1), (1, .iconst 0, 1), (2, .aload_n 0, 1), (3, .getfield 26, 3), (6, .getfield 112, 3), (9, .iconst 1, 1), (10, .isub, 1), (11, .invokestatic 97, 3), (14, .ireturn, 1)]
def kc_X8_isDelay : CL := [(0, .iload_n 1, 1), (1, .iconst 0, 1), (2, .aload_n 0, 1), (3, .getfield 26, 3), (6, .getfield 261, 3), (9, .iconst 1, 1), (10, .isub, 1), (11, .invokestatic 97, 3), (14, .ifCond .eq 28, 3), (17, .iload_n 2, 1), (18, .iconst 0, 1), (19, .bipush 99, 2), (21, .invokestatic 97, 3), (24, .ifCond .eq 18, 3), (27, .iload_n 3, 1), (28, .iconst 0, 1), (29, .sipush 20000, 3), (32, .invokestatic 97, 3), (35, .ifCond .eq 7, 3), (38, .iconst 1, 1), (39, .goto 4, 3), (42, .iconst 0, 1), (43, .ireturn, 1)]
def kc_X8_isNight : CL := [(0, .iload_n 0, 1), (1, .iconst 0, 1), (2, .sipush 9999, 3), (5, .invokestatic 97, 3), (8, .ifCond .eq 18, 3), (11, .iload_n 1, 1), (12, .iconst 0, 1), (13, .sipush 2000, 3), (16, .invokestatic 97, 3), (19, .ifCond .eq 7, 3), (22, .iconst 1, 1), (23, .goto 4, 3), (26, .iconst 0, 1), (27, .ireturn, 1)]
def kc_X8_lookAhead : CL := [(0, .aload_n 0, 1), (1, .getfield 40, 3), (4, .aload_n 0, 1), (5, .getfield 36, 3), (8, .invokevirtual 184, 3), (11, .aload_n 0, 1), (12, .getfield 40, 3), (15, .aload_n 0, 1), (16, .getfield 26, 3), (19, .iload_n 1, 1), (20, .iload_n 2, 1), (21, .iload_n 3, 1), (22, .invokevirtual 150, 3), (25, .aload_n 0, 1), (26, .getfield 40, 3), (29, .areturn, 1)]
def kc_X8_passNight : CL := [(0, .aload_n 0, 1), (1, .getfield 40, 3), (4, .aload_n 0, 1), (5, .getfield 36, 3), (8, .invokevirtual 184, 3), (11, .aload_n 0, 1), (12, .getfield 67, 3), (15, .aload_n 0, 1), (16, .getfield 26, 3), (19, .aload_n 0, 1), (20, .getfield 40, 3), (23, .iload_n 1, 1), (24, .iload_n 2, 1), (25, .invokevirtual 267, 3), (28, .return_, 1)]
def kc_X8_countHoldings : CL := [(0, .iconst 0, 1), (1, .istore_n 2, 1), (2, .iconst 0, 1), (3, .istore_n 3, 1), (4, .iload_n 3, 1), (5, .bipush 6, 2), (7, .if_icmp .ge 33, 3), (10, .aload_n 0, 1), (11, .getfield 83, 3), (14, .iload_n 3, 1), (15, .aload_n 1, 1), (16, .aload_n 0, 1), (17, .getfield 26, 3), (20, .iload_n 3, 1), (21, .invokevirtual 142, 3), (24, .iastore, 1), (25, .iload_n 2, 1), (26, .aload_n 0, 1), (27, .getfield 83, 3), (30, .iload_n 3, 1), (31, .iaload, 1), (32, .iadd, 1), (33, .istore_n 2, 1), (34, .iinc 3 1, 3), (37, .goto (-33), 3), (40, .iload_n 2, 1), (41, .ireturn, 1)]
def kc_X8_comesFirst : CL := [(0, .iload 4, 2), (2, .ifCond .le 12, 3), (5, .aload_n 0, 1), (6, .getfield 83, 3), (9, .iload_n 1, 1), (10, .iaload, 1), (11, .ifCond .ne 5, 3), (14, .iconst 0, 1), (15, .ireturn, 1), (16, .iload_n 3, 1), (17, .aload_n 0, 1), (18, .getfield 83, 3), (21, .iload_n 1, 1), (22, .iaload, 1), (23, .imul, 1), (24, .iload 4, 2), (26, .irem, 1), (27, .istore 5, 2), (29, .iload_n 3, 1), (30, .aload_n 0, 1), (31, .getfield 83, 3), (34, .iload_n 2, 1), (35, .iaload, 1), (36, .imul, 1), (37, .iload 4, 2), (39, .irem, 1), (40, .istore 6, 2), (42, .iload 5, 2), (44, .iload 6, 2), (46, .if_icmp .gt 15, 3), (49, .iload 5, 2), (51, .iload 6, 2), (53, .if_icmp .ne 12, 3), (56, .iload_n 1, 1), (57, .iload_n 2, 1), (58, .if_icmp .ge 7, 3), (61, .iconst 1, 1), (62, .goto 4, 3), (65, .iconst 0, 1), (66, .ireturn, 1)]
def kc_X9_init : CL := [(0, .aload_n 0, 1), (1, .invokespecial 1, 3), (4, .aload_n 0, 1), (5, .sipush 400, 3), (8, .newarray .int, 2), (10, .putfield 7, 3), (13, .aload_n 0, 1), (14, .iconst 2, 1), (15, .newarray .int, 2), (17, .putfield 13, 3), (20, .aload_n 0, 1), (21, .bipush 16, 2), (23, .newarray .int, 2), (25, .putfield 16, 3), (28, .aload_n 0, 1), (29, .bipush 16, 2), (31, .newarray .int, 2), (33, .putfield 19, 3), (36, .aload_n 0, 1), (37, .bipush 16, 2), (39, .newarray .int, 2), (41, .putfield 22, 3), (44, .aload_n 0, 1), (45, .bipush 16, 2), (47, .newarray .int, 2), (49, .putfield 25, 3), (52, .aload_n 0, 1), (53, .bipush 16, 2), (55, .newarray .int, 2), (57, .putfield 28, 3), (60, .aload_n 0, 1), (61, .bipush 16, 2), (63, .newarray .int, 2), (65, .putfield 31, 3), (68, .aload_n 0, 1), (69, .bipush 16, 2), (71, .newarray .int, 2), (73, .putfield 34, 3), (76, .aload_n 0, 1), (77, .iconst 2, 1), (78, .newarray .int, 2), (80, .putfield 37, 3), (83, .aload_n 0, 1), (84, .bipush 16, 2), (86, .newarray .int, 2), (88, .putfield 40, 3), (91, .aload_n 0, 1), (92, .bipush 16, 2), (94, .newarray .int, 2), (96, .putfield 43, 3), (99, .aload_n 0, 1), (100, .iconst 2, 1), (101, .newarray .int, 2), (103, .putfield 46, 3), (106, .aload_n 0, 1), (107, .bipush 16, 2), (109, .newarray .int, 2), (111, .putfield 49, 3), (114, .aload_n 0, 1), (115, .bipush 16, 2), (117, .newarray .int, 2), (119, .putfield 52, 3), (122, .aload_n 0, 1), (123, .bipush 16, 2), (125, .newarray .int, 2), (127, .putfield 55, 3), (130, .aload_n 0, 1), (131, .iconst 2, 1), (132, .newarray .int, 2), (134, .putfield 58, 3), (137, .aload_n 0, 1), (138, .iconst 2, 1), (139, .newarray .int, 2), (141, .putfield 61, 3), (144, .aload_n 0, 1), (145, .bipush 64, 2), (147, .newarray .int, 2), (149, .putfield 64, 3), (152, .aload_n 0, 1), (153, .bipush 32, 2), (155, .newarray .int, 2), (157, .putfield 67, 3), (160, .aload_n 0, 1), (161, .iconst 4, 1), (162, .newarray .int, 2), (164, .putfield 70, 3), (167, .aload_n 0, 1), (168, .iconst 3, 1), (169, .newarray .int, 2), (171, .putfield 73, 3), (174, .aload_n 0, 1), (175, .bipush 108, 2), (177, .newarray .int, 2), (179, .putfield 76, 3), (182, .aload_n 0, 1), (183, .bipush 24, 2), (185, .newarray .int, 2), (187, .putfield 79, 3), (190, .aload_n 0, 1), (191, .bipush 6, 2), (193, .newarray .int, 2), (195, .putfield 82, 3), (198, .aload_n 0, 1), (199, .bipush (-4), 2), (201, .putfield 85, 3), (204, .aload_n 0, 1), (205, .bipush 16, 2), (207, .newarray .int, 2), (209, .putfield 89, 3), (212, .aload_n 0, 1), (213, .bipush 6, 2), (215, .newarray .int, 2), (217, .putfield 92, 3), (220, .aload_n 0, 1), (221, .iconst 0, 1), (222, .invokevirtual 95, 3), (225, .aload_n 0, 1), (226, .getfield 13, 3), (229, .iconst 0, 1), (230, .iconst 1, 1), (231, .iastore, 1), (232, .aload_n 0, 1), (233, .getfield 22, 3), (236, .iconst 0, 1), (237, .iconst 1, 1), (238, .iastore, 1), (239, .aload_n 0, 1), (240, .getfield 25, 3), (243, .iconst 0, 1), (244, .iconst 2, 1), (245, .iastore, 1), (246, .aload_n 0, 1), (247, .getfield 28, 3), (250, .iconst 0, 1), (251, .bipush 20, 2), (253, .iastore, 1), (254, .aload_n 0, 1), (255, .invokevirtual 99, 3), (258, .return_, 1)]
def kc_X9_in : CL := [(0, .lload_n 0, 1), (1, .lload_n 2, 1), (2, .lcmp, 1), (3, .ifCond .lt 14, 3), (6, .lload_n 0, 1), (7, .lload 4, 2), (9, .lcmp, 1), (10, .ifCond .gt 7, 3), (13, .iconst 1, 1), (14, .goto 4, 3), (17, .iconst 0, 1), (18, .ireturn, 1)]
def kc_X9_has1 : CL := [(0, .iload_n 0, 1), (1, .iload_n 1, 1), (2, .ishr, 1), (3, .iconst 1, 1), (4, .iand, 1), (5, .iconst 1, 1), (6, .if_icmp .ne 7, 3), (9, .iconst 1, 1), (10, .goto 4, 3), (13, .iconst 0, 1), (14, .ireturn, 1)]
def kc_X9_noShelf : CL := [(0, .aload_n 0, 1), (1, .getfield 13, 3), (4, .iload_n 1, 1), (5, .iconst 0, 1), (6, .iastore, 1), (7, .aload_n 0, 1), (8, .getfield 37, 3), (11, .iload_n 1, 1), (12, .iconst 0, 1), (13, .iastore, 1), (14, .aload_n 0, 1), (15, .getfield 46, 3), (18, .iload_n 1, 1), (19, .iconst 0, 1), (20, .iastore, 1), (21, .aload_n 0, 1), (22, .getfield 58, 3), (25, .iload_n 1, 1), (26, .iconst 0, 1), (27, .iastore, 1), (28, .aload_n 0, 1), (29, .getfield 61, 3), (32, .iload_n 1, 1), (33, .iconst 0, 1), (34, .iastore, 1), (35, .return_, 1)]
def kc_X9_write : CL := [(0, .iload_n 1, 1), (1, .i2l, 1), (2, .lconst 1, 1), (3, .ldc2_w 102, 3), (6, .invokestatic 104, 3), (9, .ifCond .ne 5, 3), (12, .iconst (-1), 1), (13, .ireturn, 1), (14, .aload_n 0, 1), (15, .getfield 108, 3), (18, .iload_n 1, 1), (19, .iadd, 1), (20, .sipush 400, 3), (23, .if_icmp .le 6, 3), (26, .bipush (-3), 2), (28, .ireturn, 1), (29, .iload_n 1, 1), (30, .iconst 1, 1), (31, .isub, 1), (32, .istore 4, 2), (34, .iload 4, 2), (36, .ifCond .lt 40, 3), (39, .aload_n 0, 1), (40, .getfield 7, 3), (43, .aload_n 0, 1), (44, .getfield 108, 3), (47, .lload_n 2, 1), (48, .bipush 8, 2), (50, .iload 4, 2), (52, .imul, 1), (53, .lshr, 1), (54, .ldc2_w 111, 3), (57, .land, 1), (58, .l2i, 1), (59, .iastore, 1), (60, .aload_n 0, 1), (61, .dup, 1), (62, .getfield 108, 3), (65, .iconst 1, 1), (66, .iadd, 1), (67, .putfield 108, 3), (70, .iinc 4 (-1), 3), (73, .goto (-39), 3), (76, .aload_n 0, 1), (77, .getfield 108, 3), (80, .ireturn, 1)]
def kc_X9_wipe : CL := [(0, .aload_n 0, 1), (1, .getfield 108, 3), (4, .istore_n 1, 1), (5, .aload_n 0, 1), (6, .iconst 0, 1), (7, .putfield 108, 3), (10, .iload_n 1, 1), (11, .ireturn, 1)]
def kc_X9_byteAt : CL := [(0, .iload_n 1, 1), (1, .aload_n 0, 1), (2, .getfield 108, 3), (5, .if_icmp .ge 12, 3), (8, .aload_n 0, 1), (9, .getfield 7, 3), (12, .iload_n 1, 1), (13, .iaload, 1), (14, .goto 4, 3), (17, .iconst 0, 1), (18, .ireturn, 1)]
def kc_X9_figures : CL := [(0, .iconst 0, 1), (1, .istore_n 2, 1), (2, .iload_n 2, 1), (3, .iload_n 1, 1), (4, .if_icmp .ge 132, 3), (7, .iconst 0, 1), (8, .istore_n 3, 1), (9, .iconst 0, 1), (10, .istore 4, 2), (12, .aload_n 0, 1), (13, .aload_n 0, 1), (14, .getfield 113, 3), (17, .invokevirtual 116, 3), (20, .i2l, 1), (21, .ldc2_w 120, 3), (24, .ldc2_w 122, 3), (27, .invokestatic 104, 3), (30, .ifCond .eq 43, 3), (33, .iload_n 3, 1), (34, .iconst 4, 1), (35, .if_icmp .ge 38, 3), (38, .bipush 10, 2), (40, .iload 4, 2), (42, .imul, 1), (43, .aload_n 0, 1), (44, .aload_n 0, 1), (45, .getfield 113, 3), (48, .invokevirtual 116, 3), (51, .iadd, 1), (52, .bipush 48, 2), (54, .isub, 1), (55, .istore 4, 2), (57, .iinc 3 1, 3), (60, .aload_n 0, 1), (61, .dup, 1), (62, .getfield 113, 3), (65, .iconst 1, 1), (66, .iadd, 1), (67, .putfield 113, 3), (70, .goto (-58), 3), (73, .iload_n 3, 1), (74, .i2l, 1), (75, .lconst 1, 1), (76, .ldc2_w 124, 3), (79, .invokestatic 104, 3), (82, .ifCond .eq 28, 3), (85, .aload_n 0, 1), (86, .aload_n 0, 1), (87, .getfield 113, 3), (90, .invokevirtual 116, 3), (93, .iload_n 2, 1), (94, .iload_n 1, 1), (95, .iconst 1, 1), (96, .isub, 1), (97, .if_icmp .ge 8, 3), (100, .bipush 44, 2), (102, .goto 5, 3), (105, .bipush 59, 2), (107, .if_icmp .eq 5, 3), (110, .iconst 0, 1), (111, .ireturn, 1), (112, .aload_n 0, 1), (113, .getfield 82, 3), (116, .iload_n 2, 1), (117, .iload 4, 2), (119, .iastore, 1), (120, .aload_n 0, 1), (121, .dup, 1), (122, .getfield 113, 3), (125, .iconst 1, 1), (126, .iadd, 1), (127, .putfield 113, 3), (130, .iinc 2 1, 3), (133, .goto (-131), 3), (136, .iconst 1, 1), (137, .ireturn, 1)]
def kc_X9_glassItem : CL := [(0, .bipush 8, 2), (2, .aload_n 0, 1), (3, .getfield 13, 3), (6, .iconst 1, 1), (7, .iaload, 1), (8, .iadd, 1), (9, .istore_n 1, 1), (10, .aload_n 0, 1), (11, .bipush 6, 2), (13, .invokevirtual 126, 3), (16, .ifCond .eq 61, 3), (19, .aload_n 0, 1), (20, .getfield 13, 3), (23, .iconst 1, 1), (24, .iaload, 1), (25, .bipush 8, 2), (27, .if_icmp .eq 50, 3), (30, .aload_n 0, 1), (31, .getfield 82, 3), (34, .iconst 0, 1), (35, .iaload, 1), (36, .iconst 3, 1), (37, .if_icmp .gt 40, 3), (40, .aload_n 0, 1), (41, .getfield 82, 3), (44, .iconst 1, 1), (45, .iaload, 1), (46, .iconst 5, 1), (47, .if_icmp .gt 30, 3), (50, .aload_n 0, 1), (51, .getfield 82, 3), (54, .iconst 2, 1), (55, .iaload, 1), (56, .iconst 5, 1), (57, .if_icmp .gt 20, 3), (60, .aload_n 0, 1), (61, .getfield 82, 3), (64, .iconst 3, 1), (65, .iaload, 1), (66, .i2l, 1), (67, .lconst 1, 1), (68, .ldc2_w 130, 3), (71, .invokestatic 104, 3), (74, .ifCond .ne 5, 3), (77, .iconst 0, 1), (78, .ireturn, 1), (79, .aload_n 0, 1), (80, .getfield 16, 3), (83, .iload_n 1, 1), (84, .aload_n 0, 1), (85, .getfield 82, 3), (88, .iconst 0, 1), (89, .iaload, 1), (90, .iastore, 1), (91, .aload_n 0, 1), (92, .getfield 19, 3), (95, .iload_n 1, 1), (96, .aload_n 0, 1), (97, .getfield 82, 3), (100, .iconst 1, 1), (101, .iaload, 1), (102, .iastore, 1), (103, .aload_n 0, 1), (104, .getfield 22, 3), (107, .iload_n 1, 1), (108, .aload_n 0, 1), (109, .getfield 82, 3), (112, .iconst 2, 1), (113, .iaload, 1), (114, .iastore, 1), (115, .aload_n 0, 1), (116, .getfield 25, 3), (119, .iload_n 1, 1), (120, .aload_n 0, 1), (121, .getfield 82, 3), (124, .iconst 3, 1), (125, .iaload, 1), (126, .iastore, 1), (127, .aload_n 0, 1), (128, .getfield 28, 3), (131, .iload_n 1, 1), (132, .aload_n 0, 1), (133, .getfield 82, 3), (136, .iconst 4, 1), (137, .iaload, 1), (138, .iastore, 1), (139, .aload_n 0, 1), (140, .getfield 31, 3), (143, .iload_n 1, 1), (144, .aload_n 0, 1), (145, .getfield 82, 3), (148, .iconst 5, 1), (149, .iaload, 1), (150, .iastore, 1), (151, .aload_n 0, 1), (152, .getfield 34, 3), (155, .iload_n 1, 1), (156, .aload_n 0, 1), (157, .getfield 82, 3), (160, .iconst 1, 1), (161, .iaload, 1), (162, .iastore, 1), (163, .aload_n 0, 1), (164, .getfield 13, 3), (167, .iconst 1, 1), (168, .dup2, 1), (169, .iaload, 1), (170, .iconst 1, 1), (171, .iadd, 1), (172, .iastore, 1), (173, .iconst 1, 1), (174, .ireturn, 1)]
def kc_X9_tieItem : CL := [(0, .iconst 2, 1), (1, .aload_n 0, 1), (2, .getfield 37, 3), (5, .iconst 1, 1), (6, .iaload, 1), (7, .imul, 1), (8, .istore_n 1, 1), (9, .aload_n 0, 1), (10, .iconst 2, 1), (11, .invokevirtual 126, 3), (14, .ifCond .eq 59, 3), (17, .aload_n 0, 1), (18, .getfield 37, 3), (21, .iconst 1, 1), (22, .iaload, 1), (23, .bipush 8, 2), (25, .if_icmp .eq 48, 3), (28, .aload_n 0, 1), (29, .getfield 82, 3), (32, .iconst 0, 1), (33, .iaload, 1), (34, .aload_n 0, 1), (35, .getfield 13, 3), (38, .iconst 1, 1), (39, .iaload, 1), (40, .if_icmp .ge 33, 3), (43, .aload_n 0, 1), (44, .getfield 82, 3), (47, .iconst 1, 1), (48, .iaload, 1), (49, .aload_n 0, 1), (50, .getfield 13, 3), (53, .iconst 1, 1), (54, .iaload, 1), (55, .if_icmp .ge 18, 3), (58, .aload_n 0, 1), (59, .getfield 82, 3), (62, .iconst 0, 1), (63, .iaload, 1), (64, .aload_n 0, 1), (65, .getfield 82, 3), (68, .iconst 1, 1), (69, .iaload, 1), (70, .if_icmp .ne 5, 3), (73, .iconst 0, 1), (74, .ireturn, 1), (75, .aload_n 0, 1), (76, .getfield 43, 3), (79, .iload_n 1, 1), (80, .aload_n 0, 1), (81, .getfield 82, 3), (84, .iconst 0, 1), (85, .iaload, 1), (86, .iastore, 1), (87, .aload_n 0, 1), (88, .getfield 43, 3), (91, .iload_n 1, 1), (92, .iconst 1, 1), (93, .iadd, 1), (94, .aload_n 0, 1), (95, .getfield 82, 3), (98, .iconst 1, 1), (99, .iaload, 1), (100, .iastore, 1), (101, .aload_n 0, 1), (102, .getfield 37, 3), (105, .iconst 1, 1), (106, .dup2, 1), (107, .iaload, 1), (108, .iconst 1, 1), (109, .iadd, 1), (110, .iastore, 1), (111, .iconst 1, 1), (112, .ireturn, 1)]
def kc_X9_clerkItem : CL := [(0, .bipush 8, 2), (2, .aload_n 0, 1), (3, .getfield 46, 3), (6, .iconst 1, 1), (7, .iaload, 1), (8, .iadd, 1), (9, .istore_n 1, 1), (10, .aload_n 0, 1), (11, .iconst 3, 1), (12, .invokevirtual 126, 3), (15, .ifCond .eq 57, 3), (18, .aload_n 0, 1), (19, .getfield 46, 3), (22, .iconst 1, 1), (23, .iaload, 1), (24, .bipush 8, 2), (26, .if_icmp .eq 46, 3), (29, .aload_n 0, 1), (30, .getfield 82, 3), (33, .iconst 0, 1), (34, .iaload, 1), (35, .aload_n 0, 1), (36, .getfield 13, 3), (39, .iconst 1, 1), (40, .iaload, 1), (41, .if_icmp .ge 31, 3), (44, .aload_n 0, 1), (45, .getfield 82, 3), (48, .iconst 1, 1), (49, .iaload, 1), (50, .i2l, 1), (51, .lconst 1, 1), (52, .ldc2_w 132, 3), (55, .invokestatic 104, 3), (58, .ifCond .eq 14, 3), (61, .aload_n 0, 1), (62, .getfield 82, 3), (65, .iconst 2, 1), (66, .iaload, 1), (67, .bipush 99, 2), (69, .if_icmp .le 5, 3), (72, .iconst 0, 1), (73, .ireturn, 1), (74, .aload_n 0, 1), (75, .getfield 49, 3), (78, .iload_n 1, 1), (79, .aload_n 0, 1), (80, .getfield 82, 3), (83, .iconst 0, 1), (84, .iaload, 1), (85, .iastore, 1), (86, .aload_n 0, 1), (87, .getfield 52, 3), (90, .iload_n 1, 1), (91, .aload_n 0, 1), (92, .getfield 82, 3), (95, .iconst 1, 1), (96, .iaload, 1), (97, .iastore, 1), (98, .aload_n 0, 1), (99, .getfield 55, 3), (102, .iload_n 1, 1), (103, .aload_n 0, 1), (104, .getfield 82, 3), (107, .iconst 2, 1), (108, .iaload, 1), (109, .iastore, 1), (110, .aload_n 0, 1), (111, .getfield 46, 3), (114, .iconst 1, 1), (115, .dup2, 1), (116, .iaload, 1), (117, .iconst 1, 1), (118, .iadd, 1), (119, .iastore, 1), (120, .iconst 1, 1), (121, .ireturn, 1)]
def kc_X9_item : CL := [(0, .aload_n 0, 1), (1, .aload_n 0, 1), (2, .getfield 113, 3), (5, .invokevirtual 116, 3), (8, .istore_n 1, 1), (9, .aload_n 0, 1), (10, .dup, 1), (11, .getfield 113, 3), (14, .iconst 1, 1), (15, .iadd, 1), (16, .putfield 113, 3), (19, .iload_n 1, 1), (20, .lookupswitch 182 #[(99, 62), (103, 52), (112, 67), (114, 124), (121, 57)], 52), (72, .aload_n 0, 1), (73, .invokevirtual 134, 3), (76, .ireturn, 1), (77, .aload_n 0, 1), (78, .invokevirtual 138, 3), (81, .ireturn, 1), (82, .aload_n 0, 1), (83, .invokevirtual 141, 3), (86, .ireturn, 1), (87, .aload_n 0, 1), (88, .iconst 2, 1), (89, .invokevirtual 126, 3), (92, .ifCond .eq 28, 3), (95, .aload_n 0, 1), (96, .getfield 82, 3), (99, .iconst 0, 1), (100, .iaload, 1), (101, .aload_n 0, 1), (102, .getfield 13, 3), (105, .iconst 1, 1), (106, .iaload, 1), (107, .if_icmp .ge 13, 3), (110, .aload_n 0, 1), (111, .getfield 82, 3), (114, .iconst 1, 1), (115, .iaload, 1), (116, .iconst 5, 1), (117, .if_icmp .le 5, 3), (120, .iconst 0, 1), (121, .ireturn, 1), (122, .aload_n 0, 1), (123, .getfield 34, 3), (126, .bipush 8, 2), (128, .aload_n 0, 1), (129, .getfield 82, 3), (132, .iconst 0, 1), (133, .iaload, 1), (134, .iadd, 1), (135, .aload_n 0, 1), (136, .getfield 82, 3), (139, .iconst 1, 1), (140, .iaload, 1), (141, .iastore, 1), (142, .iconst 1, 1), (143, .ireturn, 1), (144, .aload_n 0, 1), (145, .iconst 2, 1), (146, .invokevirtual 126, 3), (149, .ifCond .eq 25, 3), (152, .aload_n 0, 1), (153, .getfield 82, 3), (156, .iconst 0, 1), (157, .iaload, 1), (158, .bipush 99, 2), (160, .if_icmp .gt 14, 3), (163, .aload_n 0, 1), (164, .getfield 82, 3), (167, .iconst 1, 1), (168, .iaload, 1), (169, .bipush 99, 2), (171, .if_icmp .le 5, 3), (174, .iconst 0, 1), (175, .ireturn, 1), (176, .aload_n 0, 1), (177, .getfield 58, 3), (180, .iconst 1, 1), (181, .aload_n 0, 1), (182, .getfield 82, 3), (185, .iconst 0, 1), (186, .iaload, 1), (187, .iastore, 1), (188, .aload_n 0, 1), (189, .getfield 61, 3), (192, .iconst 1, 1), (193, .aload_n 0, 1), (194, .getfield 82, 3), (197, .iconst 1, 1), (198, .iaload, 1), (199, .iastore, 1), (200, .iconst 1, 1), (201, .ireturn, 1), (202, .iconst 0, 1), (203, .ireturn, 1)]
def kc_X9_readAll : CL := [(0, .aload_n 0, 1), (1, .iconst 1, 1), (2, .invokevirtual 95, 3), (5, .aload_n 0, 1), (6, .iconst 0, 1), (7, .putfield 113, 3), (10, .aload_n 0, 1), (11, .getfield 113, 3), (14, .aload_n 0, 1), (15, .getfield 108, 3), (18, .if_icmp .ge 20, 3), (21, .aload_n 0, 1), (22, .getfield 113, 3), (25, .istore_n 1, 1), (26, .aload_n 0, 1), (27, .invokevirtual 144, 3), (30, .ifCond .ne 5, 3), (33, .iload_n 1, 1), (34, .ireturn, 1), (35, .goto (-25), 3), (38, .bipush (-4), 2), (40, .ireturn, 1)]
def kc_X9_fault : CL := [(0, .aload_n 0, 1), (1, .invokevirtual 147, 3), (4, .ireturn, 1)]
def kc_X9_layShelf : CL := [(0, .iconst 0, 1), (1, .istore_n 1, 1), (2, .iload_n 1, 1), (3, .bipush 8, 2), (5, .if_icmp .ge 74, 3), (8, .aload_n 0, 1), (9, .getfield 64, 3), (12, .iconst 2, 1), (13, .iload_n 1, 1), (14, .imul, 1), (15, .iload_n 1, 1), (16, .aload_n 0, 1), (17, .getfield 13, 3), (20, .iconst 0, 1), (21, .iaload, 1), (22, .if_icmp .ge 12, 3), (25, .aload_n 0, 1), (26, .getfield 28, 3), (29, .iload_n 1, 1), (30, .iaload, 1), (31, .goto 4, 3), (34, .iconst 0, 1), (35, .iastore, 1), (36, .aload_n 0, 1), (37, .getfield 64, 3), (40, .iconst 2, 1), (41, .iload_n 1, 1), (42, .imul, 1), (43, .iconst 1, 1), (44, .iadd, 1), (45, .iload_n 1, 1), (46, .aload_n 0, 1), (47, .getfield 13, 3), (50, .iconst 0, 1), (51, .iaload, 1), (52, .if_icmp .ge 12, 3), (55, .aload_n 0, 1), (56, .getfield 31, 3), (59, .iload_n 1, 1), (60, .iaload, 1), (61, .goto 4, 3), (64, .iconst 0, 1), (65, .iastore, 1), (66, .aload_n 0, 1), (67, .getfield 67, 3), (70, .iload_n 1, 1), (71, .iconst 0, 1), (72, .iastore, 1), (73, .iinc 1 1, 3), (76, .goto (-74), 3), (79, .aload_n 0, 1), (80, .getfield 70, 3), (83, .iconst 0, 1), (84, .iconst 0, 1), (85, .iastore, 1), (86, .aload_n 0, 1), (87, .getfield 73, 3), (90, .iconst 0, 1), (91, .iconst 0, 1), (92, .iastore, 1), (93, .aload_n 0, 1), (94, .iconst 0, 1), (95, .putfield 151, 3), (98, .aload_n 0, 1), (99, .iconst 0, 1), (100, .putfield 154, 3), (103, .return_, 1)]
def kc_X9_lay : CL := [(0, .aload_n 0, 1), (1, .invokevirtual 147, 3), (4, .bipush (-4), 2), (6, .if_icmp .ne 12, 3), (9, .aload_n 0, 1), (10, .getfield 13, 3), (13, .iconst 1, 1), (14, .iaload, 1), (15, .ifCond .ne 6, 3), (18, .bipush (-2), 2), (20, .ireturn, 1), (21, .aload_n 0, 1), (22, .getfield 13, 3), (25, .iconst 0, 1), (26, .aload_n 0, 1), (27, .getfield 13, 3), (30, .iconst 1, 1), (31, .iaload, 1), (32, .iastore, 1), (33, .aload_n 0, 1), (34, .getfield 37, 3), (37, .iconst 0, 1), (38, .aload_n 0, 1), (39, .getfield 37, 3), (42, .iconst 1, 1), (43, .iaload, 1), (44, .iastore, 1), (45, .aload_n 0, 1), (46, .getfield 46, 3), (49, .iconst 0, 1), (50, .aload_n 0, 1), (51, .getfield 46, 3), (54, .iconst 1, 1), (55, .iaload, 1), (56, .iastore, 1), (57, .aload_n 0, 1), (58, .getfield 58, 3), (61, .iconst 0, 1), (62, .aload_n 0, 1), (63, .getfield 58, 3), (66, .iconst 1, 1), (67, .iaload, 1), (68, .iastore, 1), (69, .aload_n 0, 1), (70, .getfield 61, 3), (73, .iconst 0, 1), (74, .aload_n 0, 1), (75, .getfield 61, 3), (78, .iconst 1, 1), (79, .iaload, 1), (80, .iastore, 1), (81, .iconst 0, 1), (82, .istore_n 1, 1), (83, .iload_n 1, 1), (84, .bipush 8, 2), (86, .if_icmp .ge 159, 3), (89, .aload_n 0, 1), (90, .getfield 16, 3), (93, .iload_n 1, 1), (94, .aload_n 0, 1), (95, .getfield 16, 3), (98, .bipush 8, 2), (100, .iload_n 1, 1), (101, .iadd, 1), (102, .iaload, 1), (103, .iastore, 1), (104, .aload_n 0, 1), (105, .getfield 19, 3), (108, .iload_n 1, 1), (109, .aload_n 0, 1), (110, .getfield 19, 3), (113, .bipush 8, 2), (115, .iload_n 1, 1), (116, .iadd, 1), (117, .iaload, 1), (118, .iastore, 1), (119, .aload_n 0, 1), (120, .getfield 22, 3), (123, .iload_n 1, 1), (124, .aload_n 0, 1), (125, .getfield 22, 3), (128, .bipush 8, 2), (130, .iload_n 1, 1), (131, .iadd, 1), (132, .iaload, 1), (133, .iastore, 1), (134, .aload_n 0, 1), (135, .getfield 25, 3), (138, .iload_n 1, 1), (139, .aload_n 0, 1), (140, .getfield 25, 3), (143, .bipush 8, 2), (145, .iload_n 1, 1), (146, .iadd, 1), (147, .iaload, 1), (148, .iastore, 1), (149, .aload_n 0, 1), (150, .getfield 28, 3), (153, .iload_n 1, 1), (154, .aload_n 0, 1), (155, .getfield 28, 3), (158, .bipush 8, 2), (160, .iload_n 1, 1), (161, .iadd, 1), (162, .iaload, 1), (163, .iastore, 1), (164, .aload_n 0, 1), (165, .getfield 31, 3), (168, .iload_n 1, 1), (169, .aload_n 0, 1), (170, .getfield 31, 3), (173, .bipush 8, 2), (175, .iload_n 1, 1), (176, .iadd, 1), (177, .iaload, 1), (178, .iastore, 1), (179, .aload_n 0, 1), (180, .getfield 34, 3), (183, .iload_n 1, 1), (184, .aload_n 0, 1), (185, .getfield 34, 3), (188, .bipush 8, 2), (190, .iload_n 1, 1), (191, .iadd, 1), (192, .iaload, 1), (193, .iastore, 1), (194, .aload_n 0, 1), (195, .getfield 49, 3), (198, .iload_n 1, 1), (199, .aload_n 0, 1), (200, .getfield 49, 3), (203, .bipush 8, 2), (205, .iload_n 1, 1), (206, .iadd, 1), (207, .iaload, 1), (208, .iastore, 1), (209, .aload_n 0, 1), (210, .getfield 52, 3), (213, .iload_n 1, 1), (214, .aload_n 0, 1), (215, .getfield 52, 3), (218, .bipush 8, 2), (220, .iload_n 1, 1), (221, .iadd, 1), (222, .iaload, 1), (223, .iastore, 1), (224, .aload_n 0, 1), (225, .getfield 55, 3), (228, .iload_n 1, 1), (229, .aload_n 0, 1), (230, .getfield 55, 3), (233, .bipush 8, 2), (235, .iload_n 1, 1), (236, .iadd, 1), (237, .iaload, 1), (238, .iastore, 1), (239, .iinc 1 1, 3), (242, .goto (-159), 3), (245, .iconst 0, 1), (246, .istore_n 1, 1), (247, .iload_n 1, 1), (248, .bipush 16, 2), (250, .if_icmp .ge 21, 3), (253, .aload_n 0, 1), (254, .getfield 40, 3), (257, .iload_n 1, 1), (258, .aload_n 0, 1), (259, .getfield 43, 3), (262, .iload_n 1, 1), (263, .iaload, 1), (264, .iastore, 1), (265, .iinc 1 1, 3), (268, .goto (-21), 3), (271, .aload_n 0, 1), (272, .invokevirtual 99, 3), (275, .aload_n 0, 1), (276, .getfield 13, 3), (279, .iconst 0, 1), (280, .iaload, 1), (281, .ireturn, 1)]
def kc_X9_isGlass : CL := [(0, .iload_n 1, 1), (1, .i2l, 1), (2, .lconst 0, 1), (3, .aload_n 0, 1), (4, .getfield 13, 3), (7, .iconst 0, 1), (8, .iaload, 1), (9, .iconst 1, 1), (10, .isub, 1), (11, .i2l, 1), (12, .invokestatic 104, 3), (15, .ireturn, 1)]
def kc_X9_isHand : CL := [(0, .iload_n 0, 1), (1, .i2l, 1), (2, .lconst 0, 1), (3, .ldc2_w 157, 3), (6, .invokestatic 104, 3), (9, .ireturn, 1)]
def kc_X9_glass : CL := [(0, .aload_n 0, 1), (1, .iload_n 1, 1), (2, .invokevirtual 159, 3), (5, .ifCond .eq 15, 3), (8, .iload_n 2, 1), (9, .i2l, 1), (10, .lconst 0, 1), (11, .ldc2_w 157, 3), (14, .invokestatic 104, 3), (17, .ifCond .ne 5, 3), (20, .iconst (-1), 1), (21, .ireturn, 1), (22, .iload_n 2, 1), (23, .tableswitch 74 0 4 #[33, 42, 53, 60, 67], 33), (56, .aload_n 0, 1), (57, .getfield 64, 3), (60, .iconst 2, 1), (61, .iload_n 1, 1), (62, .imul, 1), (63, .iaload, 1), (64, .ireturn, 1), (65, .aload_n 0, 1), (66, .getfield 64, 3), (69, .iconst 2, 1), (70, .iload_n 1, 1), (71, .imul, 1), (72, .iconst 1, 1), (73, .iadd, 1), (74, .iaload, 1), (75, .ireturn, 1), (76, .aload_n 0, 1), (77, .getfield 67, 3), (80, .iload_n 1, 1), (81, .iaload, 1), (82, .ireturn, 1), (83, .aload_n 0, 1), (84, .getfield 16, 3), (87, .iload_n 1, 1), (88, .iaload, 1), (89, .ireturn, 1), (90, .aload_n 0, 1), (91, .getfield 25, 3), (94, .iload_n 1, 1), (95, .iaload, 1), (96, .ireturn, 1), (97, .aload_n 0, 1), (98, .getfield 34, 3), (101, .iload_n 1, 1), (102, .iaload, 1), (103, .ireturn, 1)]
def kc_X9_copy : CL := [(0, .iconst 0, 1), (1, .istore_n 3, 1), (2, .iload_n 3, 1), (3, .bipush 16, 2), (5, .if_icmp .ge 31, 3), (8, .aload_n 0, 1), (9, .getfield 64, 3), (12, .bipush 16, 2), (14, .iload_n 2, 1), (15, .imul, 1), (16, .iload_n 3, 1), (17, .iadd, 1), (18, .aload_n 0, 1), (19, .getfield 64, 3), (22, .bipush 16, 2), (24, .iload_n 1, 1), (25, .imul, 1), (26, .iload_n 3, 1), (27, .iadd, 1), (28, .iaload, 1), (29, .iastore, 1), (30, .iinc 3 1, 3), (33, .goto (-31), 3), (36, .iconst 0, 1), (37, .istore_n 3, 1), (38, .iload_n 3, 1), (39, .bipush 8, 2), (41, .if_icmp .ge 31, 3), (44, .aload_n 0, 1), (45, .getfield 67, 3), (48, .bipush 8, 2), (50, .iload_n 2, 1), (51, .imul, 1), (52, .iload_n 3, 1), (53, .iadd, 1), (54, .aload_n 0, 1), (55, .getfield 67, 3), (58, .bipush 8, 2), (60, .iload_n 1, 1), (61, .imul, 1), (62, .iload_n 3, 1), (63, .iadd, 1), (64, .iaload, 1), (65, .iastore, 1), (66, .iinc 3 1, 3), (69, .goto (-31), 3), (72, .aload_n 0, 1), (73, .getfield 70, 3), (76, .iload_n 2, 1), (77, .aload_n 0, 1), (78, .getfield 70, 3), (81, .iload_n 1, 1), (82, .iaload, 1), (83, .iastore, 1), (84, .return_, 1)]
def kc_X9_hasOf : CL := [(0, .iconst 0, 1), (1, .istore_n 3, 1), (2, .iconst 0, 1), (3, .istore 4, 2), (5, .iload 4, 2), (7, .aload_n 0, 1), (8, .getfield 13, 3), (11, .iconst 0, 1), (12, .iaload, 1), (13, .if_icmp .ge 123, 3), (16, .aload_n 0, 1), (17, .getfield 64, 3), (20, .bipush 16, 2), (22, .iload_n 1, 1), (23, .imul, 1), (24, .iconst 2, 1), (25, .iload 4, 2), (27, .imul, 1), (28, .iadd, 1), (29, .iaload, 1), (30, .istore 5, 2), (32, .aload_n 0, 1), (33, .getfield 16, 3), (36, .iload 4, 2), (38, .iaload, 1), (39, .iconst 2, 1), (40, .if_icmp .ne 10, 3), (43, .iload 5, 2), (45, .iconst 2, 1), (46, .idiv, 1), (47, .goto 4, 3), (50, .iconst 0, 1), (51, .istore 6, 2), (53, .iload_n 3, 1), (54, .aload_n 0, 1), (55, .getfield 34, 3), (58, .iload 4, 2), (60, .iaload, 1), (61, .iload_n 2, 1), (62, .if_icmp .ne 8, 3), (65, .iload 6, 2), (67, .goto 4, 3), (70, .iconst 0, 1), (71, .iadd, 1), (72, .istore_n 3, 1), (73, .iload_n 3, 1), (74, .aload_n 0, 1), (75, .getfield 19, 3), (78, .iload 4, 2), (80, .iaload, 1), (81, .iload_n 2, 1), (82, .if_icmp .ne 11, 3), (85, .iload 5, 2), (87, .iload 6, 2), (89, .isub, 1), (90, .goto 4, 3), (93, .iconst 0, 1), (94, .iadd, 1), (95, .istore_n 3, 1), (96, .iload_n 3, 1), (97, .aload_n 0, 1), (98, .getfield 22, 3), (101, .iload 4, 2), (103, .iaload, 1), (104, .iload_n 2, 1), (105, .if_icmp .ne 22, 3), (108, .aload_n 0, 1), (109, .getfield 64, 3), (112, .bipush 16, 2), (114, .iload_n 1, 1), (115, .imul, 1), (116, .iconst 2, 1), (117, .iload 4, 2), (119, .imul, 1), (120, .iadd, 1), (121, .iconst 1, 1), (122, .iadd, 1), (123, .iaload, 1), (124, .goto 4, 3), (127, .iconst 0, 1), (128, .iadd, 1), (129, .istore_n 3, 1), (130, .iinc 4 1, 3), (133, .goto (-128), 3), (136, .iload_n 3, 1), (137, .ireturn, 1)]
def kc_X9_has : CL := [(0, .iload_n 1, 1), (1, .invokestatic 162, 3), (4, .ifCond .eq 12, 3), (7, .aload_n 0, 1), (8, .iconst 0, 1), (9, .iload_n 1, 1), (10, .invokevirtual 165, 3), (13, .goto 4, 3), (16, .iconst (-1), 1), (17, .ireturn, 1)]
def kc_X9_tiedTo : CL := [(0, .iconst 1, 1), (1, .iload_n 1, 1), (2, .ishl, 1), (3, .istore_n 2, 1), (4, .iconst 0, 1), (5, .istore_n 3, 1), (6, .iload_n 3, 1), (7, .bipush 8, 2), (9, .if_icmp .ge 65, 3), (12, .iconst 0, 1), (13, .istore 4, 2), (15, .iload 4, 2), (17, .aload_n 0, 1), (18, .getfield 37, 3), (21, .iconst 0, 1), (22, .iaload, 1), (23, .if_icmp .ge 45, 3), (26, .iload_n 2, 1), (27, .iload_n 2, 1), (28, .aload_n 0, 1), (29, .getfield 40, 3), (32, .iconst 2, 1), (33, .iload 4, 2), (35, .imul, 1), (36, .iaload, 1), (37, .invokestatic 169, 3), (40, .ifCond .eq 19, 3), (43, .iconst 1, 1), (44, .aload_n 0, 1), (45, .getfield 40, 3), (48, .iconst 2, 1), (49, .iload 4, 2), (51, .imul, 1), (52, .iconst 1, 1), (53, .iadd, 1), (54, .iaload, 1), (55, .ishl, 1), (56, .goto 4, 3), (59, .iconst 0, 1), (60, .ior, 1), (61, .istore_n 2, 1), (62, .iinc 4 1, 3), (65, .goto (-50), 3), (68, .iinc 3 1, 3), (71, .goto (-65), 3), (74, .iload_n 2, 1), (75, .ireturn, 1)]
def kc_X9_turnOf : CL := [(0, .aload_n 0, 1), (1, .iload_n 2, 1), (2, .invokevirtual 173, 3), (5, .istore_n 3, 1), (6, .iconst 0, 1), (7, .istore 4, 2), (9, .iconst 0, 1), (10, .istore 5, 2), (12, .iload 5, 2), (14, .aload_n 0, 1), (15, .getfield 13, 3), (18, .iconst 0, 1), (19, .iaload, 1), (20, .if_icmp .ge 47, 3), (23, .iload_n 3, 1), (24, .iload 5, 2), (26, .invokestatic 169, 3), (29, .ifCond .eq 32, 3), (32, .aload_n 0, 1), (33, .getfield 67, 3), (36, .bipush 8, 2), (38, .iload_n 1, 1), (39, .imul, 1), (40, .iload 5, 2), (42, .iadd, 1), (43, .iconst 1, 1), (44, .aload_n 0, 1), (45, .getfield 67, 3), (48, .bipush 8, 2), (50, .iload_n 1, 1), (51, .imul, 1), (52, .iload 5, 2), (54, .iadd, 1), (55, .iaload, 1), (56, .isub, 1), (57, .iastore, 1), (58, .iinc 4 1, 3), (61, .iinc 5 1, 3), (64, .goto (-52), 3), (67, .iload 4, 2), (69, .ireturn, 1)]
def kc_X9_clerks : CL := [(0, .iconst 0, 1), (1, .istore_n 2, 1), (2, .iload_n 2, 1), (3, .aload_n 0, 1), (4, .getfield 46, 3), (7, .iconst 0, 1), (8, .iaload, 1), (9, .if_icmp .ge 67, 3), (12, .aload_n 0, 1), (13, .getfield 70, 3), (16, .iload_n 1, 1), (17, .iaload, 1), (18, .aload_n 0, 1), (19, .getfield 55, 3), (22, .iload_n 2, 1), (23, .iaload, 1), (24, .isub, 1), (25, .iload_n 2, 1), (26, .aload_n 0, 1), (27, .getfield 85, 3), (30, .if_icmp .ne 10, 3), (33, .aload_n 0, 1), (34, .getfield 176, 3), (37, .goto 4, 3), (40, .iconst 0, 1), (41, .isub, 1), (42, .istore_n 3, 1), (43, .iload_n 3, 1), (44, .ifCond .lt 26, 3), (47, .iload_n 3, 1), (48, .aload_n 0, 1), (49, .getfield 52, 3), (52, .iload_n 2, 1), (53, .iaload, 1), (54, .irem, 1), (55, .ifCond .ne 15, 3), (58, .aload_n 0, 1), (59, .iload_n 1, 1), (60, .aload_n 0, 1), (61, .getfield 49, 3), (64, .iload_n 2, 1), (65, .iaload, 1), (66, .invokevirtual 179, 3), (69, .pop, 1), (70, .iinc 2 1, 3), (73, .goto (-71), 3), (76, .return_, 1)]
def kc_X9_upper : CL := [(0, .bipush 16, 2), (2, .iload_n 1, 1), (3, .imul, 1), (4, .iconst 2, 1), (5, .iload_n 2, 1), (6, .imul, 1), (7, .iadd, 1), (8, .aload_n 0, 1), (9, .getfield 67, 3), (12, .bipush 8, 2), (14, .iload_n 1, 1), (15, .imul, 1), (16, .iload_n 2, 1), (17, .iadd, 1), (18, .iaload, 1), (19, .iadd, 1), (20, .ireturn, 1)]
def kc_X9_lower : CL := [(0, .bipush 16, 2), (2, .iload_n 1, 1), (3, .imul, 1), (4, .iconst 2, 1), (5, .iload_n 2, 1), (6, .imul, 1), (7, .iadd, 1), (8, .iconst 1, 1), (9, .iadd, 1), (10, .aload_n 0, 1), (11, .getfield 67, 3), (14, .bipush 8, 2), (16, .iload_n 1, 1), (17, .imul, 1), (18, .iload_n 2, 1), (19, .iadd, 1), (20, .iaload, 1), (21, .isub, 1), (22, .ireturn, 1)]
def kc_X9_standing : CL := [(0, .iconst 0, 1), (1, .istore_n 2, 1), (2, .iconst 0, 1), (3, .istore_n 3, 1), (4, .iload_n 3, 1), (5, .aload_n 0, 1), (6, .getfield 13, 3), (9, .iconst 0, 1), (10, .iaload, 1), (11, .if_icmp .ge 31, 3), (14, .iload_n 2, 1), (15, .aload_n 0, 1), (16, .getfield 64, 3), (19, .aload_n 0, 1), (20, .iload_n 1, 1), (21, .iload_n 3, 1), (22, .invokevirtual 182, 3), (25, .iaload, 1), (26, .ifCond .ne 7, 3), (29, .iconst 1, 1), (30, .goto 4, 3), (33, .iconst 0, 1), (34, .iadd, 1), (35, .istore_n 2, 1), (36, .iinc 3 1, 3), (39, .goto (-35), 3), (42, .iload_n 2, 1), (43, .ireturn, 1)]
def kc_X9_fall : CL := [(0, .aload_n 0, 1), (1, .getfield 70, 3), (4, .iload_n 1, 1), (5, .iaload, 1), (6, .iconst 3, 1), (7, .irem, 1), (8, .iconst 2, 1), (9, .if_icmp .ne 7, 3), (12, .iconst 1, 1), (13, .goto 4, 3), (16, .iconst 0, 1), (17, .istore_n 2, 1), (18, .iconst 0, 1), (19, .istore_n 3, 1), (20, .iload_n 3, 1), (21, .aload_n 0, 1), (22, .getfield 13, 3), (25, .iconst 0, 1), (26, .iaload, 1), (27, .if_icmp .ge 149, 3), (30, .aload_n 0, 1), (31, .getfield 16, 3), (34, .iload_n 3, 1), (35, .iaload, 1), (36, .iconst 1, 1), (37, .if_icmp .eq 13, 3), (40, .aload_n 0, 1), (41, .getfield 16, 3), (44, .iload_n 3, 1), (45, .iaload, 1), (46, .iconst 3, 1), (47, .if_icmp .ne 36, 3), (50, .iload_n 2, 1), (51, .ifCond .eq 7, 3), (54, .iconst 0, 1), (55, .goto 34, 3), (58, .aload_n 0, 1), (59, .getfield 25, 3), (62, .iload_n 3, 1), (63, .iaload, 1), (64, .aload_n 0, 1), (65, .getfield 16, 3), (68, .iload_n 3, 1), (69, .iaload, 1), (70, .iconst 3, 1), (71, .if_icmp .ne 7, 3), (74, .iconst 2, 1), (75, .goto 4, 3), (78, .iconst 1, 1), (79, .imul, 1), (80, .goto 9, 3), (83, .aload_n 0, 1), (84, .getfield 25, 3), (87, .iload_n 3, 1), (88, .iaload, 1), (89, .istore 4, 2), (91, .aload_n 0, 1), (92, .iload_n 1, 1), (93, .iload_n 3, 1), (94, .invokevirtual 182, 3), (97, .istore 5, 2), (99, .iload 4, 2), (101, .aload_n 0, 1), (102, .getfield 64, 3), (105, .iload 5, 2), (107, .iaload, 1), (108, .if_icmp .ge 8, 3), (111, .iload 4, 2), (113, .goto 10, 3), (116, .aload_n 0, 1), (117, .getfield 64, 3), (120, .iload 5, 2), (122, .iaload, 1), (123, .istore 4, 2), (125, .aload_n 0, 1), (126, .getfield 64, 3), (129, .iload 5, 2), (131, .dup2, 1), (132, .iaload, 1), (133, .iload 4, 2), (135, .isub, 1), (136, .iastore, 1), (137, .aload_n 0, 1), (138, .getfield 64, 3), (141, .aload_n 0, 1), (142, .iload_n 1, 1), (143, .iload_n 3, 1), (144, .invokevirtual 185, 3), (147, .dup2, 1), (148, .iaload, 1), (149, .iload 4, 2), (151, .iadd, 1), (152, .iastore, 1), (153, .aload_n 0, 1), (154, .getfield 89, 3), (157, .iload 5, 2), (159, .bipush 16, 2), (161, .iload_n 1, 1), (162, .imul, 1), (163, .isub, 1), (164, .dup2, 1), (165, .iaload, 1), (166, .iload 4, 2), (168, .iadd, 1), (169, .iastore, 1), (170, .iinc 3 1, 3), (173, .goto (-153), 3), (176, .aload_n 0, 1), (177, .getfield 70, 3), (180, .iload_n 1, 1), (181, .dup2, 1), (182, .iaload, 1), (183, .iconst 1, 1), (184, .iadd, 1), (185, .iastore, 1), (186, .return_, 1)]
def kc_X9_minutes : CL := [(0, .iload_n 1, 1), (1, .i2l, 1), (2, .lconst 1, 1), (3, .ldc2_w 188, 3), (6, .invokestatic 104, 3), (9, .ifCond .ne 5, 3), (12, .iconst (-1), 1), (13, .ireturn, 1), (14, .aload_n 0, 1), (15, .getfield 70, 3), (18, .iconst 0, 1), (19, .iaload, 1), (20, .iload_n 1, 1), (21, .iadd, 1), (22, .ldc 190, 2), (24, .if_icmp .le 6, 3), (27, .bipush (-2), 2), (29, .ireturn, 1), (30, .iconst 0, 1), (31, .istore_n 2, 1), (32, .iload_n 2, 1), (33, .iload_n 1, 1), (34, .if_icmp .ge 19, 3), (37, .aload_n 0, 1), (38, .iconst 0, 1), (39, .invokevirtual 191, 3), (42, .aload_n 0, 1), (43, .iconst 0, 1), (44, .invokevirtual 194, 3), (47, .iinc 2 1, 3), (50, .goto (-18), 3), (53, .aload_n 0, 1), (54, .iconst 0, 1), (55, .putfield 154, 3), (58, .aload_n 0, 1), (59, .getfield 70, 3), (62, .iconst 0, 1), (63, .iaload, 1), (64, .ireturn, 1)]
def kc_X9_noteUndo : CL := [(0, .aload_n 0, 1), (1, .getfield 154, 3), (4, .bipush 8, 2), (6, .if_icmp .ne 45, 3), (9, .iconst 0, 1), (10, .istore 4, 2), (12, .iload 4, 2), (14, .bipush 21, 2), (16, .if_icmp .ge 25, 3), (19, .aload_n 0, 1), (20, .getfield 79, 3), (23, .iload 4, 2), (25, .aload_n 0, 1), (26, .getfield 79, 3), (29, .iload 4, 2), (31, .iconst 3, 1), (32, .iadd, 1), (33, .iaload, 1), (34, .iastore, 1), (35, .iinc 4 1, 3), (38, .goto (-26), 3), (41, .aload_n 0, 1), (42, .dup, 1), (43, .getfield 154, 3), (46, .iconst 1, 1), (47, .isub, 1), (48, .putfield 154, 3), (51, .aload_n 0, 1), (52, .getfield 79, 3), (55, .iconst 3, 1), (56, .aload_n 0, 1), (57, .getfield 154, 3), (60, .imul, 1), (61, .iload_n 1, 1), (62, .iastore, 1), (63, .aload_n 0, 1), (64, .getfield 79, 3), (67, .iconst 3, 1), (68, .aload_n 0, 1), (69, .getfield 154, 3), (72, .imul, 1), (73, .iconst 1, 1), (74, .iadd, 1), (75, .iload_n 2, 1), (76, .iastore, 1), (77, .aload_n 0, 1), (78, .getfield 79, 3), (81, .iconst 3, 1), (82, .aload_n 0, 1), (83, .getfield 154, 3), (86, .imul, 1), (87, .iconst 2, 1), (88, .iadd, 1), (89, .iload_n 3, 1), (90, .iastore, 1), (91, .aload_n 0, 1), (92, .dup, 1), (93, .getfield 154, 3), (96, .iconst 1, 1), (97, .iadd, 1), (98, .putfield 154, 3), (101, .return_, 1)]
def kc_X9_turn : CL := [(0, .aload_n 0, 1), (1, .iload_n 1, 1), (2, .invokevirtual 159, 3), (5, .ifCond .ne 5, 3), (8, .iconst (-1), 1), (9, .ireturn, 1), (10, .aload_n 0, 1), (11, .bipush (-4), 2), (13, .iload_n 1, 1), (14, .iconst 0, 1), (15, .invokevirtual 197, 3), (18, .aload_n 0, 1), (19, .iconst 0, 1), (20, .iload_n 1, 1), (21, .invokevirtual 179, 3), (24, .ireturn, 1)]
def kc_X9_pour : CL := [(0, .aload_n 0, 1), (1, .iload_n 1, 1), (2, .invokevirtual 159, 3), (5, .ifCond .eq 56, 3), (8, .iload_n 2, 1), (9, .i2l, 1), (10, .lconst 0, 1), (11, .lconst 1, 1), (12, .invokestatic 104, 3), (15, .ifCond .eq 46, 3), (18, .aload_n 0, 1), (19, .iload_n 3, 1), (20, .invokevirtual 159, 3), (23, .ifCond .eq 38, 3), (26, .iload 4, 2), (28, .i2l, 1), (29, .lconst 0, 1), (30, .lconst 1, 1), (31, .invokestatic 104, 3), (34, .ifCond .eq 27, 3), (37, .iload 5, 2), (39, .i2l, 1), (40, .lconst 1, 1), (41, .ldc2_w 201, 3), (44, .invokestatic 104, 3), (47, .ifCond .eq 14, 3), (50, .iload_n 1, 1), (51, .iload_n 3, 1), (52, .if_icmp .ne 11, 3), (55, .iload_n 2, 1), (56, .iload 4, 2), (58, .if_icmp .ne 5, 3), (61, .iconst (-1), 1), (62, .ireturn, 1), (63, .iconst 2, 1), (64, .iload_n 1, 1), (65, .imul, 1), (66, .iload_n 2, 1), (67, .iadd, 1), (68, .istore 6, 2), (70, .iconst 2, 1), (71, .iload_n 3, 1), (72, .imul, 1), (73, .iload 4, 2), (75, .iadd, 1), (76, .istore 7, 2), (78, .aload_n 0, 1), (79, .getfield 64, 3), (82, .iload 6, 2), (84, .iaload, 1), (85, .iload 5, 2), (87, .if_icmp .lt 19, 3), (90, .aload_n 0, 1), (91, .getfield 64, 3), (94, .iload 7, 2), (96, .iaload, 1), (97, .iload 5, 2), (99, .iadd, 1), (100, .sipush 9999, 3), (103, .if_icmp .le 6, 3), (106, .bipush (-2), 2), (108, .ireturn, 1), (109, .aload_n 0, 1), (110, .getfield 64, 3), (113, .iload 6, 2), (115, .dup2, 1), (116, .iaload, 1), (117, .iload 5, 2), (119, .isub, 1), (120, .iastore, 1), (121, .aload_n 0, 1), (122, .getfield 64, 3), (125, .iload 7, 2), (127, .dup2, 1), (128, .iaload, 1), (129, .iload 5, 2), (131, .iadd, 1), (132, .iastore, 1), (133, .aload_n 0, 1), (134, .iload 6, 2), (136, .iload 7, 2), (138, .iload 5, 2), (140, .invokevirtual 197, 3), (143, .aload_n 0, 1), (144, .getfield 64, 3), (147, .iload 7, 2), (149, .iaload, 1), (150, .ireturn, 1)]
def kc_X9_undo : CL := [(0, .aload_n 0, 1), (1, .getfield 154, 3), (4, .ifCond .ne 6, 3), (7, .bipush (-2), 2), (9, .ireturn, 1), (10, .aload_n 0, 1), (11, .dup, 1), (12, .getfield 154, 3), (15, .iconst 1, 1), (16, .isub, 1), (17, .putfield 154, 3), (20, .iconst 3, 1), (21, .aload_n 0, 1), (22, .getfield 154, 3), (25, .imul, 1), (26, .istore_n 1, 1), (27, .aload_n 0, 1), (28, .getfield 79, 3), (31, .iload_n 1, 1), (32, .iaload, 1), (33, .ifCond .ge 20, 3), (36, .aload_n 0, 1), (37, .iconst 0, 1), (38, .aload_n 0, 1), (39, .getfield 79, 3), (42, .iload_n 1, 1), (43, .iconst 1, 1), (44, .iadd, 1), (45, .iaload, 1), (46, .invokevirtual 179, 3), (49, .pop, 1), (50, .goto 49, 3), (53, .aload_n 0, 1), (54, .getfield 64, 3), (57, .aload_n 0, 1), (58, .getfield 79, 3), (61, .iload_n 1, 1), (62, .iaload, 1), (63, .dup2, 1), (64, .iaload, 1), (65, .aload_n 0, 1), (66, .getfield 79, 3), (69, .iload_n 1, 1), (70, .iconst 2, 1), (71, .iadd, 1), (72, .iaload, 1), (73, .iadd, 1), (74, .iastore, 1), (75, .aload_n 0, 1), (76, .getfield 64, 3), (79, .aload_n 0, 1), (80, .getfield 79, 3), (83, .iload_n 1, 1), (84, .iconst 1, 1), (85, .iadd, 1), (86, .iaload, 1), (87, .dup2, 1), (88, .iaload, 1), (89, .aload_n 0, 1), (90, .getfield 79, 3), (93, .iload_n 1, 1), (94, .iconst 2, 1), (95, .iadd, 1), (96, .iaload, 1), (97, .isub, 1), (98, .iastore, 1), (99, .aload_n 0, 1), (100, .getfield 154, 3), (103, .ireturn, 1)]
def kc_X9_runOn : CL := [(0, .aload_n 0, 1), (1, .iconst 0, 1), (2, .iconst 1, 1), (3, .invokevirtual 203, 3), (6, .aload_n 0, 1), (7, .iconst 0, 1), (8, .putfield 207, 3), (11, .iconst 0, 1), (12, .istore_n 2, 1), (13, .iload_n 2, 1), (14, .bipush 16, 2), (16, .if_icmp .ge 16, 3), (19, .aload_n 0, 1), (20, .getfield 89, 3), (23, .iload_n 2, 1), (24, .iconst 0, 1), (25, .iastore, 1), (26, .iinc 2 1, 3), (29, .goto (-16), 3), (32, .iconst 0, 1), (33, .istore_n 2, 1), (34, .iload_n 2, 1), (35, .iload_n 1, 1), (36, .if_icmp .ge 41, 3), (39, .aload_n 0, 1), (40, .iconst 1, 1), (41, .invokevirtual 191, 3), (44, .aload_n 0, 1), (45, .dup, 1), (46, .getfield 207, 3), (49, .aload_n 0, 1), (50, .iconst 1, 1), (51, .invokevirtual 210, 3), (54, .ifCond .le 7, 3), (57, .iconst 1, 1), (58, .goto 4, 3), (61, .iconst 0, 1), (62, .iadd, 1), (63, .putfield 207, 3), (66, .aload_n 0, 1), (67, .iconst 1, 1), (68, .invokevirtual 194, 3), (71, .iinc 2 1, 3), (74, .goto (-40), 3), (77, .return_, 1)]
def kc_X9_isLater : CL := [(0, .iload_n 0, 1), (1, .i2l, 1), (2, .lconst 0, 1), (3, .ldc2_w 213, 3), (6, .invokestatic 104, 3), (9, .ireturn, 1)]
def kc_X9_later : CL := [(0, .iload_n 1, 1), (1, .invokestatic 215, 3), (4, .ifCond .eq 10, 3), (7, .iload_n 2, 1), (8, .invokestatic 162, 3), (11, .ifCond .ne 5, 3), (14, .iconst (-1), 1), (15, .ireturn, 1), (16, .aload_n 0, 1), (17, .iload_n 1, 1), (18, .invokevirtual 218, 3), (21, .aload_n 0, 1), (22, .iconst 1, 1), (23, .iload_n 2, 1), (24, .invokevirtual 165, 3), (27, .ireturn, 1)]
def kc_X9_falls : CL := [(0, .iload_n 1, 1), (1, .invokestatic 215, 3), (4, .ifCond .eq 21, 3), (7, .aload_n 0, 1), (8, .iload_n 2, 1), (9, .invokevirtual 159, 3), (12, .ifCond .eq 13, 3), (15, .iload_n 3, 1), (16, .i2l, 1), (17, .lconst 0, 1), (18, .lconst 1, 1), (19, .invokestatic 104, 3), (22, .ifCond .ne 5, 3), (25, .iconst (-1), 1), (26, .ireturn, 1), (27, .aload_n 0, 1), (28, .iload_n 1, 1), (29, .invokevirtual 218, 3), (32, .aload_n 0, 1), (33, .getfield 89, 3), (36, .iconst 2, 1), (37, .iload_n 2, 1), (38, .imul, 1), (39, .iload_n 3, 1), (40, .iadd, 1), (41, .iaload, 1), (42, .ireturn, 1)]
def kc_X9_empty : CL := [(0, .iload_n 1, 1), (1, .invokestatic 215, 3), (4, .ifCond .ne 5, 3), (7, .iconst (-1), 1), (8, .ireturn, 1), (9, .aload_n 0, 1), (10, .iload_n 1, 1), (11, .invokevirtual 218, 3), (14, .aload_n 0, 1), (15, .getfield 207, 3), (18, .ireturn, 1)]
def kc_X9_isLate : CL := [(0, .iload_n 1, 1), (1, .i2l, 1), (2, .lconst 0, 1), (3, .aload_n 0, 1), (4, .getfield 46, 3), (7, .iconst 0, 1), (8, .iaload, 1), (9, .iconst 1, 1), (10, .isub, 1), (11, .i2l, 1), (12, .invokestatic 104, 3), (15, .ifCond .eq 26, 3), (18, .iload_n 2, 1), (19, .i2l, 1), (20, .lconst 0, 1), (21, .ldc2_w 132, 3), (24, .invokestatic 104, 3), (27, .ifCond .eq 14, 3), (30, .iload_n 3, 1), (31, .invokestatic 215, 3), (34, .ifCond .eq 7, 3), (37, .iconst 1, 1), (38, .goto 4, 3), (41, .iconst 0, 1), (42, .ireturn, 1)]
def kc_X9_layMore : CL := [(0, .aload_n 0, 1), (1, .iload_n 3, 1), (2, .invokevirtual 218, 3), (5, .iconst 0, 1), (6, .istore 4, 2), (8, .iload 4, 2), (10, .bipush 6, 2), (12, .if_icmp .ge 24, 3), (15, .aload_n 0, 1), (16, .getfield 92, 3), (19, .iload 4, 2), (21, .aload_n 0, 1), (22, .iconst 1, 1), (23, .iload 4, 2), (25, .invokevirtual 165, 3), (28, .ineg, 1), (29, .iastore, 1), (30, .iinc 4 1, 3), (33, .goto (-25), 3), (36, .aload_n 0, 1), (37, .iload_n 1, 1), (38, .putfield 85, 3), (41, .aload_n 0, 1), (42, .iload_n 2, 1), (43, .putfield 176, 3), (46, .aload_n 0, 1), (47, .iload_n 3, 1), (48, .invokevirtual 218, 3), (51, .aload_n 0, 1), (52, .bipush (-4), 2), (54, .putfield 85, 3), (57, .iconst 0, 1), (58, .istore 4, 2), (60, .iload 4, 2), (62, .bipush 6, 2), (64, .if_icmp .ge 26, 3), (67, .aload_n 0, 1), (68, .getfield 92, 3), (71, .iload 4, 2), (73, .dup2, 1), (74, .iaload, 1), (75, .aload_n 0, 1), (76, .iconst 1, 1), (77, .iload 4, 2), (79, .invokevirtual 165, 3), (82, .iadd, 1), (83, .iastore, 1), (84, .iinc 4 1, 3), (87, .goto (-27), 3), (90, .return_, 1)]
def kc_X9_late : CL := [(0, .aload_n 0, 1), (1, .iload_n 1, 1), (2, .iload_n 2, 1), (3, .iload_n 3, 1), (4, .invokevirtual 221, 3), (7, .ifCond .eq 11, 3), (10, .iload 4, 2), (12, .invokestatic 162, 3), (15, .ifCond .ne 5, 3), (18, .iconst (-1), 1), (19, .ireturn, 1), (20, .aload_n 0, 1), (21, .iload_n 1, 1), (22, .iload_n 2, 1), (23, .iload_n 3, 1), (24, .invokevirtual 225, 3), (27, .aload_n 0, 1), (28, .getfield 92, 3), (31, .iload 4, 2), (33, .iaload, 1), (34, .ldc 228, 2), (36, .iadd, 1), (37, .ireturn, 1)]
def kc_X9_gains : CL := [(0, .aload_n 0, 1), (1, .iload_n 1, 1), (2, .iload_n 2, 1), (3, .iload_n 3, 1), (4, .invokevirtual 221, 3), (7, .ifCond .eq 14, 3), (10, .iload 4, 2), (12, .i2l, 1), (13, .lconst 0, 1), (14, .lconst 1, 1), (15, .invokestatic 104, 3), (18, .ifCond .ne 5, 3), (21, .iconst (-1), 1), (22, .ireturn, 1), (23, .aload_n 0, 1), (24, .iload_n 1, 1), (25, .iload_n 2, 1), (26, .iload_n 3, 1), (27, .invokevirtual 225, 3), (30, .iconst 0, 1), (31, .istore 5, 2), (33, .iconst 1, 1), (34, .istore 6, 2), (36, .iload 6, 2), (38, .bipush 6, 2), (40, .if_icmp .ge 35, 3), (43, .aload_n 0, 1), (44, .getfield 92, 3), (47, .iload 6, 2), (49, .iaload, 1), (50, .aload_n 0, 1), (51, .getfield 92, 3), (54, .iload 5, 2), (56, .iaload, 1), (57, .if_icmp .le 8, 3), (60, .iload 6, 2), (62, .goto 5, 3), (65, .iload 5, 2), (67, .istore 5, 2), (69, .iinc 6 1, 3), (72, .goto (-36), 3), (75, .iload 4, 2), (77, .ifCond .ne 8, 3), (80, .iload 5, 2), (82, .goto 13, 3), (85, .aload_n 0, 1), (86, .getfield 92, 3), (89, .iload 5, 2), (91, .iaload, 1), (92, .ldc 228, 2), (94, .iadd, 1), (95, .ireturn, 1)]
def kc_X9_run : CL := [(0, .iload_n 1, 1), (1, .i2l, 1), (2, .lconst 0, 1), (3, .ldc2_w 229, 3), (6, .invokestatic 104, 3), (9, .ifCond .ne 5, 3), (12, .iconst (-1), 1), (13, .ireturn, 1), (14, .aload_n 0, 1), (15, .iconst 0, 1), (16, .iconst 1, 1), (17, .invokevirtual 203, 3), (20, .bipush (-4), 2), (22, .istore_n 2, 1), (23, .iconst 0, 1), (24, .istore_n 3, 1), (25, .iconst 0, 1), (26, .istore 4, 2), (28, .aload_n 0, 1), (29, .iconst 1, 1), (30, .invokevirtual 210, 3), (33, .aload_n 0, 1), (34, .getfield 13, 3), (37, .iconst 0, 1), (38, .iaload, 1), (39, .if_icmp .ge 34, 3), (42, .iload_n 2, 1), (43, .ifCond .ge 19, 3), (46, .aload_n 0, 1), (47, .iconst 1, 1), (48, .invokevirtual 210, 3), (51, .ifCond .le 11, 3), (54, .aload_n 0, 1), (55, .invokevirtual 231, 3), (58, .istore_n 2, 1), (59, .iload 4, 2), (61, .istore_n 3, 1), (62, .aload_n 0, 1), (63, .iconst 1, 1), (64, .invokevirtual 194, 3), (67, .iinc 4 1, 3), (70, .goto (-42), 3), (73, .iload_n 2, 1), (74, .ifCond .ge 11, 3), (77, .aload_n 0, 1), (78, .invokevirtual 231, 3), (81, .istore_n 2, 1), (82, .iload 4, 2), (84, .istore_n 3, 1), (85, .iload_n 1, 1), (86, .ifCond .ne 7, 3), (89, .iload_n 2, 1), (90, .goto 14, 3), (93, .iload_n 1, 1), (94, .iconst 1, 1), (95, .if_icmp .ne 7, 3), (98, .iload_n 3, 1), (99, .goto 5, 3), (102, .iload 4, 2), (104, .ireturn, 1)]
def kc_X9_lowestStanding : CL := [(0, .iconst 0, 1), (1, .istore_n 1, 1), (2, .aload_n 0, 1), (3, .getfield 64, 3), (6, .aload_n 0, 1), (7, .iconst 1, 1), (8, .iload_n 1, 1), (9, .invokevirtual 182, 3), (12, .iaload, 1), (13, .ifCond .eq 9, 3), (16, .iinc 1 1, 3), (19, .goto (-17), 3), (22, .iload_n 1, 1), (23, .ireturn, 1)]
def kc_X9_roundOf : CL := [(0, .aload_n 0, 1), (1, .iconst 0, 1), (2, .iconst 1, 1), (3, .invokevirtual 203, 3), (6, .iconst 0, 1), (7, .istore 4, 2), (9, .iconst 0, 1), (10, .istore 5, 2), (12, .iload 5, 2), (14, .iload_n 3, 1), (15, .if_icmp .ge 40, 3), (18, .aload_n 0, 1), (19, .iconst 1, 1), (20, .aload_n 0, 1), (21, .iload_n 1, 1), (22, .iload_n 2, 1), (23, .iload 5, 2), (25, .iload_n 2, 1), (26, .irem, 1), (27, .invokevirtual 234, 3), (30, .invokevirtual 179, 3), (33, .pop, 1), (34, .iload 4, 2), (36, .aload_n 0, 1), (37, .iconst 1, 1), (38, .invokevirtual 210, 3), (41, .iadd, 1), (42, .istore 4, 2), (44, .aload_n 0, 1), (45, .iconst 1, 1), (46, .invokevirtual 194, 3), (49, .iinc 5 1, 3), (52, .goto (-40), 3), (55, .iload 4, 2), (57, .ireturn, 1)]
def kc_X9_figure : CL := [(0, .iload_n 1, 1), (1, .istore 4, 2), (3, .iload_n 2, 1), (4, .iconst 1, 1), (5, .isub, 1), (6, .istore 5, 2), (8, .iload 5, 2), (10, .iload_n 3, 1), (11, .if_icmp .le 20, 3), (14, .iload 4, 2), (16, .aload_n 0, 1), (17, .getfield 13, 3), (20, .iconst 0, 1), (21, .iaload, 1), (22, .idiv, 1), (23, .istore 4, 2), (25, .iinc 5 (-1), 3), (28, .goto (-20), 3), (31, .iload 4, 2), (33, .aload_n 0, 1), (34, .getfield 13, 3), (37, .iconst 0, 1), (38, .iaload, 1), (39, .irem, 1), (40, .ireturn, 1)]
def kc_X9_round : CL := [(0, .iload_n 1, 1), (1, .i2l, 1), (2, .lconst 1, 1), (3, .ldc2_w 124, 3), (6, .invokestatic 104, 3), (9, .ifCond .eq 30, 3), (12, .iload_n 2, 1), (13, .i2l, 1), (14, .lconst 1, 1), (15, .ldc2_w 238, 3), (18, .invokestatic 104, 3), (21, .ifCond .eq 18, 3), (24, .iload_n 3, 1), (25, .i2l, 1), (26, .ldc2_w 240, 3), (29, .iload_n 1, 1), (30, .iconst 1, 1), (31, .isub, 1), (32, .i2l, 1), (33, .invokestatic 104, 3), (36, .ifCond .ne 5, 3), (39, .iconst (-1), 1), (40, .ireturn, 1), (41, .iconst 1, 1), (42, .istore 4, 2), (44, .iconst 0, 1), (45, .istore 5, 2), (47, .iload 5, 2), (49, .iload_n 1, 1), (50, .if_icmp .ge 20, 3), (53, .iload 4, 2), (55, .aload_n 0, 1), (56, .getfield 13, 3), (59, .iconst 0, 1), (60, .iaload, 1), (61, .imul, 1), (62, .istore 4, 2), (64, .iinc 5 1, 3), (67, .goto (-20), 3), (70, .bipush (-4), 2), (72, .istore 5, 2), (74, .iconst 0, 1), (75, .istore 6, 2), (77, .iconst 0, 1), (78, .istore 7, 2), (80, .iload 7, 2), (82, .iload 4, 2), (84, .if_icmp .ge 39, 3), (87, .aload_n 0, 1), (88, .iload 7, 2), (90, .iload_n 1, 1), (91, .iload_n 2, 1), (92, .invokevirtual 242, 3), (95, .istore 8, 2), (97, .iload 5, 2), (99, .ifCond .lt 10, 3), (102, .iload 8, 2), (104, .iload 6, 2), (106, .if_icmp .ge 11, 3), (109, .iload 7, 2), (111, .istore 5, 2), (113, .iload 8, 2), (115, .istore 6, 2), (117, .iinc 7 1, 3), (120, .goto (-40), 3), (123, .iload_n 3, 1), (124, .ifCond .ge 8, 3), (127, .iload 6, 2), (129, .goto 11, 3), (132, .aload_n 0, 1), (133, .iload 5, 2), (135, .iload_n 1, 1), (136, .iload_n 3, 1), (137, .invokevirtual 234, 3), (140, .ireturn, 1)]
def kc_X9_counted : CL := [(0, .aload_n 0, 1), (1, .iload_n 1, 1), (2, .invokevirtual 159, 3), (5, .ifCond .eq 22, 3), (8, .iload_n 2, 1), (9, .invokestatic 215, 3), (12, .ifCond .eq 15, 3), (15, .iload_n 3, 1), (16, .i2l, 1), (17, .lconst 0, 1), (18, .ldc2_w 201, 3), (21, .invokestatic 104, 3), (24, .ifCond .ne 5, 3), (27, .iconst (-1), 1), (28, .ireturn, 1), (29, .aload_n 0, 1), (30, .getfield 73, 3), (33, .iconst 0, 1), (34, .iaload, 1), (35, .istore 4, 2), (37, .iload 4, 2), (39, .bipush 12, 2), (41, .if_icmp .ne 6, 3), (44, .bipush (-3), 2), (46, .ireturn, 1), (47, .aload_n 0, 1), (48, .getfield 76, 3), (51, .iconst 3, 1), (52, .iload 4, 2), (54, .imul, 1), (55, .iload_n 1, 1), (56, .iastore, 1), (57, .aload_n 0, 1), (58, .getfield 76, 3), (61, .iconst 3, 1), (62, .iload 4, 2), (64, .imul, 1), (65, .iconst 1, 1), (66, .iadd, 1), (67, .iload_n 2, 1), (68, .iastore, 1), (69, .aload_n 0, 1), (70, .getfield 76, 3), (73, .iconst 3, 1), (74, .iload 4, 2), (76, .imul, 1), (77, .iconst 2, 1), (78, .iadd, 1), (79, .iload_n 3, 1), (80, .iastore, 1), (81, .aload_n 0, 1), (82, .getfield 73, 3), (85, .iconst 0, 1), (86, .dup2, 1), (87, .iaload, 1), (88, .iconst 1, 1), (89, .iadd, 1), (90, .iastore, 1), (91, .aload_n 0, 1), (92, .getfield 73, 3), (95, .iconst 0, 1), (96, .iaload, 1), (97, .ireturn, 1)]
def kc_X9_fewest : CL := [(0, .iload_n 2, 1), (1, .istore_n 3, 1), (2, .iconst 0, 1), (3, .istore 4, 2), (5, .iload 4, 2), (7, .aload_n 0, 1), (8, .getfield 73, 3), (11, .iconst 0, 1), (12, .iaload, 1), (13, .if_icmp .ge 65, 3), (16, .aload_n 0, 1), (17, .getfield 76, 3), (20, .iconst 3, 1), (21, .iload 4, 2), (23, .imul, 1), (24, .iaload, 1), (25, .iload_n 1, 1), (26, .if_icmp .ne 22, 3), (29, .aload_n 0, 1), (30, .getfield 76, 3), (33, .iconst 3, 1), (34, .iload 4, 2), (36, .imul, 1), (37, .iconst 2, 1), (38, .iadd, 1), (39, .iaload, 1), (40, .iload_n 3, 1), (41, .if_icmp .ge 7, 3), (44, .iconst 1, 1), (45, .goto 4, 3), (48, .iconst 0, 1), (49, .istore 5, 2), (51, .iload 5, 2), (53, .ifCond .eq 17, 3), (56, .aload_n 0, 1), (57, .getfield 76, 3), (60, .iconst 3, 1), (61, .iload 4, 2), (63, .imul, 1), (64, .iconst 2, 1), (65, .iadd, 1), (66, .iaload, 1), (67, .goto 4, 3), (70, .iload_n 3, 1), (71, .istore_n 3, 1), (72, .iinc 4 1, 3), (75, .goto (-70), 3), (78, .iload_n 3, 1), (79, .ireturn, 1)]
def kc_X9_till : CL := [(0, .bipush (-4), 2), (2, .istore_n 3, 1), (3, .iconst 0, 1), (4, .istore 4, 2), (6, .iload 4, 2), (8, .aload_n 0, 1), (9, .getfield 73, 3), (12, .iconst 0, 1), (13, .iaload, 1), (14, .if_icmp .ge 84, 3), (17, .aload_n 0, 1), (18, .getfield 76, 3), (21, .iconst 3, 1), (22, .iload 4, 2), (24, .imul, 1), (25, .iaload, 1), (26, .iload_n 1, 1), (27, .if_icmp .ne 22, 3), (30, .aload_n 0, 1), (31, .getfield 76, 3), (34, .iconst 3, 1), (35, .iload 4, 2), (37, .imul, 1), (38, .iconst 2, 1), (39, .iadd, 1), (40, .iaload, 1), (41, .iload_n 2, 1), (42, .if_icmp .ge 7, 3), (45, .iconst 1, 1), (46, .goto 4, 3), (49, .iconst 0, 1), (50, .istore 5, 2), (52, .iload 5, 2), (54, .ifCond .eq 36, 3), (57, .iload_n 3, 1), (58, .ifCond .lt 18, 3), (61, .aload_n 0, 1), (62, .getfield 76, 3), (65, .iconst 3, 1), (66, .iload 4, 2), (68, .imul, 1), (69, .iconst 1, 1), (70, .iadd, 1), (71, .iaload, 1), (72, .iload_n 3, 1), (73, .if_icmp .ge 17, 3), (76, .aload_n 0, 1), (77, .getfield 76, 3), (80, .iconst 3, 1), (81, .iload 4, 2), (83, .imul, 1), (84, .iconst 1, 1), (85, .iadd, 1), (86, .iaload, 1), (87, .goto 4, 3), (90, .iload_n 3, 1), (91, .istore_n 3, 1), (92, .iinc 4 1, 3), (95, .goto (-89), 3), (98, .iload_n 3, 1), (99, .ireturn, 1)]
def kc_X9_since : CL := [(0, .aload_n 0, 1), (1, .iload_n 1, 1), (2, .iload_n 2, 1), (3, .invokevirtual 245, 3), (6, .istore_n 3, 1), (7, .bipush (-4), 2), (9, .istore 4, 2), (11, .iconst 0, 1), (12, .istore 5, 2), (14, .iload 5, 2), (16, .aload_n 0, 1), (17, .getfield 73, 3), (20, .iconst 0, 1), (21, .iaload, 1), (22, .if_icmp .ge 98, 3), (25, .aload_n 0, 1), (26, .getfield 76, 3), (29, .iconst 3, 1), (30, .iload 5, 2), (32, .imul, 1), (33, .iaload, 1), (34, .iload_n 1, 1), (35, .if_icmp .ne 37, 3), (38, .aload_n 0, 1), (39, .getfield 76, 3), (42, .iconst 3, 1), (43, .iload 5, 2), (45, .imul, 1), (46, .iconst 2, 1), (47, .iadd, 1), (48, .iaload, 1), (49, .iload_n 2, 1), (50, .if_icmp .lt 22, 3), (53, .aload_n 0, 1), (54, .getfield 76, 3), (57, .iconst 3, 1), (58, .iload 5, 2), (60, .imul, 1), (61, .iconst 1, 1), (62, .iadd, 1), (63, .iaload, 1), (64, .iload_n 3, 1), (65, .if_icmp .ge 7, 3), (68, .iconst 1, 1), (69, .goto 4, 3), (72, .iconst 0, 1), (73, .istore 6, 2), (75, .iload 6, 2), (77, .ifCond .eq 33, 3), (80, .aload_n 0, 1), (81, .getfield 76, 3), (84, .iconst 3, 1), (85, .iload 5, 2), (87, .imul, 1), (88, .iconst 1, 1), (89, .iadd, 1), (90, .iaload, 1), (91, .iload 4, 2), (93, .if_icmp .le 17, 3), (96, .aload_n 0, 1), (97, .getfield 76, 3), (100, .iconst 3, 1), (101, .iload 5, 2), (103, .imul, 1), (104, .iconst 1, 1), (105, .iadd, 1), (106, .iaload, 1), (107, .goto 5, 3), (110, .iload 4, 2), (112, .istore 4, 2), (114, .iinc 5 1, 3), (117, .goto (-103), 3), (120, .iload 4, 2), (122, .ireturn, 1)]
def kc_X9_falseOnes : CL := [(0, .iconst 0, 1), (1, .istore_n 2, 1), (2, .iconst 0, 1), (3, .istore_n 3, 1), (4, .iload_n 3, 1), (5, .aload_n 0, 1), (6, .getfield 73, 3), (9, .iconst 0, 1), (10, .iaload, 1), (11, .if_icmp .ge 130, 3), (14, .iconst 0, 1), (15, .istore 4, 2), (17, .iconst 0, 1), (18, .istore 5, 2), (20, .iload 5, 2), (22, .aload_n 0, 1), (23, .getfield 73, 3), (26, .iconst 0, 1), (27, .iaload, 1), (28, .if_icmp .ge 82, 3), (31, .iload 4, 2), (33, .ifCond .ne 64, 3), (36, .aload_n 0, 1), (37, .getfield 76, 3), (40, .iconst 3, 1), (41, .iload 5, 2), (43, .imul, 1), (44, .iaload, 1), (45, .iload_n 1, 1), (46, .if_icmp .ne 55, 3), (49, .aload_n 0, 1), (50, .getfield 76, 3), (53, .iconst 3, 1), (54, .iload 5, 2), (56, .imul, 1), (57, .iconst 1, 1), (58, .iadd, 1), (59, .iaload, 1), (60, .aload_n 0, 1), (61, .getfield 76, 3), (64, .iconst 3, 1), (65, .iload_n 3, 1), (66, .imul, 1), (67, .iconst 1, 1), (68, .iadd, 1), (69, .iaload, 1), (70, .if_icmp .ge 31, 3), (73, .aload_n 0, 1), (74, .getfield 76, 3), (77, .iconst 3, 1), (78, .iload 5, 2), (80, .imul, 1), (81, .iconst 2, 1), (82, .iadd, 1), (83, .iaload, 1), (84, .aload_n 0, 1), (85, .getfield 76, 3), (88, .iconst 3, 1), (89, .iload_n 3, 1), (90, .imul, 1), (91, .iconst 2, 1), (92, .iadd, 1), (93, .iaload, 1), (94, .if_icmp .ge 7, 3), (97, .iconst 1, 1), (98, .goto 4, 3), (101, .iconst 0, 1), (102, .istore 4, 2), (104, .iinc 5 1, 3), (107, .goto (-87), 3), (110, .iload_n 2, 1), (111, .aload_n 0, 1), (112, .getfield 76, 3), (115, .iconst 3, 1), (116, .iload_n 3, 1), (117, .imul, 1), (118, .iaload, 1), (119, .iload_n 1, 1), (120, .if_icmp .ne 12, 3), (123, .iload 4, 2), (125, .ifCond .eq 7, 3), (128, .iconst 1, 1), (129, .goto 4, 3), (132, .iconst 0, 1), (133, .iadd, 1), (134, .istore_n 2, 1), (135, .iinc 3 1, 3), (138, .goto (-134), 3), (141, .iload_n 2, 1), (142, .ireturn, 1)]
def kc_X9_stolen : CL := [(0, .aload_n 0, 1), (1, .iload_n 1, 1), (2, .invokevirtual 159, 3), (5, .ifCond .eq 15, 3), (8, .iload_n 2, 1), (9, .i2l, 1), (10, .lconst 0, 1), (11, .ldc2_w 124, 3), (14, .invokestatic 104, 3), (17, .ifCond .ne 5, 3), (20, .iconst (-1), 1), (21, .ireturn, 1), (22, .aload_n 0, 1), (23, .getfield 28, 3), (26, .iload_n 1, 1), (27, .iaload, 1), (28, .aload_n 0, 1), (29, .getfield 31, 3), (32, .iload_n 1, 1), (33, .iaload, 1), (34, .iadd, 1), (35, .istore_n 3, 1), (36, .iload_n 2, 1), (37, .tableswitch 50 0 2 #[27, 36, 43], 27), (64, .iload_n 3, 1), (65, .aload_n 0, 1), (66, .iload_n 1, 1), (67, .iload_n 3, 1), (68, .invokevirtual 248, 3), (71, .isub, 1), (72, .ireturn, 1), (73, .aload_n 0, 1), (74, .iload_n 1, 1), (75, .iload_n 3, 1), (76, .invokevirtual 245, 3), (79, .ireturn, 1), (80, .aload_n 0, 1), (81, .iload_n 1, 1), (82, .iload_n 3, 1), (83, .invokevirtual 251, 3), (86, .ireturn, 1), (87, .aload_n 0, 1), (88, .iload_n 1, 1), (89, .invokevirtual 254, 3), (92, .ireturn, 1)]
def kc_X9_split : CL := [(0, .iload_n 1, 1), (1, .i2l, 1), (2, .lconst 0, 1), (3, .ldc2_w 201, 3), (6, .invokestatic 104, 3), (9, .ifCond .eq 10, 3), (12, .iload_n 2, 1), (13, .invokestatic 162, 3), (16, .ifCond .ne 5, 3), (19, .iconst (-1), 1), (20, .ireturn, 1), (21, .lconst 0, 1), (22, .lstore_n 3, 1), (23, .iconst 0, 1), (24, .istore 5, 2), (26, .iload 5, 2), (28, .bipush 6, 2), (30, .if_icmp .ge 20, 3), (33, .lload_n 3, 1), (34, .aload_n 0, 1), (35, .iconst 0, 1), (36, .iload 5, 2), (38, .invokevirtual 165, 3), (41, .i2l, 1), (42, .ladd, 1), (43, .lstore_n 3, 1), (44, .iinc 5 1, 3), (47, .goto (-21), 3), (50, .lload_n 3, 1), (51, .lconst 0, 1), (52, .lcmp, 1), (53, .ifCond .ne 6, 3), (56, .bipush (-4), 2), (58, .ireturn, 1), (59, .iload_n 1, 1), (60, .i2l, 1), (61, .lstore 5, 2), (63, .iload_n 1, 1), (64, .i2l, 1), (65, .aload_n 0, 1), (66, .iconst 0, 1), (67, .iload_n 2, 1), (68, .invokevirtual 165, 3), (71, .i2l, 1), (72, .lmul, 1), (73, .lload_n 3, 1), (74, .lrem, 1), (75, .lstore 7, 2), (77, .iconst 0, 1), (78, .istore 9, 2), (80, .iconst 0, 1), (81, .istore 10, 2), (83, .iload 10, 2), (85, .bipush 6, 2), (87, .if_icmp .ge 67, 3), (90, .iload_n 1, 1), (91, .i2l, 1), (92, .aload_n 0, 1), (93, .iconst 0, 1), (94, .iload 10, 2), (96, .invokevirtual 165, 3), (99, .i2l, 1), (100, .lmul, 1), (101, .lstore 11, 2), (103, .lload 5, 2), (105, .lload 11, 2), (107, .lload_n 3, 1), (108, .ldiv, 1), (109, .lsub, 1), (110, .lstore 5, 2), (112, .iload 9, 2), (114, .lload 11, 2), (116, .lload_n 3, 1), (117, .lrem, 1), (118, .lload 7, 2), (120, .lcmp, 1), (121, .ifCond .gt 19, 3), (124, .lload 11, 2), (126, .lload_n 3, 1), (127, .lrem, 1), (128, .lload 7, 2), (130, .lcmp, 1), (131, .ifCond .ne 13, 3), (134, .iload 10, 2), (136, .iload_n 2, 1), (137, .if_icmp .ge 7, 3), (140, .iconst 1, 1), (141, .goto 4, 3), (144, .iconst 0, 1), (145, .iadd, 1), (146, .istore 9, 2), (148, .iinc 10 1, 3), (151, .goto (-68), 3), (154, .iload_n 1, 1), (155, .i2l, 1), (156, .aload_n 0, 1), (157, .iconst 0, 1), (158, .iload_n 2, 1), (159, .invokevirtual 165, 3), (162, .i2l, 1), (163, .lmul, 1), (164, .lload_n 3, 1), (165, .ldiv, 1), (166, .lstore 10, 2), (168, .lload 10, 2), (170, .l2i, 1), (171, .lload 7, 2), (173, .lconst 0, 1), (174, .lcmp, 1), (175, .ifCond .le 16, 3), (178, .iload 9, 2), (180, .i2l, 1), (181, .lload 5, 2), (183, .lcmp, 1), (184, .ifCond .ge 7, 3), (187, .iconst 1, 1), (188, .goto 4, 3), (191, .iconst 0, 1), (192, .iadd, 1), (193, .ireturn, 1)]
def kc_X9_draw : CL := [(0, .ldc2_w 257, 3), (3, .iload_n 0, 1), (4, .i2l, 1), (5, .lmul, 1), (6, .ldc2_w 259, 3), (9, .iload_n 1, 1), (10, .i2l, 1), (11, .lmul, 1), (12, .ladd, 1), (13, .ldc2_w 261, 3), (16, .iload_n 2, 1), (17, .i2l, 1), (18, .lmul, 1), (19, .ladd, 1), (20, .lconst 1, 1), (21, .ladd, 1), (22, .lstore_n 3, 1), (23, .lload_n 3, 1), (24, .lload_n 3, 1), (25, .lmul, 1), (26, .ldc2_w 263, 3), (29, .lrem, 1), (30, .ldc2_w 265, 3), (33, .lrem, 1), (34, .l2i, 1), (35, .ireturn, 1)]
def kc_X9_goNight : CL := [(0, .aload_n 0, 1), (1, .iconst 0, 1), (2, .iconst 1, 1), (3, .invokevirtual 203, 3), (6, .aload_n 0, 1), (7, .iconst 0, 1), (8, .putfield 267, 3), (11, .aload_n 0, 1), (12, .iconst 0, 1), (13, .putfield 270, 3), (16, .iconst 0, 1), (17, .istore_n 3, 1), (18, .iload_n 3, 1), (19, .iload_n 2, 1), (20, .if_icmp .ge 64, 3), (23, .aload_n 0, 1), (24, .iconst 1, 1), (25, .invokevirtual 191, 3), (28, .iconst 0, 1), (29, .istore 4, 2), (31, .iload 4, 2), (33, .aload_n 0, 1), (34, .getfield 13, 3), (37, .iconst 0, 1), (38, .iaload, 1), (39, .if_icmp .ge 34, 3), (42, .aload_n 0, 1), (43, .getfield 270, 3), (46, .iload 4, 2), (48, .invokestatic 169, 3), (51, .ifCond .ne 16, 3), (54, .aload_n 0, 1), (55, .iload 4, 2), (57, .iload_n 1, 1), (58, .iload 4, 2), (60, .iload_n 3, 1), (61, .invokestatic 273, 3), (64, .invokevirtual 276, 3), (67, .iinc 4 1, 3), (70, .goto (-39), 3), (73, .aload_n 0, 1), (74, .iconst 1, 1), (75, .invokevirtual 194, 3), (78, .iinc 3 1, 3), (81, .goto (-63), 3), (84, .return_, 1)]
def kc_X9_suffer : CL := [(0, .aload_n 0, 1), (1, .iconst 1, 1), (2, .iload_n 1, 1), (3, .invokevirtual 182, 3), (6, .istore_n 3, 1), (7, .iload_n 2, 1), (8, .aload_n 0, 1), (9, .getfield 58, 3), (12, .iconst 0, 1), (13, .iaload, 1), (14, .if_icmp .ge 78, 3), (17, .aload_n 0, 1), (18, .dup, 1), (19, .getfield 270, 3), (22, .iconst 1, 1), (23, .iload_n 1, 1), (24, .ishl, 1), (25, .ior, 1), (26, .putfield 270, 3), (29, .aload_n 0, 1), (30, .dup, 1), (31, .getfield 267, 3), (34, .aload_n 0, 1), (35, .getfield 64, 3), (38, .bipush 16, 2), (40, .iconst 2, 1), (41, .iload_n 1, 1), (42, .imul, 1), (43, .iadd, 1), (44, .iaload, 1), (45, .aload_n 0, 1), (46, .getfield 64, 3), (49, .bipush 16, 2), (51, .iconst 2, 1), (52, .iload_n 1, 1), (53, .imul, 1), (54, .iadd, 1), (55, .iconst 1, 1), (56, .iadd, 1), (57, .iaload, 1), (58, .iadd, 1), (59, .iadd, 1), (60, .putfield 267, 3), (63, .aload_n 0, 1), (64, .getfield 64, 3), (67, .bipush 16, 2), (69, .iconst 2, 1), (70, .iload_n 1, 1), (71, .imul, 1), (72, .iadd, 1), (73, .iconst 0, 1), (74, .iastore, 1), (75, .aload_n 0, 1), (76, .getfield 64, 3), (79, .bipush 16, 2), (81, .iconst 2, 1), (82, .iload_n 1, 1), (83, .imul, 1), (84, .iadd, 1), (85, .iconst 1, 1), (86, .iadd, 1), (87, .iconst 0, 1), (88, .iastore, 1), (89, .goto 64, 3), (92, .iload_n 2, 1), (93, .aload_n 0, 1), (94, .getfield 58, 3), (97, .iconst 0, 1), (98, .iaload, 1), (99, .aload_n 0, 1), (100, .getfield 61, 3), (103, .iconst 0, 1), (104, .iaload, 1), (105, .iadd, 1), (106, .if_icmp .ge 47, 3), (109, .aload_n 0, 1), (110, .getfield 64, 3), (113, .iload_n 3, 1), (114, .iaload, 1), (115, .iconst 3, 1), (116, .if_icmp .ge 12, 3), (119, .aload_n 0, 1), (120, .getfield 64, 3), (123, .iload_n 3, 1), (124, .iaload, 1), (125, .goto 4, 3), (128, .iconst 3, 1), (129, .istore 4, 2), (131, .aload_n 0, 1), (132, .getfield 64, 3), (135, .iload_n 3, 1), (136, .dup2, 1), (137, .iaload, 1), (138, .iload 4, 2), (140, .isub, 1), (141, .iastore, 1), (142, .aload_n 0, 1), (143, .dup, 1), (144, .getfield 267, 3), (147, .iload 4, 2), (149, .iadd, 1), (150, .putfield 267, 3), (153, .return_, 1)]
def kc_X9_isNight : CL := [(0, .iload_n 0, 1), (1, .i2l, 1), (2, .lconst 0, 1), (3, .ldc2_w 201, 3), (6, .invokestatic 104, 3), (9, .ifCond .eq 19, 3), (12, .iload_n 1, 1), (13, .i2l, 1), (14, .lconst 0, 1), (15, .ldc2_w 279, 3), (18, .invokestatic 104, 3), (21, .ifCond .eq 7, 3), (24, .iconst 1, 1), (25, .goto 4, 3), (28, .iconst 0, 1), (29, .ireturn, 1)]
def kc_X9_night : CL := [(0, .iload_n 1, 1), (1, .iload_n 2, 1), (2, .invokestatic 281, 3), (5, .ifCond .eq 13, 3), (8, .iload_n 3, 1), (9, .i2l, 1), (10, .lconst 0, 1), (11, .lconst 1, 1), (12, .invokestatic 104, 3), (15, .ifCond .ne 5, 3), (18, .iconst (-1), 1), (19, .ireturn, 1), (20, .aload_n 0, 1), (21, .iload_n 1, 1), (22, .iload_n 2, 1), (23, .invokevirtual 284, 3), (26, .iconst 0, 1), (27, .istore 4, 2), (29, .iconst 0, 1), (30, .istore 5, 2), (32, .iload 5, 2), (34, .bipush 8, 2), (36, .if_icmp .ge 31, 3), (39, .iload 4, 2), (41, .aload_n 0, 1), (42, .getfield 270, 3), (45, .iload 5, 2), (47, .invokestatic 169, 3), (50, .ifCond .eq 7, 3), (53, .iconst 1, 1), (54, .goto 4, 3), (57, .iconst 0, 1), (58, .iadd, 1), (59, .istore 4, 2), (61, .iinc 5 1, 3), (64, .goto (-32), 3), (67, .iload_n 3, 1), (68, .ifCond .ne 10, 3), (71, .aload_n 0, 1), (72, .getfield 267, 3), (75, .goto 5, 3), (78, .iload 4, 2), (80, .ireturn, 1)]
def kc_X9_nightHas : CL := [(0, .iload_n 1, 1), (1, .iload_n 2, 1), (2, .invokestatic 281, 3), (5, .ifCond .eq 10, 3), (8, .iload_n 3, 1), (9, .invokestatic 162, 3), (12, .ifCond .ne 5, 3), (15, .iconst (-1), 1), (16, .ireturn, 1), (17, .aload_n 0, 1), (18, .iload_n 1, 1), (19, .iload_n 2, 1), (20, .invokevirtual 284, 3), (23, .aload_n 0, 1), (24, .iconst 1, 1), (25, .iload_n 3, 1), (26, .invokevirtual 165, 3), (29, .ireturn, 1)]
def kc_X9_copyCounts : CL := [(0, .aload_n 0, 1), (1, .getfield 73, 3), (4, .iload_n 2, 1), (5, .aload_n 0, 1), (6, .getfield 73, 3), (9, .iload_n 1, 1), (10, .iaload, 1), (11, .iastore, 1), (12, .iconst 0, 1), (13, .istore_n 3, 1), (14, .iload_n 3, 1), (15, .bipush 36, 2), (17, .if_icmp .ge 31, 3), (20, .aload_n 0, 1), (21, .getfield 76, 3), (24, .bipush 36, 2), (26, .iload_n 2, 1), (27, .imul, 1), (28, .iload_n 3, 1), (29, .iadd, 1), (30, .aload_n 0, 1), (31, .getfield 76, 3), (34, .bipush 36, 2), (36, .iload_n 1, 1), (37, .imul, 1), (38, .iload_n 3, 1), (39, .iadd, 1), (40, .iaload, 1), (41, .iastore, 1), (42, .iinc 3 1, 3), (45, .goto (-31), 3), (48, .return_, 1)]
def kc_X9_keep : CL := [(0, .aload_n 0, 1), (1, .getfield 151, 3), (4, .iconst 2, 1), (5, .if_icmp .ne 6, 3), (8, .bipush (-3), 2), (10, .ireturn, 1), (11, .aload_n 0, 1), (12, .dup, 1), (13, .getfield 151, 3), (16, .iconst 1, 1), (17, .iadd, 1), (18, .putfield 151, 3), (21, .aload_n 0, 1), (22, .iconst 0, 1), (23, .iconst 1, 1), (24, .aload_n 0, 1), (25, .getfield 151, 3), (28, .iadd, 1), (29, .invokevirtual 203, 3), (32, .aload_n 0, 1), (33, .iconst 0, 1), (34, .aload_n 0, 1), (35, .getfield 151, 3), (38, .invokevirtual 287, 3), (41, .aload_n 0, 1), (42, .getfield 151, 3), (45, .ireturn, 1)]
def kc_X9_back : CL := [(0, .aload_n 0, 1), (1, .getfield 151, 3), (4, .ifCond .ne 6, 3), (7, .bipush (-2), 2), (9, .ireturn, 1), (10, .aload_n 0, 1), (11, .iconst 1, 1), (12, .aload_n 0, 1), (13, .getfield 151, 3), (16, .iadd, 1), (17, .iconst 0, 1), (18, .invokevirtual 203, 3), (21, .aload_n 0, 1), (22, .aload_n 0, 1), (23, .getfield 151, 3), (26, .iconst 0, 1), (27, .invokevirtual 287, 3), (30, .aload_n 0, 1), (31, .dup, 1), (32, .getfield 151, 3), (35, .iconst 1, 1), (36, .isub, 1), (37, .putfield 151, 3), (40, .aload_n 0, 1), (41, .iconst 0, 1), (42, .putfield 154, 3), (45, .aload_n 0, 1), (46, .getfield 151, 3), (49, .ireturn, 1)]
def kc_X9_count : CL := [(0, .iload_n 1, 1), (1, .tableswitch 97 0 7 #[47, 54, 61, 68, 75, 80, 87, 92], 47), (48, .aload_n 0, 1), (49, .getfield 13, 3), (52, .iconst 0, 1), (53, .iaload, 1), (54, .ireturn, 1), (55, .aload_n 0, 1), (56, .getfield 46, 3), (59, .iconst 0, 1), (60, .iaload, 1), (61, .ireturn, 1), (62, .aload_n 0, 1), (63, .getfield 37, 3), (66, .iconst 0, 1), (67, .iaload, 1), (68, .ireturn, 1), (69, .aload_n 0, 1), (70, .getfield 70, 3), (73, .iconst 0, 1), (74, .iaload, 1), (75, .ireturn, 1), (76, .aload_n 0, 1), (77, .getfield 154, 3), (80, .ireturn, 1), (81, .aload_n 0, 1), (82, .getfield 73, 3), (85, .iconst 0, 1), (86, .iaload, 1), (87, .ireturn, 1), (88, .aload_n 0, 1), (89, .getfield 108, 3), (92, .ireturn, 1), (93, .aload_n 0, 1), (94, .getfield 151, 3), (97, .ireturn, 1), (98, .iconst (-1), 1), (99, .ireturn, 1)]
def kc_J6_bitCount_0f7a4 : CL := [(0, .iload_n 0, 1), (1, .iload_n 0, 1), (2, .iconst 1, 1), (3, .iushr, 1), (4, .ldc_w 265, 3), (7, .iand, 1), (8, .isub, 1), (9, .istore_n 0, 1), (10, .iload_n 0, 1), (11, .ldc_w 266, 3), (14, .iand, 1), (15, .iload_n 0, 1), (16, .iconst 2, 1), (17, .iushr, 1), (18, .ldc_w 266, 3), (21, .iand, 1), (22, .iadd, 1), (23, .istore_n 0, 1), (24, .iload_n 0, 1), (25, .iload_n 0, 1), (26, .iconst 4, 1), (27, .iushr, 1), (28, .iadd, 1), (29, .ldc_w 267, 3), (32, .iand, 1), (33, .istore_n 0, 1), (34, .iload_n 0, 1), (35, .iload_n 0, 1), (36, .bipush 8, 2), (38, .iushr, 1), (39, .iadd, 1), (40, .istore_n 0, 1), (41, .iload_n 0, 1), (42, .iload_n 0, 1), (43, .bipush 16, 2), (45, .iushr, 1), (46, .iadd, 1), (47, .istore_n 0, 1), (48, .iload_n 0, 1), (49, .bipush 63, 2), (51, .iand, 1), (52, .ireturn, 1)]
def kc_L_law : CL := [(0, .new 7, 3), (3, .dup, 1), (4, .invokespecial 9, 3), (7, .astore_n 1, 1), (8, .new 10, 3), (11, .dup, 1), (12, .invokespecial 12, 3), (15, .astore_n 2, 1), (16, .iconst 0, 1), (17, .istore_n 3, 1), (18, .iload_n 3, 1), (19, .aload_n 0, 1), (20, .arraylength, 1), (21, .bipush 6, 2), (23, .isub, 1), (24, .if_icmp .gt 925, 3), (27, .aload_n 0, 1), (28, .iload_n 3, 1), (29, .iaload, 1), (30, .bipush 31, 2), (32, .iand, 1), (33, .tableswitch 910 0 24 #[115, 178, 191, 204, 217, 250, 273, 296, 319, 382, 395, 428, 471, 494, 547, 600, 623, 666, 709, 742, 775, 818, 861, 874, 887], 115), (148, .aload_n 1, 1), (149, .aload_n 0, 1), (150, .iload_n 3, 1), (151, .iconst 1, 1), (152, .iadd, 1), (153, .iaload, 1), (154, .aload_n 0, 1), (155, .iload_n 3, 1), (156, .iconst 2, 1), (157, .iadd, 1), (158, .iaload, 1), (159, .i2l, 1), (160, .bipush 32, 2), (162, .lshl, 1), (163, .aload_n 0, 1), (164, .iload_n 3, 1), (165, .iconst 3, 1), (166, .iadd, 1), (167, .iaload, 1), (168, .i2l, 1), (169, .ldc2_w 13, 3), (172, .land, 1), (173, .lor, 1), (174, .invokevirtual 15, 3), (177, .aload_n 2, 1), (178, .aload_n 0, 1), (179, .iload_n 3, 1), (180, .iconst 1, 1), (181, .iadd, 1), (182, .iaload, 1), (183, .aload_n 0, 1), (184, .iload_n 3, 1), (185, .iconst 2, 1), (186, .iadd, 1), (187, .iaload, 1), (188, .i2l, 1), (189, .bipush 32, 2), (191, .lshl, 1), (192, .aload_n 0, 1), (193, .iload_n 3, 1), (194, .iconst 3, 1), (195, .iadd, 1), (196, .iaload, 1), (197, .i2l, 1), (198, .ldc2_w 13, 3), (201, .land, 1), (202, .lor, 1), (203, .invokevirtual 19, 3), (206, .if_icmp .eq 737, 3), (209, .iconst 0, 1), (210, .ireturn, 1), (211, .aload_n 1, 1), (212, .invokevirtual 20, 3), (215, .aload_n 2, 1), (216, .invokevirtual 24, 3), (219, .if_icmp .eq 724, 3), (222, .iconst 0, 1), (223, .ireturn, 1), (224, .aload_n 1, 1), (225, .invokevirtual 25, 3), (228, .aload_n 2, 1), (229, .invokevirtual 28, 3), (232, .if_icmp .eq 711, 3), (235, .iconst 0, 1), (236, .ireturn, 1), (237, .aload_n 1, 1), (238, .invokevirtual 29, 3), (241, .aload_n 2, 1), (242, .invokevirtual 32, 3), (245, .if_icmp .eq 698, 3), (248, .iconst 0, 1), (249, .ireturn, 1), (250, .aload_n 1, 1), (251, .aload_n 0, 1), (252, .iload_n 3, 1), (253, .iconst 1, 1), (254, .iadd, 1), (255, .iaload, 1), (256, .aload_n 0, 1), (257, .iload_n 3, 1), (258, .iconst 2, 1), (259, .iadd, 1), (260, .iaload, 1), (261, .invokevirtual 33, 3), (264, .aload_n 2, 1), (265, .aload_n 0, 1), (266, .iload_n 3, 1), (267, .iconst 1, 1), (268, .iadd, 1), (269, .iaload, 1), (270, .aload_n 0, 1), (271, .iload_n 3, 1), (272, .iconst 2, 1), (273, .iadd, 1), (274, .iaload, 1), (275, .invokevirtual 37, 3), (278, .if_icmp .eq 665, 3), (281, .iconst 0, 1), (282, .ireturn, 1), (283, .aload_n 1, 1), (284, .aload_n 0, 1), (285, .iload_n 3, 1), (286, .iconst 1, 1), (287, .iadd, 1), (288, .iaload, 1), (289, .invokevirtual 38, 3), (292, .aload_n 2, 1), (293, .aload_n 0, 1), (294, .iload_n 3, 1), (295, .iconst 1, 1), (296, .iadd, 1), (297, .iaload, 1), (298, .invokevirtual 42, 3), (301, .if_icmp .eq 642, 3), (304, .iconst 0, 1), (305, .ireturn, 1), (306, .aload_n 1, 1), (307, .aload_n 0, 1), (308, .iload_n 3, 1), (309, .iconst 1, 1), (310, .iadd, 1), (311, .iaload, 1), (312, .invokevirtual 43, 3), (315, .aload_n 2, 1), (316, .aload_n 0, 1), (317, .iload_n 3, 1), (318, .iconst 1, 1), (319, .iadd, 1), (320, .iaload, 1), (321, .invokevirtual 46, 3), (324, .if_icmp .eq 619, 3), (327, .iconst 0, 1), (328, .ireturn, 1), (329, .aload_n 1, 1), (330, .aload_n 0, 1), (331, .iload_n 3, 1), (332, .iconst 1, 1), (333, .iadd, 1), (334, .iaload, 1), (335, .invokevirtual 47, 3), (338, .aload_n 2, 1), (339, .aload_n 0, 1), (340, .iload_n 3, 1), (341, .iconst 1, 1), (342, .iadd, 1), (343, .iaload, 1), (344, .invokevirtual 50, 3), (347, .if_icmp .eq 596, 3), (350, .iconst 0, 1), (351, .ireturn, 1), (352, .aload_n 1, 1), (353, .aload_n 0, 1), (354, .iload_n 3, 1), (355, .iconst 1, 1), (356, .iadd, 1), (357, .iaload, 1), (358, .aload_n 0, 1), (359, .iload_n 3, 1), (360, .iconst 2, 1), (361, .iadd, 1), (362, .iaload, 1), (363, .aload_n 0, 1), (364, .iload_n 3, 1), (365, .iconst 3, 1), (366, .iadd, 1), (367, .iaload, 1), (368, .aload_n 0, 1), (369, .iload_n 3, 1), (370, .iconst 4, 1), (371, .iadd, 1), (372, .iaload, 1), (373, .aload_n 0, 1), (374, .iload_n 3, 1), (375, .iconst 5, 1), (376, .iadd, 1), (377, .iaload, 1), (378, .invokevirtual 51, 3), (381, .aload_n 2, 1), (382, .aload_n 0, 1), (383, .iload_n 3, 1), (384, .iconst 1, 1), (385, .iadd, 1), (386, .iaload, 1), (387, .aload_n 0, 1), (388, .iload_n 3, 1), (389, .iconst 2, 1), (390, .iadd, 1), (391, .iaload, 1), (392, .aload_n 0, 1), (393, .iload_n 3, 1), (394, .iconst 3, 1), (395, .iadd, 1), (396, .iaload, 1), (397, .aload_n 0, 1), (398, .iload_n 3, 1), (399, .iconst 4, 1), (400, .iadd, 1), (401, .iaload, 1), (402, .aload_n 0, 1), (403, .iload_n 3, 1), (404, .iconst 5, 1), (405, .iadd, 1), (406, .iaload, 1), (407, .invokevirtual 55, 3), (410, .if_icmp .eq 533, 3), (413, .iconst 0, 1), (414, .ireturn, 1), (415, .aload_n 1, 1), (416, .invokevirtual 56, 3), (419, .aload_n 2, 1), (420, .invokevirtual 59, 3), (423, .if_icmp .eq 520, 3), (426, .iconst 0, 1), (427, .ireturn, 1), (428, .aload_n 1, 1), (429, .aload_n 0, 1), (430, .iload_n 3, 1), (431, .iconst 1, 1), (432, .iadd, 1), (433, .iaload, 1), (434, .aload_n 0, 1), (435, .iload_n 3, 1), (436, .iconst 2, 1), (437, .iadd, 1), (438, .iaload, 1), (439, .invokevirtual 60, 3), (442, .aload_n 2, 1), (443, .aload_n 0, 1), (444, .iload_n 3, 1), (445, .iconst 1, 1), (446, .iadd, 1), (447, .iaload, 1), (448, .aload_n 0, 1), (449, .iload_n 3, 1), (450, .iconst 2, 1), (451, .iadd, 1), (452, .iaload, 1), (453, .invokevirtual 63, 3), (456, .if_icmp .eq 487, 3), (459, .iconst 0, 1), (460, .ireturn, 1), (461, .aload_n 1, 1), (462, .aload_n 0, 1), (463, .iload_n 3, 1), (464, .iconst 1, 1), (465, .iadd, 1), (466, .iaload, 1), (467, .aload_n 0, 1), (468, .iload_n 3, 1), (469, .iconst 2, 1), (470, .iadd, 1), (471, .iaload, 1), (472, .aload_n 0, 1), (473, .iload_n 3, 1), (474, .iconst 3, 1), (475, .iadd, 1), (476, .iaload, 1), (477, .invokevirtual 64, 3), (480, .aload_n 2, 1), (481, .aload_n 0, 1), (482, .iload_n 3, 1), (483, .iconst 1, 1), (484, .iadd, 1), (485, .iaload, 1), (486, .aload_n 0, 1), (487, .iload_n 3, 1), (488, .iconst 2, 1), (489, .iadd, 1), (490, .iaload, 1), (491, .aload_n 0, 1), (492, .iload_n 3, 1), (493, .iconst 3, 1), (494, .iadd, 1), (495, .iaload, 1), (496, .invokevirtual 68, 3), (499, .if_icmp .eq 444, 3), (502, .iconst 0, 1), (503, .ireturn, 1), (504, .aload_n 1, 1), (505, .aload_n 0, 1), (506, .iload_n 3, 1), (507, .iconst 1, 1), (508, .iadd, 1), (509, .iaload, 1), (510, .invokevirtual 69, 3), (513, .aload_n 2, 1), (514, .aload_n 0, 1), (515, .iload_n 3, 1), (516, .iconst 1, 1), (517, .iadd, 1), (518, .iaload, 1), (519, .invokevirtual 72, 3), (522, .if_icmp .eq 421, 3), (525, .iconst 0, 1), (526, .ireturn, 1), (527, .aload_n 1, 1), (528, .aload_n 0, 1), (529, .iload_n 3, 1), (530, .iconst 1, 1), (531, .iadd, 1), (532, .iaload, 1), (533, .aload_n 0, 1), (534, .iload_n 3, 1), (535, .iconst 2, 1), (536, .iadd, 1), (537, .iaload, 1), (538, .aload_n 0, 1), (539, .iload_n 3, 1), (540, .iconst 3, 1), (541, .iadd, 1), (542, .iaload, 1), (543, .aload_n 0, 1), (544, .iload_n 3, 1), (545, .iconst 4, 1), (546, .iadd, 1), (547, .iaload, 1), (548, .invokevirtual 73, 3), (551, .aload_n 2, 1), (552, .aload_n 0, 1), (553, .iload_n 3, 1), (554, .iconst 1, 1), (555, .iadd, 1), (556, .iaload, 1), (557, .aload_n 0, 1), (558, .iload_n 3, 1), (559, .iconst 2, 1), (560, .iadd, 1), (561, .iaload, 1), (562, .aload_n 0, 1), (563, .iload_n 3, 1), (564, .iconst 3, 1), (565, .iadd, 1), (566, .iaload, 1), (567, .aload_n 0, 1), (568, .iload_n 3, 1), (569, .iconst 4, 1), (570, .iadd, 1), (571, .iaload, 1), (572, .invokevirtual 77, 3), (575, .if_icmp .eq 368, 3), (578, .iconst 0, 1), (579, .ireturn, 1), (580, .aload_n 1, 1), (581, .aload_n 0, 1), (582, .iload_n 3, 1), (583, .iconst 1, 1), (584, .iadd, 1), (585, .iaload, 1), (586, .aload_n 0, 1), (587, .iload_n 3, 1), (588, .iconst 2, 1), (589, .iadd, 1), (590, .iaload, 1), (591, .aload_n 0, 1), (592, .iload_n 3, 1), (593, .iconst 3, 1), (594, .iadd, 1), (595, .iaload, 1), (596, .aload_n 0, 1), (597, .iload_n 3, 1), (598, .iconst 4, 1), (599, .iadd, 1), (600, .iaload, 1), (601, .invokevirtual 78, 3), (604, .aload_n 2, 1), (605, .aload_n 0, 1), (606, .iload_n 3, 1), (607, .iconst 1, 1), (608, .iadd, 1), (609, .iaload, 1), (610, .aload_n 0, 1), (611, .iload_n 3, 1), (612, .iconst 2, 1), (613, .iadd, 1), (614, .iaload, 1), (615, .aload_n 0, 1), (616, .iload_n 3, 1), (617, .iconst 3, 1), (618, .iadd, 1), (619, .iaload, 1), (620, .aload_n 0, 1), (621, .iload_n 3, 1), (622, .iconst 4, 1), (623, .iadd, 1), (624, .iaload, 1), (625, .invokevirtual 81, 3), (628, .if_icmp .eq 315, 3), (631, .iconst 0, 1), (632, .ireturn, 1), (633, .aload_n 1, 1), (634, .aload_n 0, 1), (635, .iload_n 3, 1), (636, .iconst 1, 1), (637, .iadd, 1), (638, .iaload, 1), (639, .invokevirtual 82, 3), (642, .aload_n 2, 1), (643, .aload_n 0, 1), (644, .iload_n 3, 1), (645, .iconst 1, 1), (646, .iadd, 1), (647, .iaload, 1), (648, .invokevirtual 85, 3), (651, .if_icmp .eq 292, 3), (654, .iconst 0, 1), (655, .ireturn, 1), (656, .aload_n 1, 1), (657, .aload_n 0, 1), (658, .iload_n 3, 1), (659, .iconst 1, 1), (660, .iadd, 1), (661, .iaload, 1), (662, .aload_n 0, 1), (663, .iload_n 3, 1), (664, .iconst 2, 1), (665, .iadd, 1), (666, .iaload, 1), (667, .aload_n 0, 1), (668, .iload_n 3, 1), (669, .iconst 3, 1), (670, .iadd, 1), (671, .iaload, 1), (672, .invokevirtual 86, 3), (675, .aload_n 2, 1), (676, .aload_n 0, 1), (677, .iload_n 3, 1), (678, .iconst 1, 1), (679, .iadd, 1), (680, .iaload, 1), (681, .aload_n 0, 1), (682, .iload_n 3, 1), (683, .iconst 2, 1), (684, .iadd, 1), (685, .iaload, 1), (686, .aload_n 0, 1), (687, .iload_n 3, 1), (688, .iconst 3, 1), (689, .iadd, 1), (690, .iaload, 1), (691, .invokevirtual 89, 3), (694, .if_icmp .eq 249, 3), (697, .iconst 0, 1), (698, .ireturn, 1), (699, .aload_n 1, 1), (700, .aload_n 0, 1), (701, .iload_n 3, 1), (702, .iconst 1, 1), (703, .iadd, 1), (704, .iaload, 1), (705, .aload_n 0, 1), (706, .iload_n 3, 1), (707, .iconst 2, 1), (708, .iadd, 1), (709, .iaload, 1), (710, .aload_n 0, 1), (711, .iload_n 3, 1), (712, .iconst 3, 1), (713, .iadd, 1), (714, .iaload, 1), (715, .invokevirtual 90, 3), (718, .aload_n 2, 1), (719, .aload_n 0, 1), (720, .iload_n 3, 1), (721, .iconst 1, 1), (722, .iadd, 1), (723, .iaload, 1), (724, .aload_n 0, 1), (725, .iload_n 3, 1), (726, .iconst 2, 1), (727, .iadd, 1), (728, .iaload, 1), (729, .aload_n 0, 1), (730, .iload_n 3, 1), (731, .iconst 3, 1), (732, .iadd, 1), (733, .iaload, 1), (734, .invokevirtual 93, 3), (737, .if_icmp .eq 206, 3), (740, .iconst 0, 1), (741, .ireturn, 1), (742, .aload_n 1, 1), (743, .aload_n 0, 1), (744, .iload_n 3, 1), (745, .iconst 1, 1), (746, .iadd, 1), (747, .iaload, 1), (748, .aload_n 0, 1), (749, .iload_n 3, 1), (750, .iconst 2, 1), (751, .iadd, 1), (752, .iaload, 1), (753, .invokevirtual 94, 3), (756, .aload_n 2, 1), (757, .aload_n 0, 1), (758, .iload_n 3, 1), (759, .iconst 1, 1), (760, .iadd, 1), (761, .iaload, 1), (762, .aload_n 0, 1), (763, .iload_n 3, 1), (764, .iconst 2, 1), (765, .iadd, 1), (766, .iaload, 1), (767, .invokevirtual 97, 3), (770, .if_icmp .eq 173, 3), (773, .iconst 0, 1), (774, .ireturn, 1), (775, .aload_n 1, 1), (776, .aload_n 0, 1), (777, .iload_n 3, 1), (778, .iconst 1, 1), (779, .iadd, 1), (780, .iaload, 1), (781, .aload_n 0, 1), (782, .iload_n 3, 1), (783, .iconst 2, 1), (784, .iadd, 1), (785, .iaload, 1), (786, .invokevirtual 98, 3), (789, .aload_n 2, 1), (790, .aload_n 0, 1), (791, .iload_n 3, 1), (792, .iconst 1, 1), (793, .iadd, 1), (794, .iaload, 1), (795, .aload_n 0, 1), (796, .iload_n 3, 1), (797, .iconst 2, 1), (798, .iadd, 1), (799, .iaload, 1), (800, .invokevirtual 101, 3), (803, .if_icmp .eq 140, 3), (806, .iconst 0, 1), (807, .ireturn, 1), (808, .aload_n 1, 1), (809, .aload_n 0, 1), (810, .iload_n 3, 1), (811, .iconst 1, 1), (812, .iadd, 1), (813, .iaload, 1), (814, .aload_n 0, 1), (815, .iload_n 3, 1), (816, .iconst 2, 1), (817, .iadd, 1), (818, .iaload, 1), (819, .aload_n 0, 1), (820, .iload_n 3, 1), (821, .iconst 3, 1), (822, .iadd, 1), (823, .iaload, 1), (824, .invokevirtual 102, 3), (827, .aload_n 2, 1), (828, .aload_n 0, 1), (829, .iload_n 3, 1), (830, .iconst 1, 1), (831, .iadd, 1), (832, .iaload, 1), (833, .aload_n 0, 1), (834, .iload_n 3, 1), (835, .iconst 2, 1), (836, .iadd, 1), (837, .iaload, 1), (838, .aload_n 0, 1), (839, .iload_n 3, 1), (840, .iconst 3, 1), (841, .iadd, 1), (842, .iaload, 1), (843, .invokevirtual 105, 3), (846, .if_icmp .eq 97, 3), (849, .iconst 0, 1), (850, .ireturn, 1), (851, .aload_n 1, 1), (852, .aload_n 0, 1), (853, .iload_n 3, 1), (854, .iconst 1, 1), (855, .iadd, 1), (856, .iaload, 1), (857, .aload_n 0, 1), (858, .iload_n 3, 1), (859, .iconst 2, 1), (860, .iadd, 1), (861, .iaload, 1), (862, .aload_n 0, 1), (863, .iload_n 3, 1), (864, .iconst 3, 1), (865, .iadd, 1), (866, .iaload, 1), (867, .invokevirtual 106, 3), (870, .aload_n 2, 1), (871, .aload_n 0, 1), (872, .iload_n 3, 1), (873, .iconst 1, 1), (874, .iadd, 1), (875, .iaload, 1), (876, .aload_n 0, 1), (877, .iload_n 3, 1), (878, .iconst 2, 1), (879, .iadd, 1), (880, .iaload, 1), (881, .aload_n 0, 1), (882, .iload_n 3, 1), (883, .iconst 3, 1), (884, .iadd, 1), (885, .iaload, 1), (886, .invokevirtual 109, 3), (889, .if_icmp .eq 54, 3), (892, .iconst 0, 1), (893, .ireturn, 1), (894, .aload_n 1, 1), (895, .invokevirtual 110, 3), (898, .aload_n 2, 1), (899, .invokevirtual 113, 3), (902, .if_icmp .eq 41, 3), (905, .iconst 0, 1), (906, .ireturn, 1), (907, .aload_n 1, 1), (908, .invokevirtual 114, 3), (911, .aload_n 2, 1), (912, .invokevirtual 117, 3), (915, .if_icmp .eq 28, 3), (918, .iconst 0, 1), (919, .ireturn, 1), (920, .aload_n 1, 1), (921, .aload_n 0, 1), (922, .iload_n 3, 1), (923, .iconst 1, 1), (924, .iadd, 1), (925, .iaload, 1), (926, .invokevirtual 118, 3), (929, .aload_n 2, 1), (930, .aload_n 0, 1), (931, .iload_n 3, 1), (932, .iconst 1, 1), (933, .iadd, 1), (934, .iaload, 1), (935, .invokevirtual 121, 3), (938, .if_icmp .eq 5, 3), (941, .iconst 0, 1), (942, .ireturn, 1), (943, .iinc 3 6, 3), (946, .goto (-928), 3), (949, .iconst 1, 1), (950, .ireturn, 1)]
def pool0 : List (Nat × PE) := [(1, 7, 0, 0, 0), (7, 0, 0, 0, 0), (13, 0, 0, 1, 0), (17, 0, 0, 2, 0), (20, 0, 0, 3, 0), (23, 0, 0, 4, 0), (26, 2, 3, 0, 0), (29, 2, 35, 1, 0), (35, 2, 36, 3, 0)]
def pool1 : List (Nat × PE) := [(3, 7, 0, 0, 0), (9, 0, 1, 0, 0), (15, 0, 1, 1, 0), (18, 0, 1, 2, 0), (21, 2, 38, 3, 0), (27, 1, 2, 0, 0), (32, 3, 9, 3, 0), (36, 2, 7, 4, 0), (40, 2, 39, 1, 0), (44, 1, 2, 15, 0), (47, 1, 5, 0, 0), (51, 2, 8, 3, 0), (55, 1, 2, 16, 0), (58, 2, 34, 1, 0), (62, 14, 0, 0, 0), (68, 10, 0, 0, 7919), (70, 10, 0, 0, 6151), (72, 10, 0, 0, 3571), (74, 10, 0, 0, 65521), (76, 10, 0, 0, 1000)]
def pool2 : List (Nat × PE) := [(3, 7, 0, 0, 0), (9, 0, 2, 0, 0), (15, 0, 2, 1, 0), (19, 0, 2, 2, 0), (22, 0, 2, 3, 0), (25, 0, 2, 4, 0), (28, 0, 2, 5, 0), (31, 0, 2, 6, 0), (34, 0, 2, 7, 0), (37, 0, 2, 8, 0), (40, 0, 2, 9, 0), (43, 0, 2, 10, 0), (46, 0, 2, 11, 0), (49, 0, 2, 12, 0), (52, 0, 2, 13, 0), (55, 0, 2, 14, 0), (58, 0, 2, 15, 0), (61, 0, 2, 16, 0), (64, 6, 80, 3, 0), (68, 6, 81, 1, 0), (72, 2, 12, 1, 0), (75, 2, 19, 1, 0)]
def pool3 : List (Nat × PE) := [(3, 7, 0, 0, 0), (11, 0, 3, 0, 0), (15, 0, 3, 1, 0), (19, 2, 11, 0, 0), (24, 1, 7, 1, 0), (29, 2, 22, 2, 0), (33, 2, 53, 1, 0), (37, 3, 23, 1, 0), (40, 2, 24, 2, 0), (44, 2, 25, 2, 0), (48, 6, 80, 3, 0), (52, 2, 13, 6, 0), (56, 2, 14, 2, 0), (60, 2, 15, 3, 0), (63, 2, 16, 2, 0), (66, 2, 17, 2, 0)]
def pool4 : List (Nat × PE) := [(1, 7, 0, 0, 0), (9, 0, 4, 0, 0), (13, 0, 4, 1, 0), (16, 0, 4, 2, 0), (20, 1, 2, 0, 0), (27, 9, 0, 0, 2147483647), (28, 2, 32, 1, 0), (34, 2, 28, 4, 0), (38, 8, 0, 0, 0), (44, 2, 29, 2, 0), (48, 1, 2, 10, 0), (51, 2, 35, 1, 0), (55, 2, 41, 1, 0), (59, 2, 39, 1, 0), (63, 14, 0, 0, 0)]
def pool5 : List (Nat × PE) := [(3, 7, 0, 0, 0), (9, 0, 5, 0, 0), (15, 0, 5, 1, 0), (19, 0, 5, 2, 0), (22, 1, 2, 5, 0), (27, 8, 0, 0, 0), (33, 2, 33, 1, 0), (37, 2, 38, 3, 0), (41, 2, 39, 1, 0), (45, 1, 2, 11, 0), (48, 1, 2, 14, 0), (51, 1, 2, 13, 0), (54, 1, 2, 10, 0), (57, 1, 2, 12, 0), (60, 2, 35, 1, 0), (64, 3, 40, 2, 0), (68, 1, 2, 0, 0), (71, 14, 0, 0, 0), (77, 1, 2, 7, 0), (80, 1, 2, 6, 0), (83, 2, 34, 1, 0), (86, 9, 0, 0, 100000), (87, 1, 2, 1, 0), (90, 1, 2, 4, 0), (93, 1, 2, 3, 0)]
def pool6 : List (Nat × PE) := [(3, 7, 0, 0, 0), (9, 0, 6, 0, 0), (15, 0, 6, 1, 0), (19, 0, 6, 2, 0), (22, 0, 6, 3, 0), (25, 13, 0, 0, 0), (31, 2, 47, 2, 0), (34, 2, 50, 1, 0)]
def pool7 : List (Nat × PE) := [(3, 7, 0, 0, 0), (9, 0, 7, 0, 0), (15, 0, 7, 1, 0), (19, 6, 80, 3, 0)]
def pool8 : List (Nat × PE) := [(1, 7, 0, 0, 0), (7, 11, 7, 0, 0), (9, 5, 51, 0, 0), (10, 0, 8, 0, 0), (16, 11, 3, 0, 0), (18, 5, 20, 0, 0), (19, 0, 8, 1, 0), (23, 11, 2, 0, 0), (25, 5, 10, 0, 0), (26, 0, 8, 2, 0), (30, 0, 8, 3, 0), (33, 11, 5, 0, 0), (35, 5, 30, 0, 0), (36, 0, 8, 4, 0), (40, 0, 8, 5, 0), (43, 11, 0, 0, 0), (45, 5, 0, 0, 0), (46, 0, 8, 6, 0), (50, 11, 6, 0, 0), (52, 5, 44, 0, 0), (53, 0, 8, 7, 0), (57, 11, 4, 0, 0), (59, 5, 26, 0, 0), (60, 0, 8, 8, 0), (64, 11, 1, 0, 0), (66, 5, 5, 0, 0), (67, 0, 8, 9, 0), (71, 0, 8, 10, 0), (75, 0, 8, 11, 0), (79, 0, 8, 12, 0), (83, 0, 8, 13, 0), (86, 2, 13, 6, 0), (90, 2, 18, 0, 0), (93, 2, 31, 1, 0), (97, 3, 80, 3, 0), (101, 1, 7, 1, 0), (104, 2, 52, 2, 0), (108, 2, 21, 2, 0), (112, 1, 2, 0, 0), (115, 1, 0, 0, 0), (118, 1, 6, 0, 0), (119, 2, 82, 1, 0), (123, 1, 5, 0, 0), (126, 2, 33, 1, 0), (130, 1, 2, 1, 0), (133, 1, 2, 2, 0), (136, 1, 2, 3, 0), (139, 3, 81, 1, 0), (142, 2, 43, 2, 0), (146, 1, 5, 2, 0), (149, 9, 0, 0, 1000000), (150, 2, 37, 4, 0), (154, 1, 2, 10, 0), (157, 2, 35, 1, 0), (161, 2, 1, 1, 0), (164, 3, 154, 1, 0), (169, 2, 36, 3, 0), (173, 2, 2, 3, 0), (176, 2, 4, 1, 0), (180, 2, 85, 3, 0), (184, 2, 32, 1, 0), (187, 13, 0, 0, 0), (193, 2, 38, 3, 0), (197, 2, 41, 1, 0), (201, 2, 39, 1, 0), (204, 2, 83, 3, 0), (207, 9, 0, 0, 100000), (208, 2, 87, 1, 0), (212, 2, 42, 2, 0), (215, 2, 27, 5, 0), (219, 1, 4, 2, 0), (222, 1, 4, 1, 0), (225, 2, 45, 3, 0), (228, 1, 2, 5, 0), (231, 2, 46, 2, 0), (234, 2, 47, 2, 0), (237, 2, 48, 2, 0), (240, 2, 49, 1, 0), (243, 2, 88, 4, 0), (247, 3, 84, 2, 0), (251, 2, 86, 2, 0), (255, 1, 1, 0, 0), (258, 1, 1, 1, 0), (261, 1, 2, 11, 0), (264, 1, 2, 8, 0), (267, 2, 6, 4, 0)]
def pool9 : List (Nat × PE) := [(1, 7, 0, 0, 0), (7, 0, 9, 1, 0), (13, 0, 9, 2, 0), (16, 0, 9, 3, 0), (19, 0, 9, 4, 0), (22, 0, 9, 5, 0), (25, 0, 9, 6, 0), (28, 0, 9, 7, 0), (31, 0, 9, 8, 0), (34, 0, 9, 9, 0), (37, 0, 9, 10, 0), (40, 0, 9, 11, 0), (43, 0, 9, 12, 0), (46, 0, 9, 13, 0), (49, 0, 9, 14, 0), (52, 0, 9, 15, 0), (55, 0, 9, 16, 0), (58, 0, 9, 17, 0), (61, 0, 9, 18, 0), (64, 0, 9, 19, 0), (67, 0, 9, 20, 0), (70, 0, 9, 21, 0), (73, 0, 9, 22, 0), (76, 0, 9, 23, 0), (79, 0, 9, 26, 0), (82, 0, 9, 28, 0), (85, 0, 9, 29, 0), (89, 0, 9, 31, 0), (92, 0, 9, 33, 0), (95, 2, 92, 1, 0), (99, 2, 103, 0, 0), (102, 10, 0, 0, 8), (104, 3, 90, 3, 0), (108, 0, 9, 0, 0), (111, 10, 0, 0, 255), (113, 0, 9, 27, 0), (116, 2, 95, 1, 0), (120, 10, 0, 0, 48), (122, 10, 0, 0, 57), (124, 10, 0, 0, 3), (126, 2, 96, 1, 0), (130, 10, 0, 0, 60), (132, 10, 0, 0, 99), (134, 2, 97, 0, 0), (138, 2, 98, 0, 0), (141, 2, 99, 0, 0), (144, 2, 100, 0, 0), (147, 2, 101, 0, 0), (151, 0, 9, 24, 0), (154, 0, 9, 25, 0), (157, 10, 0, 0, 5), (159, 2, 105, 1, 0), (162, 3, 106, 1, 0), (165, 2, 109, 2, 0), (169, 3, 91, 2, 0), (173, 2, 111, 1, 0), (176, 0, 9, 30, 0), (179, 2, 112, 2, 0), (182, 2, 114, 2, 0), (185, 2, 115, 2, 0), (188, 10, 0, 0, 999), (190, 9, 0, 0, 1000000), (191, 2, 113, 1, 0), (194, 2, 117, 1, 0), (197, 2, 119, 3, 0), (201, 10, 0, 0, 9999), (203, 2, 108, 2, 0), (207, 0, 9, 32, 0), (210, 2, 116, 1, 0), (213, 10, 0, 0, 20000), (215, 3, 124, 1, 0), (218, 2, 123, 1, 0), (221, 2, 128, 3, 0), (225, 2, 129, 3, 0), (228, 9, 0, 0, 100000), (229, 10, 0, 0, 2), (231, 2, 133, 0, 0), (234, 2, 135, 3, 0), (238, 10, 0, 0, 200), (240, 10, 0, 0, -1), (242, 2, 134, 3, 0), (245, 2, 139, 2, 0), (248, 2, 138, 2, 0), (251, 2, 140, 2, 0), (254, 2, 141, 1, 0), (257, 10, 0, 0, 7919), (259, 10, 0, 0, 6151), (261, 10, 0, 0, 3571), (263, 10, 0, 0, 65521), (265, 10, 0, 0, 1000), (267, 0, 9, 34, 0), (270, 0, 9, 35, 0), (273, 3, 144, 3, 0), (276, 2, 146, 2, 0), (279, 10, 0, 0, 2000), (281, 3, 147, 2, 0), (284, 2, 145, 2, 0), (287, 2, 150, 2, 0)]
def pool10 : List (Nat × PE) := [(7, 11, 8, 0, 0), (9, 4, 54, 0, 0), (10, 11, 9, 0, 0), (12, 4, 89, 0, 0), (13, 10, 0, 0, 4294967295), (15, 2, 55, 2, 0), (19, 2, 93, 2, 0), (20, 2, 56, 0, 0), (24, 2, 94, 0, 0), (25, 2, 57, 0, 0), (28, 2, 102, 0, 0), (29, 2, 58, 0, 0), (32, 2, 104, 0, 0), (33, 2, 59, 2, 0), (37, 2, 107, 2, 0), (38, 2, 60, 1, 0), (42, 2, 110, 1, 0), (43, 2, 61, 1, 0), (46, 2, 118, 1, 0), (47, 2, 62, 1, 0), (50, 2, 120, 1, 0), (51, 2, 63, 5, 0), (55, 2, 121, 5, 0), (56, 2, 64, 0, 0), (59, 2, 122, 0, 0), (60, 2, 65, 2, 0), (63, 2, 125, 2, 0), (64, 2, 66, 3, 0), (68, 2, 126, 3, 0), (69, 2, 67, 1, 0), (72, 2, 127, 1, 0), (73, 2, 68, 4, 0), (77, 2, 130, 4, 0), (78, 2, 69, 4, 0), (81, 2, 131, 4, 0), (82, 2, 70, 1, 0), (85, 2, 132, 1, 0), (86, 2, 71, 3, 0), (89, 2, 136, 3, 0), (90, 2, 72, 3, 0), (93, 2, 137, 3, 0), (94, 2, 73, 2, 0), (97, 2, 142, 2, 0), (98, 2, 74, 2, 0), (101, 2, 143, 2, 0), (102, 2, 75, 3, 0), (105, 2, 148, 3, 0), (106, 2, 76, 3, 0), (109, 2, 149, 3, 0), (110, 2, 77, 0, 0), (113, 2, 151, 0, 0), (114, 2, 78, 0, 0), (117, 2, 152, 0, 0), (118, 2, 79, 1, 0), (121, 2, 153, 1, 0)]
def pool11 : List (Nat × PE) := [(265, 9, 0, 0, 1431655765), (266, 9, 0, 0, 858993459), (267, 9, 0, 0, 252645135)]
def poolOf (own : Nat) : List (Nat × PE) := match own with
  | 0 => pool0
  | 1 => pool1
  | 2 => pool2
  | 3 => pool3
  | 4 => pool4
  | 5 => pool5
  | 6 => pool6
  | 7 => pool7
  | 8 => pool8
  | 9 => pool9
  | 10 => pool10
  | 11 => pool11
  | _ => []
def ownN (own : Nat) : String := match own with
  | 0 => RX0
  | 1 => RX1
  | 2 => RX2
  | 3 => RX3
  | 4 => RX4
  | 5 => RX5
  | 6 => RX6
  | 7 => RX7
  | 8 => RX8
  | 9 => RX9
  | 10 => RL
  | 11 => RJ6
  | _ => ""
abbrev ME := Nat × MethodName × ByteArray × Nat × Option FieldType × CL × Nat × Nat
def mt_X0_init : ME := (0, yX0_init, cX0_init, 1, none, kc_X0_init, 1, 20)
def mt_X0_noteTurn : ME := (0, yX0_noteTurn, cX0_noteTurn, 2, none, kc_X0_noteTurn, 1, 21)
def mt_X0_notePouring : ME := (0, yX0_notePouring, cX0_notePouring, 4, none, kc_X0_notePouring, 1, 21)
def mt_X0_makeRoom : ME := (0, yX0_makeRoom, cX0_makeRoom, 2, none, kc_X0_makeRoom, 0, 0)
def mt_X0_takeBack : ME := (0, yX0_takeBack, cX0_takeBack, 2, none, kc_X0_takeBack, 1, 23)
def mt_X1_init : ME := (1, yX1_init, cX1_init, 1, none, kc_X1_init, 1, 20)
def mt_X1_pass : ME := (1, yX1_pass, cX1_pass, 7, none, kc_X1_pass, 3, 67)
def mt_X1_befall : ME := (1, yX1_befall, cX1_befall, 6, none, kc_X1_befall, 2, 42)
def mt_X1_lose : ME := (1, yX1_lose, cX1_lose, 4, none, kc_X1_lose, 0, 0)
def mt_X1_draw : ME := (1, yX1_draw, cX1_draw, 5, (some FieldType.int), kc_X1_draw, 0, 0)
def mt_X2_init : ME := (2, yX2_init, cX2_init, 1, none, kc_X2_init, 1, 20)
def mt_X2_clear : ME := (2, yX2_clear, cX2_clear, 1, none, kc_X2_clear, 0, 0)
def mt_X2_isTold : ME := (2, yX2_isTold, cX2_isTold, 2, (some FieldType.boolean), kc_X2_isTold, 1, 22)
def mt_X2_addGlass : ME := (2, yX2_addGlass, cX2_addGlass, 8, (some FieldType.boolean), kc_X2_addGlass, 2, 42)
def mt_X2_addTie : ME := (2, yX2_addTie, cX2_addTie, 3, (some FieldType.boolean), kc_X2_addTie, 2, 43)
def mt_X2_addClerk : ME := (2, yX2_addClerk, cX2_addClerk, 4, (some FieldType.boolean), kc_X2_addClerk, 2, 43)
def mt_X2_setPartner : ME := (2, yX2_setPartner, cX2_setPartner, 3, (some FieldType.boolean), kc_X2_setPartner, 2, 43)
def mt_X2_setRisks : ME := (2, yX2_setRisks, cX2_setRisks, 3, (some FieldType.boolean), kc_X2_setRisks, 1, 22)
def mt_X2_bindTies : ME := (2, yX2_bindTies, cX2_bindTies, 4, none, kc_X2_bindTies, 1, 23)
def mt_X2_tiedToSome : ME := (2, yX2_tiedToSome, cX2_tiedToSome, 4, (some FieldType.int), kc_X2_tiedToSome, 0, 0)
def mt_X3_init : ME := (3, yX3_init, cX3_init, 1, none, kc_X3_init, 1, 20)
def mt_X3_readText : ME := (3, yX3_readText, cX3_readText, 5, (some FieldType.int), kc_X3_readText, 5, 116)
def mt_X3_readItem : ME := (3, yX3_readItem, cX3_readItem, 6, (some FieldType.boolean), kc_X3_readItem, 4, 91)
def mt_X3_numbersOf : ME := (3, yX3_numbersOf, cX3_numbersOf, 1, (some FieldType.int), kc_X3_numbersOf, 0, 0)
def mt_X3_readNumber : ME := (3, yX3_readNumber, cX3_readNumber, 5, (some FieldType.boolean), kc_X3_readNumber, 2, 43)
def mt_X3_addItem : ME := (3, yX3_addItem, cX3_addItem, 3, (some FieldType.boolean), kc_X3_addItem, 3, 69)
def mt_X4_init : ME := (4, yX4_init, cX4_init, 1, none, kc_X4_init, 1, 20)
def mt_X4_search : ME := (4, yX4_search, cX4_search, 9, none, kc_X4_search, 4, 92)
def mt_X4_stoodBy : ME := (4, yX4_stoodBy, cX4_stoodBy, 8, (some FieldType.int), kc_X4_stoodBy, 3, 65)
def mt_X4_stepRow : ME := (4, yX4_stepRow, cX4_stepRow, 4, none, kc_X4_stepRow, 1, 40)
def mt_X5_init : ME := (5, yX5_init, cX5_init, 1, none, kc_X5_init, 1, 20)
def mt_X5_fill : ME := (5, yX5_fill, cX5_fill, 2, none, kc_X5_fill, 1, 40)
def mt_X5_copyFrom : ME := (5, yX5_copyFrom, cX5_copyFrom, 2, none, kc_X5_copyFrom, 1, 40)
def mt_X5_upperSide : ME := (5, yX5_upperSide, cX5_upperSide, 2, (some FieldType.int), kc_X5_upperSide, 0, 0)
def mt_X5_upperBulb : ME := (5, yX5_upperBulb, cX5_upperBulb, 2, (some FieldType.int), kc_X5_upperBulb, 1, 21)
def mt_X5_flip : ME := (5, yX5_flip, cX5_flip, 2, none, kc_X5_flip, 0, 0)
def mt_X5_move : ME := (5, yX5_move, cX5_move, 4, none, kc_X5_move, 0, 0)
def mt_X5_goOn : ME := (5, yX5_goOn, cX5_goOn, 6, none, kc_X5_goOn, 2, 65)
def mt_X5_letClerksTurn : ME := (5, yX5_letClerksTurn, cX5_letClerksTurn, 7, none, kc_X5_letClerksTurn, 1, 21)
def mt_X5_letSandFall : ME := (5, yX5_letSandFall, cX5_letSandFall, 6, none, kc_X5_letSandFall, 1, 40)
def mt_X5_flowIn : ME := (5, yX5_flowIn, cX5_flowIn, 2, (some (FieldType.array FieldType.int)), kc_X5_flowIn, 0, 0)
def mt_X5_standing : ME := (5, yX5_standing, cX5_standing, 4, (some FieldType.int), kc_X5_standing, 2, 42)
def mt_X5_minutesLeft : ME := (5, yX5_minutesLeft, cX5_minutesLeft, 5, (some FieldType.int), kc_X5_minutesLeft, 2, 42)
def mt_X5_grainsOf : ME := (5, yX5_grainsOf, cX5_grainsOf, 7, (some FieldType.int), kc_X5_grainsOf, 0, 0)
def mt_X6_init : ME := (6, yX6_init, cX6_init, 1, none, kc_X6_init, 1, 20)
def mt_X6_note : ME := (6, yX6_note, cX6_note, 4, none, kc_X6_note, 0, 0)
def mt_X6_missing : ME := (6, yX6_missing, cX6_missing, 5, (some FieldType.int), kc_X6_missing, 1, 40)
def mt_X6_till : ME := (6, yX6_till, cX6_till, 5, (some FieldType.int), kc_X6_till, 0, 0)
def mt_X6_since : ME := (6, yX6_since, cX6_since, 6, (some FieldType.int), kc_X6_since, 1, 40)
def mt_X6_falseOnes : ME := (6, yX6_falseOnes, cX6_falseOnes, 4, (some FieldType.int), kc_X6_falseOnes, 1, 22)
def mt_X6_exceedsEarlier : ME := (6, yX6_exceedsEarlier, cX6_exceedsEarlier, 3, (some FieldType.boolean), kc_X6_exceedsEarlier, 0, 0)
def mt_X7_init : ME := (7, yX7_init, cX7_init, 1, none, kc_X7_init, 1, 20)
def mt_X7_append : ME := (7, yX7_append, cX7_append, 5, none, kc_X7_append, 0, 0)
def mt_X7_at : ME := (7, yX7_at, cX7_at, 2, (some FieldType.int), kc_X7_at, 1, 22)
def mt_X8_init : ME := (8, yX8_init, cX8_init, 1, none, kc_X8_init, 3, 69)
def mt_X8_write : ME := (8, yX8_write, cX8_write, 4, (some FieldType.int), kc_X8_write, 1, 24)
def mt_X8_wipe : ME := (8, yX8_wipe, cX8_wipe, 2, (some FieldType.int), kc_X8_wipe, 0, 0)
def mt_X8_fault : ME := (8, yX8_fault, cX8_fault, 1, (some FieldType.int), kc_X8_fault, 6, 140)
def mt_X8_lay : ME := (8, yX8_lay, cX8_lay, 2, (some FieldType.int), kc_X8_lay, 6, 140)
def mt_X8_glass : ME := (8, yX8_glass, cX8_glass, 3, (some FieldType.int), kc_X8_glass, 2, 43)
def mt_X8_has : ME := (8, yX8_has, cX8_has, 2, (some FieldType.int), kc_X8_has, 2, 42)
def mt_X8_minutes : ME := (8, yX8_minutes, cX8_minutes, 2, (some FieldType.int), kc_X8_minutes, 3, 90)
def mt_X8_turn : ME := (8, yX8_turn, cX8_turn, 3, (some FieldType.int), kc_X8_turn, 2, 43)
def mt_X8_pour : ME := (8, yX8_pour, cX8_pour, 8, (some FieldType.int), kc_X8_pour, 2, 44)
def mt_X8_undo : ME := (8, yX8_undo, cX8_undo, 1, (some FieldType.int), kc_X8_undo, 2, 44)
def mt_X8_later : ME := (8, yX8_later, cX8_later, 3, (some FieldType.int), kc_X8_later, 4, 113)
def mt_X8_falls : ME := (8, yX8_falls, cX8_falls, 8, (some FieldType.int), kc_X8_falls, 3, 90)
def mt_X8_empty : ME := (8, yX8_empty, cX8_empty, 4, (some FieldType.int), kc_X8_empty, 3, 65)
def mt_X8_late : ME := (8, yX8_late, cX8_late, 6, (some FieldType.int), kc_X8_late, 4, 113)
def mt_X8_gains : ME := (8, yX8_gains, cX8_gains, 9, (some FieldType.int), kc_X8_gains, 4, 113)
def mt_X8_run : ME := (8, yX8_run, cX8_run, 7, (some FieldType.int), kc_X8_run, 3, 66)
def mt_X8_round : ME := (8, yX8_round, cX8_round, 4, (some FieldType.int), kc_X8_round, 5, 120)
def mt_X8_counted : ME := (8, yX8_counted, cX8_counted, 4, (some FieldType.int), kc_X8_counted, 2, 43)
def mt_X8_stolen : ME := (8, yX8_stolen, cX8_stolen, 4, (some FieldType.int), kc_X8_stolen, 2, 65)
def mt_X8_split : ME := (8, yX8_split, cX8_split, 7, (some FieldType.int), kc_X8_split, 2, 49)
def mt_X8_night : ME := (8, yX8_night, cX8_night, 4, (some FieldType.int), kc_X8_night, 5, 115)
def mt_X8_nightHas : ME := (8, yX8_nightHas, cX8_nightHas, 4, (some FieldType.int), kc_X8_nightHas, 5, 115)
def mt_X8_keep : ME := (8, yX8_keep, cX8_keep, 1, (some FieldType.int), kc_X8_keep, 2, 61)
def mt_X8_back : ME := (8, yX8_back, cX8_back, 1, (some FieldType.int), kc_X8_back, 2, 61)
def mt_X8_count : ME := (8, yX8_count, cX8_count, 2, (some FieldType.int), kc_X8_count, 0, 0)
def mt_X8_within : ME := (8, yX8_within, cX8_within, 3, (some FieldType.boolean), kc_X8_within, 0, 0)
def mt_X8_isHand : ME := (8, yX8_isHand, cX8_isHand, 1, (some FieldType.boolean), kc_X8_isHand, 1, 22)
def mt_X8_isGlass : ME := (8, yX8_isGlass, cX8_isGlass, 2, (some FieldType.boolean), kc_X8_isGlass, 1, 22)
def mt_X8_isDelay : ME := (8, yX8_isDelay, cX8_isDelay, 4, (some FieldType.boolean), kc_X8_isDelay, 1, 22)
def mt_X8_isNight : ME := (8, yX8_isNight, cX8_isNight, 2, (some FieldType.boolean), kc_X8_isNight, 1, 22)
def mt_X8_lookAhead : ME := (8, yX8_lookAhead, cX8_lookAhead, 4, (some (FieldType.object "SandBank$Shelf")), kc_X8_lookAhead, 3, 90)
def mt_X8_passNight : ME := (8, yX8_passNight, cX8_passNight, 3, none, kc_X8_passNight, 4, 93)
def mt_X8_countHoldings : ME := (8, yX8_countHoldings, cX8_countHoldings, 4, (some FieldType.int), kc_X8_countHoldings, 1, 26)
def mt_X8_comesFirst : ME := (8, yX8_comesFirst, cX8_comesFirst, 7, (some FieldType.boolean), kc_X8_comesFirst, 0, 0)
def mt_X9_init : ME := (9, yX9_init, cX9_init, 1, none, kc_X9_init, 1, 21)
def mt_X9_in : ME := (9, yX9_in, cX9_in, 6, (some FieldType.boolean), kc_X9_in, 0, 0)
def mt_X9_has1 : ME := (9, yX9_has1, cX9_has1, 2, (some FieldType.boolean), kc_X9_has1, 0, 0)
def mt_X9_noShelf : ME := (9, yX9_noShelf, cX9_noShelf, 2, none, kc_X9_noShelf, 0, 0)
def mt_X9_write : ME := (9, yX9_write, cX9_write, 5, (some FieldType.int), kc_X9_write, 1, 25)
def mt_X9_wipe : ME := (9, yX9_wipe, cX9_wipe, 2, (some FieldType.int), kc_X9_wipe, 0, 0)
def mt_X9_byteAt : ME := (9, yX9_byteAt, cX9_byteAt, 2, (some FieldType.int), kc_X9_byteAt, 0, 0)
def mt_X9_figures : ME := (9, yX9_figures, cX9_figures, 5, (some FieldType.boolean), kc_X9_figures, 1, 25)
def mt_X9_glassItem : ME := (9, yX9_glassItem, cX9_glassItem, 2, (some FieldType.boolean), kc_X9_glassItem, 2, 49)
def mt_X9_tieItem : ME := (9, yX9_tieItem, cX9_tieItem, 2, (some FieldType.boolean), kc_X9_tieItem, 2, 49)
def mt_X9_clerkItem : ME := (9, yX9_clerkItem, cX9_clerkItem, 2, (some FieldType.boolean), kc_X9_clerkItem, 2, 49)
def mt_X9_item : ME := (9, yX9_item, cX9_item, 2, (some FieldType.boolean), kc_X9_item, 3, 70)
def mt_X9_readAll : ME := (9, yX9_readAll, cX9_readAll, 2, (some FieldType.int), kc_X9_readAll, 4, 91)
def mt_X9_fault : ME := (9, yX9_fault, cX9_fault, 1, (some FieldType.int), kc_X9_fault, 5, 112)
def mt_X9_layShelf : ME := (9, yX9_layShelf, cX9_layShelf, 2, none, kc_X9_layShelf, 0, 0)
def mt_X9_lay : ME := (9, yX9_lay, cX9_lay, 2, (some FieldType.int), kc_X9_lay, 5, 112)
def mt_X9_isGlass : ME := (9, yX9_isGlass, cX9_isGlass, 2, (some FieldType.boolean), kc_X9_isGlass, 1, 25)
def mt_X9_isHand : ME := (9, yX9_isHand, cX9_isHand, 1, (some FieldType.boolean), kc_X9_isHand, 1, 25)
def mt_X9_glass : ME := (9, yX9_glass, cX9_glass, 3, (some FieldType.int), kc_X9_glass, 2, 46)
def mt_X9_copy : ME := (9, yX9_copy, cX9_copy, 4, none, kc_X9_copy, 0, 0)
def mt_X9_hasOf : ME := (9, yX9_hasOf, cX9_hasOf, 7, (some FieldType.int), kc_X9_hasOf, 0, 0)
def mt_X9_has : ME := (9, yX9_has, cX9_has, 2, (some FieldType.int), kc_X9_has, 2, 45)
def mt_X9_tiedTo : ME := (9, yX9_tiedTo, cX9_tiedTo, 5, (some FieldType.int), kc_X9_tiedTo, 1, 21)
def mt_X9_turnOf : ME := (9, yX9_turnOf, cX9_turnOf, 6, (some FieldType.int), kc_X9_turnOf, 2, 45)
def mt_X9_clerks : ME := (9, yX9_clerks, cX9_clerks, 4, none, kc_X9_clerks, 3, 70)
def mt_X9_upper : ME := (9, yX9_upper, cX9_upper, 3, (some FieldType.int), kc_X9_upper, 0, 0)
def mt_X9_lower : ME := (9, yX9_lower, cX9_lower, 3, (some FieldType.int), kc_X9_lower, 0, 0)
def mt_X9_standing : ME := (9, yX9_standing, cX9_standing, 4, (some FieldType.int), kc_X9_standing, 1, 22)
def mt_X9_fall : ME := (9, yX9_fall, cX9_fall, 6, none, kc_X9_fall, 1, 22)
def mt_X9_minutes : ME := (9, yX9_minutes, cX9_minutes, 3, (some FieldType.int), kc_X9_minutes, 4, 93)
def mt_X9_noteUndo : ME := (9, yX9_noteUndo, cX9_noteUndo, 5, none, kc_X9_noteUndo, 0, 0)
def mt_X9_turn : ME := (9, yX9_turn, cX9_turn, 2, (some FieldType.int), kc_X9_turn, 3, 70)
def mt_X9_pour : ME := (9, yX9_pour, cX9_pour, 8, (some FieldType.int), kc_X9_pour, 2, 46)
def mt_X9_undo : ME := (9, yX9_undo, cX9_undo, 2, (some FieldType.int), kc_X9_undo, 3, 70)
def mt_X9_runOn : ME := (9, yX9_runOn, cX9_runOn, 3, none, kc_X9_runOn, 4, 93)
def mt_X9_isLater : ME := (9, yX9_isLater, cX9_isLater, 1, (some FieldType.boolean), kc_X9_isLater, 1, 25)
def mt_X9_later : ME := (9, yX9_later, cX9_later, 3, (some FieldType.int), kc_X9_later, 5, 115)
def mt_X9_falls : ME := (9, yX9_falls, cX9_falls, 4, (some FieldType.int), kc_X9_falls, 5, 115)
def mt_X9_empty : ME := (9, yX9_empty, cX9_empty, 2, (some FieldType.int), kc_X9_empty, 5, 115)
def mt_X9_isLate : ME := (9, yX9_isLate, cX9_isLate, 4, (some FieldType.boolean), kc_X9_isLate, 2, 45)
def mt_X9_layMore : ME := (9, yX9_layMore, cX9_layMore, 5, none, kc_X9_layMore, 5, 115)
def mt_X9_late : ME := (9, yX9_late, cX9_late, 5, (some FieldType.int), kc_X9_late, 6, 139)
def mt_X9_gains : ME := (9, yX9_gains, cX9_gains, 7, (some FieldType.int), kc_X9_gains, 6, 139)
def mt_X9_run : ME := (9, yX9_run, cX9_run, 5, (some FieldType.int), kc_X9_run, 2, 47)
def mt_X9_lowestStanding : ME := (9, yX9_lowestStanding, cX9_lowestStanding, 2, (some FieldType.int), kc_X9_lowestStanding, 1, 22)
def mt_X9_roundOf : ME := (9, yX9_roundOf, cX9_roundOf, 6, (some FieldType.int), kc_X9_roundOf, 3, 70)
def mt_X9_figure : ME := (9, yX9_figure, cX9_figure, 6, (some FieldType.int), kc_X9_figure, 0, 0)
def mt_X9_round : ME := (9, yX9_round, cX9_round, 9, (some FieldType.int), kc_X9_round, 4, 95)
def mt_X9_counted : ME := (9, yX9_counted, cX9_counted, 5, (some FieldType.int), kc_X9_counted, 2, 46)
def mt_X9_fewest : ME := (9, yX9_fewest, cX9_fewest, 6, (some FieldType.int), kc_X9_fewest, 0, 0)
def mt_X9_till : ME := (9, yX9_till, cX9_till, 6, (some FieldType.int), kc_X9_till, 0, 0)
def mt_X9_since : ME := (9, yX9_since, cX9_since, 7, (some FieldType.int), kc_X9_since, 1, 25)
def mt_X9_falseOnes : ME := (9, yX9_falseOnes, cX9_falseOnes, 6, (some FieldType.int), kc_X9_falseOnes, 0, 0)
def mt_X9_stolen : ME := (9, yX9_stolen, cX9_stolen, 4, (some FieldType.int), kc_X9_stolen, 2, 51)
def mt_X9_split : ME := (9, yX9_split, cX9_split, 13, (some FieldType.int), kc_X9_split, 2, 45)
def mt_X9_draw : ME := (9, yX9_draw, cX9_draw, 5, (some FieldType.int), kc_X9_draw, 0, 0)
def mt_X9_goNight : ME := (9, yX9_goNight, cX9_goNight, 5, none, kc_X9_goNight, 4, 93)
def mt_X9_suffer : ME := (9, yX9_suffer, cX9_suffer, 5, none, kc_X9_suffer, 1, 22)
def mt_X9_isNight : ME := (9, yX9_isNight, cX9_isNight, 2, (some FieldType.boolean), kc_X9_isNight, 1, 25)
def mt_X9_night : ME := (9, yX9_night, cX9_night, 6, (some FieldType.int), kc_X9_night, 5, 117)
def mt_X9_nightHas : ME := (9, yX9_nightHas, cX9_nightHas, 4, (some FieldType.int), kc_X9_nightHas, 5, 117)
def mt_X9_copyCounts : ME := (9, yX9_copyCounts, cX9_copyCounts, 4, none, kc_X9_copyCounts, 0, 0)
def mt_X9_keep : ME := (9, yX9_keep, cX9_keep, 1, (some FieldType.int), kc_X9_keep, 1, 23)
def mt_X9_back : ME := (9, yX9_back, cX9_back, 1, (some FieldType.int), kc_X9_back, 1, 23)
def mt_X9_count : ME := (9, yX9_count, cX9_count, 2, (some FieldType.int), kc_X9_count, 0, 0)
def mt_J6_bitCount_0f7a4 : ME := (11, yJ6_bitCount_0f7a4, cJ6_bitCount_0f7a4, 1, (some FieldType.int), kc_J6_bitCount_0f7a4, 0, 0)
def MT : List ME := [mt_X0_init, mt_X0_noteTurn, mt_X0_notePouring, mt_X0_makeRoom, mt_X0_takeBack, mt_X1_init, mt_X1_pass, mt_X1_befall, mt_X1_lose, mt_X1_draw, mt_X2_init, mt_X2_clear, mt_X2_isTold, mt_X2_addGlass, mt_X2_addTie, mt_X2_addClerk, mt_X2_setPartner, mt_X2_setRisks, mt_X2_bindTies, mt_X2_tiedToSome, mt_X3_init, mt_X3_readText, mt_X3_readItem, mt_X3_numbersOf, mt_X3_readNumber, mt_X3_addItem, mt_X4_init, mt_X4_search, mt_X4_stoodBy, mt_X4_stepRow, mt_X5_init, mt_X5_fill, mt_X5_copyFrom, mt_X5_upperSide, mt_X5_upperBulb, mt_X5_flip, mt_X5_move, mt_X5_goOn, mt_X5_letClerksTurn, mt_X5_letSandFall, mt_X5_flowIn, mt_X5_standing, mt_X5_minutesLeft, mt_X5_grainsOf, mt_X6_init, mt_X6_note, mt_X6_missing, mt_X6_till, mt_X6_since, mt_X6_falseOnes, mt_X6_exceedsEarlier, mt_X7_init, mt_X7_append, mt_X7_at, mt_X8_init, mt_X8_write, mt_X8_wipe, mt_X8_fault, mt_X8_lay, mt_X8_glass, mt_X8_has, mt_X8_minutes, mt_X8_turn, mt_X8_pour, mt_X8_undo, mt_X8_later, mt_X8_falls, mt_X8_empty, mt_X8_late, mt_X8_gains, mt_X8_run, mt_X8_round, mt_X8_counted, mt_X8_stolen, mt_X8_split, mt_X8_night, mt_X8_nightHas, mt_X8_keep, mt_X8_back, mt_X8_count, mt_X8_within, mt_X8_isHand, mt_X8_isGlass, mt_X8_isDelay, mt_X8_isNight, mt_X8_lookAhead, mt_X8_passNight, mt_X8_countHoldings, mt_X8_comesFirst, mt_X9_init, mt_X9_in, mt_X9_has1, mt_X9_noShelf, mt_X9_write, mt_X9_wipe, mt_X9_byteAt, mt_X9_figures, mt_X9_glassItem, mt_X9_tieItem, mt_X9_clerkItem, mt_X9_item, mt_X9_readAll, mt_X9_fault, mt_X9_layShelf, mt_X9_lay, mt_X9_isGlass, mt_X9_isHand, mt_X9_glass, mt_X9_copy, mt_X9_hasOf, mt_X9_has, mt_X9_tiedTo, mt_X9_turnOf, mt_X9_clerks, mt_X9_upper, mt_X9_lower, mt_X9_standing, mt_X9_fall, mt_X9_minutes, mt_X9_noteUndo, mt_X9_turn, mt_X9_pour, mt_X9_undo, mt_X9_runOn, mt_X9_isLater, mt_X9_later, mt_X9_falls, mt_X9_empty, mt_X9_isLate, mt_X9_layMore, mt_X9_late, mt_X9_gains, mt_X9_run, mt_X9_lowestStanding, mt_X9_roundOf, mt_X9_figure, mt_X9_round, mt_X9_counted, mt_X9_fewest, mt_X9_till, mt_X9_since, mt_X9_falseOnes, mt_X9_stolen, mt_X9_split, mt_X9_draw, mt_X9_goNight, mt_X9_suffer, mt_X9_isNight, mt_X9_night, mt_X9_nightHas, mt_X9_copyCounts, mt_X9_keep, mt_X9_back, mt_X9_count, mt_J6_bitCount_0f7a4]
def shp : List (Nat ⊕ Nat × Nat) := [.inl 8, .inl 7, .inr (1, 400), .inl 3, .inr (0, 6), .inl 2, .inr (0, 8), .inr (0, 8), .inr (0, 8), .inr (0, 16), .inr (0, 16), .inr (0, 8), .inr (0, 8), .inr (0, 8), .inr (0, 8), .inr (0, 8), .inr (0, 8), .inr (0, 8), .inl 2, .inr (0, 8), .inr (0, 8), .inr (0, 8), .inr (0, 16), .inr (0, 16), .inr (0, 8), .inr (0, 8), .inr (0, 8), .inr (0, 8), .inr (0, 8), .inr (0, 8), .inr (0, 8), .inl 5, .inr (0, 16), .inl 5, .inr (0, 16), .inl 0, .inr (0, 8), .inr (0, 8), .inr (0, 8), .inr (0, 8), .inl 6, .inr (0, 12), .inr (0, 12), .inr (0, 12), .inl 4, .inr (0, 3), .inr (0, 3), .inl 1, .inr (2, 2), .inl 5, .inr (0, 16), .inl 5, .inr (0, 16), .inr (0, 2), .inr (0, 6), .inl 9, .inr (0, 400), .inr (0, 2), .inr (0, 16), .inr (0, 16), .inr (0, 16), .inr (0, 16), .inr (0, 16), .inr (0, 16), .inr (0, 16), .inr (0, 2), .inr (0, 16), .inr (0, 16), .inr (0, 2), .inr (0, 16), .inr (0, 16), .inr (0, 16), .inr (0, 2), .inr (0, 2), .inr (0, 64), .inr (0, 32), .inr (0, 4), .inr (0, 3), .inr (0, 108), .inr (0, 24), .inr (0, 6), .inr (0, 16), .inr (0, 6)]
def fldR : List (List Bool) := [[false, true, true, true, true], [false, false, false], [false, true, true, true, true, true, true, true, false, true, true, false, true, true, true, false, false], [true, false], [true, true, false], [true, false, false], [false, true, true, true], [true, false], [true, true, true, true, true, true, true, true, true, true, true, true, false, true], [false, true, true, true, true, true, true, true, true, true, true, true, true, true, true, true, true, true, true, true, true, true, true, true, false, false, true, false, true, false, false, true, false, true, false, false]]
def finL : List (List Bool) := [[false, true, true, true, true], [false, false, false], [false, true, true, true, true, true, true, true, false, true, true, false, true, true, true, false, false], [true, false], [true, true, false], [true, false, false], [false, true, true, true], [true, false], [true, true, false, false, true, true, true, true, true, true, true, true, false, true], [false, true, true, true, true, true, true, true, true, true, true, true, true, true, true, true, true, true, true, true, true, true, true, true, false, false, true, false, true, false, false, true, false, true, false, false]]
def nW : List Cond := [.fieldLinkNest "SandBank$Night" 27 "SandBank$Plan" "glasses" "I" "SandBank", .fieldLinkNest "SandBank$Night" 44 "SandBank$Plan" "breaks" "I" "SandBank", .fieldLinkNest "SandBank$Night" 47 "SandBank$Shelf" "sand" "[I" "SandBank", .fieldLinkNest "SandBank$Night" 55 "SandBank$Plan" "mice" "I" "SandBank", .methodLinkNest "SandBank$Plan" 64 ⟨"SandBank", "within", "(III)Z"⟩ "SandBank", .methodLinkNest "SandBank$Plan" 68 ⟨"SandBank", "isHand", "(I)Z"⟩ "SandBank", .fieldLinkNest "SandBank$Reader" 24 "SandBank$Text" "length" "I" "SandBank", .methodLinkNest "SandBank$Reader" 48 ⟨"SandBank", "within", "(III)Z"⟩ "SandBank", .fieldLinkNest "SandBank$Rounds" 20 "SandBank$Plan" "glasses" "I" "SandBank", .fieldLinkNest "SandBank$Rounds" 48 "SandBank$Plan" "turnedWith" "[I" "SandBank", .fieldLinkNest "SandBank$Shelf" 22 "SandBank$Plan" "told" "[I" "SandBank", .fieldLinkNest "SandBank$Shelf" 45 "SandBank$Plan" "clerks" "I" "SandBank", .fieldLinkNest "SandBank$Shelf" 48 "SandBank$Plan" "clerkFirst" "[I" "SandBank", .fieldLinkNest "SandBank$Shelf" 51 "SandBank$Plan" "clerkEvery" "[I" "SandBank", .fieldLinkNest "SandBank$Shelf" 54 "SandBank$Plan" "turnedWith" "[I" "SandBank", .fieldLinkNest "SandBank$Shelf" 57 "SandBank$Plan" "clerkGlass" "[I" "SandBank", .fieldLinkNest "SandBank$Shelf" 68 "SandBank$Plan" "glasses" "I" "SandBank", .fieldLinkNest "SandBank$Shelf" 77 "SandBank$Plan" "stickyFlow" "[I" "SandBank", .fieldLinkNest "SandBank$Shelf" 80 "SandBank$Plan" "flow" "[I" "SandBank", .fieldLinkNest "SandBank$Shelf" 87 "SandBank$Plan" "kind" "[I" "SandBank", .fieldLinkNest "SandBank$Shelf" 90 "SandBank$Plan" "owner" "[I" "SandBank", .fieldLinkNest "SandBank$Shelf" 93 "SandBank$Plan" "partner" "[I" "SandBank", .methodLinkNest "SandBank$Text" 19 ⟨"SandBank", "within", "(III)Z"⟩ "SandBank", .methodLinkNest "SandBank" 9 ⟨"SandBank$Text", "<init>", "()V"⟩ "SandBank", .methodLinkNest "SandBank" 18 ⟨"SandBank$Reader", "<init>", "()V"⟩ "SandBank", .methodLinkNest "SandBank" 25 ⟨"SandBank$Plan", "<init>", "()V"⟩ "SandBank", .methodLinkNest "SandBank" 35 ⟨"SandBank$Shelf", "<init>", "()V"⟩ "SandBank", .methodLinkNest "SandBank" 45 ⟨"SandBank$Changes", "<init>", "()V"⟩ "SandBank", .methodLinkNest "SandBank" 52 ⟨"SandBank$Tally", "<init>", "()V"⟩ "SandBank", .methodLinkNest "SandBank" 59 ⟨"SandBank$Rounds", "<init>", "()V"⟩ "SandBank", .methodLinkNest "SandBank" 66 ⟨"SandBank$Night", "<init>", "()V"⟩ "SandBank", .fieldLinkNest "SandBank" 101 "SandBank$Text" "length" "I" "SandBank", .fieldLinkNest "SandBank" 112 "SandBank$Plan" "glasses" "I" "SandBank", .fieldLinkNest "SandBank" 115 "SandBank$Changes" "size" "I" "SandBank", .fieldLinkNest "SandBank" 118 "SandBank$Tally" "size" "I" "SandBank", .fieldLinkNest "SandBank" 123 "SandBank$Shelf" "sand" "[I" "SandBank", .fieldLinkNest "SandBank" 130 "SandBank$Plan" "kind" "[I" "SandBank", .fieldLinkNest "SandBank" 133 "SandBank$Plan" "neck" "[I" "SandBank", .fieldLinkNest "SandBank" 136 "SandBank$Plan" "partner" "[I" "SandBank", .fieldLinkNest "SandBank" 146 "SandBank$Shelf" "minute" "I" "SandBank", .fieldLinkNest "SandBank" 154 "SandBank$Plan" "turnedWith" "[I" "SandBank", .fieldLinkNest "SandBank" 219 "SandBank$Rounds" "fewest" "I" "SandBank", .fieldLinkNest "SandBank" 222 "SandBank$Rounds" "best" "[I" "SandBank", .fieldLinkNest "SandBank" 228 "SandBank$Plan" "told" "[I" "SandBank", .fieldLinkNest "SandBank" 255 "SandBank$Night" "lost" "I" "SandBank", .fieldLinkNest "SandBank" 258 "SandBank$Night" "broken" "I" "SandBank", .fieldLinkNest "SandBank" 261 "SandBank$Plan" "clerks" "I" "SandBank", .fieldLinkNest "SandBank" 264 "SandBank$Plan" "ties" "I" "SandBank"]
/-- places of the words in lw_tbl that an entry of the pool needs -/
def ppos0 : List (Nat × List Nat) := [(1, [1159, 1020, 1021]), (7, [1160]), (13, [1162]), (17, [1163]), (20, [1164]), (23, [1165]), (26, [2190, 2192, 6, 1006, 2193]), (29, [2220, 2168, 2169, 1005, 2170]), (35, [2221, 2205, 2206, 1005, 2207])]
def ppos1 : List (Nat × List Nat) := [(3, [1220, 1020, 1021]), (9, [1221]), (15, [1223]), (18, [1225]), (21, [3122, 2164, 2165, 1005, 2166]), (27, [1060]), (32, [3123, 3124, 1009, 3125]), (36, [3131, 3133, 15, 1009, 3134]), (40, [3141, 2172, 2173, 1005, 2174]), (44, [1097]), (47, [1142]), (51, [3135, 3137, 16, 1009, 3138]), (55, [1099]), (58, [3139, 3011, 3012, 1005, 3013]), (62, [3140, 2179, 1012, 2180]), (68, [3126]), (70, [3127]), (72, [3128]), (74, [3129]), (76, [3130])]
def ppos2 : List (Nat × List Nat) := [(3, [1057, 1020, 1021]), (9, [1058]), (15, [1063]), (19, [1066]), (22, [1068]), (25, [1071]), (28, [1073]), (31, [1076]), (34, [1078]), (37, [1080]), (40, [1082]), (43, [1083]), (46, [1087]), (49, [1090]), (52, [1092]), (55, [1094]), (58, [1096]), (61, [1098]), (64, [1238, 1239, 1001, 2000]), (68, [2001, 2002, 1001, 2003]), (72, [2113, 2115, 4, 1004, 2116]), (75, [2009, 2011, 0, 1004, 2012])]
def ppos3 : List (Nat × List Nat) := [(3, [1043, 1020, 1021]), (11, [1044]), (15, [1045]), (19, [2083, 2084, 2085, 1004, 2086]), (24, [1031]), (29, [2087, 2089, 1, 1003, 2090]), (33, [2091, 2092, 2093, 1002, 2094]), (37, [2096, 2097, 1003, 2098]), (40, [2099, 2101, 2, 1003, 2102]), (44, [2104, 2106, 3, 1003, 2107]), (48, [2103, 1239, 1001, 2000]), (52, [2108, 1235, 1236, 1004, 1237]), (56, [2109, 2110, 2111, 1004, 2112]), (60, [2117, 2118, 2119, 1004, 2120]), (63, [2121, 2122, 2123, 1004, 2124]), (66, [2125, 2126, 2127, 1004, 2128])]
def ppos4 : List (Nat × List Nat) := [(1, [1202, 1020, 1021]), (9, [1203]), (13, [1204]), (16, [1206]), (20, [1059]), (27, [3050]), (28, [3051, 2231, 2232, 1005, 2233]), (34, [3052, 3054, 10, 1008, 3055]), (38, [3059, 2019, 2018, 1010]), (44, [3060, 3062, 11, 1008, 3063]), (48, [1084]), (51, [3056, 2168, 2169, 1005, 2170]), (55, [3057, 3007, 3008, 1005, 3009]), (59, [3058, 2172, 2173, 1005, 2174]), (63, [3064, 2179, 1012, 2180])]
def ppos5 : List (Nat × List Nat) := [(3, [1140, 1020, 1021]), (9, [1141]), (15, [1144]), (19, [1145]), (22, [1074]), (27, [2017, 2019, 2018, 1010]), (33, [3014, 2142, 2143, 1005, 2144]), (37, [2163, 2164, 2165, 1005, 2166]), (41, [2171, 2172, 2173, 1005, 2174]), (45, [1088]), (48, [1095]), (51, [1093]), (54, [1086]), (57, [1091]), (60, [2167, 2168, 2169, 1005, 2170]), (64, [2175, 2176, 1005, 2177]), (68, [1062]), (71, [2178, 2179, 1012, 2180]), (77, [1079]), (80, [1077]), (83, [3010, 3011, 3012, 1005, 3013]), (86, [3041]), (87, [1065]), (90, [1072]), (93, [1070])]
def ppos6 : List (Nat × List Nat) := [(3, [1182, 1020, 1021]), (9, [1183]), (15, [1185]), (19, [1186]), (22, [1187]), (25, [3081, 2239, 1012, 3000]), (31, [3090, 3083, 3084, 1007, 3085]), (34, [3095, 3097, 12, 1007, 3098])]
def ppos7 : List (Nat × List Nat) := [(3, [1027, 1020, 1021]), (9, [1028]), (15, [1029]), (19, [2095, 1239, 1001, 2000])]
def ppos8 : List (Nat × List Nat) := [(1, [1019, 1020, 1021]), (7, [1022, 1023, 1002]), (9, [1024, 1025, 1002, 1026]), (10, [2020]), (16, [1038, 1039, 1003]), (18, [1040, 1041, 1003, 1042]), (19, [2021]), (23, [1052, 1053, 1004]), (25, [1054, 1055, 1004, 1056]), (26, [2022]), (30, [2023]), (33, [1135, 1136, 1005]), (35, [1137, 1138, 1005, 1139]), (36, [2024]), (40, [2025]), (43, [1154, 1155, 1006]), (45, [1156, 1157, 1006, 1158]), (46, [2026]), (50, [1177, 1178, 1007]), (52, [1179, 1180, 1007, 1181]), (53, [2027]), (57, [1197, 1198, 1008]), (59, [1199, 1200, 1008, 1201]), (60, [2028]), (64, [1215, 1216, 1009]), (66, [1217, 1218, 1009, 1219]), (67, [2029]), (71, [2030]), (75, [2031]), (79, [2032]), (83, [2033]), (86, [1234, 1235, 1236, 1004, 1237]), (90, [2005, 2006, 2007, 1004, 2008]), (93, [2013, 2014, 2015, 1005, 2016]), (97, [2004, 1239, 1001, 2000]), (101, [1030]), (104, [2067, 2068, 2069, 1002, 2070]), (108, [2079, 2080, 2081, 1003, 2082]), (112, [1061]), (115, [1161]), (118, [1184]), (119, [2137, 2139, 5, 1001, 2140]), (123, [1143]), (126, [2141, 2142, 2143, 1005, 2144]), (130, [1064]), (133, [1067]), (136, [1069]), (139, [2149, 2002, 1001, 2003]), (142, [2150, 2151, 2152, 1005, 2153]), (146, [1146]), (149, [2158]), (150, [2159, 2160, 2161, 1005, 2162]), (154, [1085]), (157, [2185, 2168, 2169, 1005, 2170]), (161, [2186, 2187, 2188, 1006, 2189]), (164, [2194, 2195, 1013, 2196]), (169, [2204, 2205, 2206, 1005, 2207]), (173, [2208, 2209, 2210, 1006, 2211]), (176, [2216, 2217, 2218, 1006, 2219]), (180, [2226, 2228, 7, 1001, 2229]), (184, [2230, 2231, 2232, 1005, 2233]), (187, [2238, 2239, 1012, 3000]), (193, [3005, 2164, 2165, 1005, 2166]), (197, [3006, 3007, 3008, 1005, 3009]), (201, [3015, 2172, 2173, 1005, 2174]), (204, [3020, 3022, 8, 1001, 3023]), (207, [3024]), (208, [3029, 3031, 9, 1001, 3032]), (212, [3037, 3038, 3039, 1005, 3040]), (215, [3046, 3047, 3048, 1008, 3049]), (219, [1207]), (222, [1205]), (225, [3069, 3070, 3071, 1007, 3072]), (228, [1075]), (231, [3077, 3078, 3079, 1007, 3080]), (234, [3082, 3083, 3084, 1007, 3085]), (237, [3086, 3087, 3088, 1007, 3089]), (240, [3091, 3092, 3093, 1007, 3094]), (243, [3103, 3105, 13, 1001, 3106]), (247, [3111, 3112, 1001, 3113]), (251, [3114, 3116, 14, 1001, 3117]), (255, [1222]), (258, [1224]), (261, [1089]), (264, [1081]), (267, [3118, 3119, 3120, 1009, 3121])]
def ppos9 : List (Nat × List Nat) := [(1, [3163, 1020, 1021]), (7, [3173]), (13, [3174]), (16, [3175]), (19, [3176]), (22, [3177]), (25, [3178]), (28, [3179]), (31, [3180]), (34, [3181]), (37, [3182]), (40, [3183]), (43, [3184]), (46, [3185]), (49, [3186]), (52, [3187]), (55, [3188]), (58, [3189]), (61, [3190]), (64, [3191]), (67, [3192]), (70, [3193]), (73, [3194]), (76, [3195]), (79, [3198]), (82, [3200]), (85, [3201]), (89, [3203]), (92, [3205]), (95, [3164, 3166, 17, 1011, 3167]), (99, [3168, 3170, 18, 1011, 3171]), (102, [4045]), (104, [4046, 4047, 1011, 4048]), (108, [3172]), (111, [4049]), (113, [3199]), (116, [4066, 4068, 21, 1011, 4069]), (120, [4078]), (122, [4079]), (124, [4080]), (126, [4074, 4076, 23, 1011, 4077]), (130, [4081]), (132, [4090]), (134, [4070, 4072, 22, 1011, 4073]), (138, [4082, 4084, 24, 1011, 4085]), (141, [4086, 4088, 25, 1011, 4089]), (144, [4062, 4064, 20, 1011, 4065]), (147, [4058, 4060, 19, 1011, 4061]), (151, [3196]), (154, [3197]), (157, [4103]), (159, [4099, 4101, 26, 1011, 4102]), (162, [4108, 4109, 1011, 4110]), (165, [4111, 4113, 27, 1011, 4114]), (169, [4133, 4134, 1011, 4135]), (173, [4129, 4131, 30, 1011, 4132]), (176, [3202]), (179, [4125, 4127, 29, 1011, 4128]), (182, [4140, 4142, 32, 1011, 4143]), (185, [4144, 4146, 33, 1011, 4147]), (188, [4119]), (190, [4120]), (191, [4121, 4123, 28, 1011, 4124]), (194, [4136, 4138, 31, 1011, 4139]), (197, [4152, 4154, 34, 1011, 4155]), (201, [4160]), (203, [4177, 4179, 36, 1011, 4180]), (207, [3204]), (210, [4181, 4183, 37, 1011, 4184]), (213, [4172]), (215, [4169, 4170, 1011, 4171]), (218, [4173, 4175, 35, 1011, 4176]), (221, [4197, 4199, 38, 1011, 4200]), (225, [4201, 4203, 39, 1011, 4204]), (228, [4205]), (229, [4214]), (231, [4215, 4217, 40, 1011, 4218]), (234, [4229, 4231, 42, 1011, 4232]), (238, [4223]), (240, [4224]), (242, [4225, 4227, 41, 1011, 4228]), (245, [5005, 5007, 44, 1011, 5008]), (248, [5001, 5003, 43, 1011, 5004]), (251, [5009, 5011, 45, 1011, 5012]), (254, [5013, 5015, 46, 1011, 5016]), (257, [5036]), (259, [5037]), (261, [5038]), (263, [5039]), (265, [5040]), (267, [3206]), (270, [3207]), (273, [5033, 5034, 1011, 5035]), (276, [5041, 5043, 48, 1011, 5044]), (279, [5028]), (281, [5025, 5026, 1011, 5027]), (284, [5029, 5031, 47, 1011, 5032]), (287, [5053, 5055, 49, 1011, 5056])]
def ppos10 : List (Nat × List Nat) := [(7, [1014, 1015, 1001]), (9, [1016, 1017, 1001, 1018]), (10, [3158, 3159, 1011]), (12, [3160, 3161, 1011, 3162]), (13, [5065]), (15, [2063, 2064, 2065, 1001, 2066]), (19, [4041, 4042, 4043, 1011, 4044]), (20, [2071, 2072, 2073, 1001, 2074]), (24, [4050, 4051, 4052, 1011, 4053]), (25, [2075, 2076, 2077, 1001, 2078]), (28, [4054, 4055, 4056, 1011, 4057]), (29, [2129, 2130, 2131, 1001, 2132]), (32, [4091, 4092, 4093, 1011, 4094]), (33, [2133, 2134, 2135, 1001, 2136]), (37, [4095, 4096, 4097, 1011, 4098]), (38, [2145, 2146, 2147, 1001, 2148]), (42, [4104, 4105, 4106, 1011, 4107]), (43, [2154, 2155, 2156, 1001, 2157]), (46, [4115, 4116, 4117, 1011, 4118]), (47, [2181, 2182, 2183, 1001, 2184]), (50, [4148, 4149, 4150, 1011, 4151]), (51, [2200, 2201, 2202, 1001, 2203]), (55, [4156, 4157, 4158, 1011, 4159]), (56, [2212, 2213, 2214, 1001, 2215]), (59, [4161, 4162, 4163, 1011, 4164]), (60, [2222, 2223, 2224, 1001, 2225]), (63, [4165, 4166, 4167, 1011, 4168]), (64, [2234, 2235, 2236, 1001, 2237]), (68, [4185, 4186, 4187, 1011, 4188]), (69, [3001, 3002, 3003, 1001, 3004]), (72, [4189, 4190, 4191, 1011, 4192]), (73, [3016, 3017, 3018, 1001, 3019]), (77, [4193, 4194, 4195, 1011, 4196]), (78, [3025, 3026, 3027, 1001, 3028]), (81, [4206, 4207, 4208, 1011, 4209]), (82, [3033, 3034, 3035, 1001, 3036]), (85, [4210, 4211, 4212, 1011, 4213]), (86, [3042, 3043, 3044, 1001, 3045]), (89, [4219, 4220, 4221, 1011, 4222]), (90, [3065, 3066, 3067, 1001, 3068]), (93, [4233, 4234, 4235, 1011, 4236]), (94, [3073, 3074, 3075, 1001, 3076]), (97, [4237, 4238, 4239, 1011, 5000]), (98, [3099, 3100, 3101, 1001, 3102]), (101, [5017, 5018, 5019, 1011, 5020]), (102, [3107, 3108, 3109, 1001, 3110]), (105, [5021, 5022, 5023, 1011, 5024]), (106, [3142, 3143, 3144, 1001, 3145]), (109, [5045, 5046, 5047, 1011, 5048]), (110, [3146, 3147, 3148, 1001, 3149]), (113, [5049, 5050, 5051, 1011, 5052]), (114, [3150, 3151, 3152, 1001, 3153]), (117, [5057, 5058, 5059, 1011, 5060]), (118, [3154, 3155, 3156, 1001, 3157]), (121, [5061, 5062, 5063, 1011, 5064])]
def ppos11 : List (Nat × List Nat) := [(265, [2197]), (266, [2198]), (267, [2199])]
end
section
/-! Words that the tables are read with. -/
abbrev LV := List (Nat × Value)
/-- how many cells there are; what is an int in them; what is a reference in them -/
abbrev Hp := Nat × (Nat → Nat → Int32) × (Nat → Nat → Option Nat)
def lkp {α : Type} : List (Nat × α) → Nat → Option α
  | [], _ => none
  | e :: r, i => bif Nat.beq e.1 i then some e.2 else lkp r i
def up2 {α : Type} (f : Nat → Nat → α) (i j : Nat) (v : α) : Nat → Nat → α := fun a => if a = i then (fun b => if b = j then v else f a b) else f a
def lvPut (lv : LV) (i : Nat) (v : Value) : LV := (i, v) :: lv.filter (fun q => !(q.1 == i) && !(q.1 + 1 == i && q.2.category == 2))
def lvPut2 (lv : LV) (i : Nat) (v : Value) : LV := (i, v) :: lv.filter (fun q => !(q.1 == i) && (!(q.1 == i + 1) && !(q.1 + 1 == i && q.2.category == 2)))
def isR (ci k : Nat) : Bool := match fldR[ci]? with
  | some l => (match l[k]? with
    | some b => b
    | none => false)
  | none => false
def finF (ci k : Nat) : Bool := match finL[ci]? with
  | some l => (match l[k]? with
    | some b => b
    | none => false)
  | none => false
def nF (ci : Nat) : Nat := match fldR[ci]? with
  | some l => l.length
  | none => 0
def lenOK (ins : Instr) (len : Nat) : Bool := match ins with
  | .bipush _ => Nat.beq len 2
  | .sipush _ => Nat.beq len 3
  | .ldc _ => Nat.beq len 2
  | .ldc_w _ => Nat.beq len 3
  | .ldc2_w _ => Nat.beq len 3
  | .iload _ => Nat.beq len 2
  | .lload _ => Nat.beq len 2
  | .aload _ => Nat.beq len 2
  | .istore _ => Nat.beq len 2
  | .lstore _ => Nat.beq len 2
  | .astore _ => Nat.beq len 2
  | .iinc _ _ => Nat.beq len 3
  | .goto _ => Nat.beq len 3
  | .if_icmp _ _ => Nat.beq len 3
  | .ifCond _ _ => Nat.beq len 3
  | .tableswitch _ _ _ _ => true
  | .lookupswitch _ _ => true
  | .getfield _ => Nat.beq len 3
  | .putfield _ => Nat.beq len 3
  | .new _ => Nat.beq len 3
  | .newarray _ => Nat.beq len 2
  | .anewarray _ => Nat.beq len 3
  | .invokevirtual _ => Nat.beq len 3
  | .invokespecial _ => Nat.beq len 3
  | .invokestatic _ => Nat.beq len 3
  | _ => Nat.beq len 1
end
section
/-! What the tables hold, decided by the kernel (written by wip/whole/gen4.py). -/
def gTbl : List Cond := lw_tbl.filter goodWord
def tblC (c : Nat) : List Cond := match c with
  | 0 => k2_sels lw_privs
  | 1 => tables_1_1
  | 2 => tables_1_2
  | 3 => tables_1_3
  | 4 => tables_1_4
  | 5 => tables_1_5
  | _ => []
theorem tblC_in {c : Nat} {w : Cond} (h : w ∈ tblC c) : w ∈ lw_tbl := by
  unfold lw_tbl tables_1
  match c, h with
  | 0, h => exact List.mem_append_left _ h
  | 1, h => exact List.mem_append_right _ (List.mem_append_left _ h)
  | 2, h => exact List.mem_append_right _ (List.mem_append_right _ (List.mem_append_left _ h))
  | 3, h => exact List.mem_append_right _ (List.mem_append_right _ (List.mem_append_right _ (List.mem_append_left _ h)))
  | 4, h => exact List.mem_append_right _ (List.mem_append_right _ (List.mem_append_right _ (List.mem_append_right _ (List.mem_append_left _ h))))
  | 5, h => exact List.mem_append_right _ (List.mem_append_right _ (List.mem_append_right _ (List.mem_append_right _ (List.mem_append_right _ h))))
  | n + 6, h => exact absurd h List.not_mem_nil
/-- the word at a place: 1000 times the table's number, and the place in it -/
def inT (i : Nat) (w : Cond) : Bool := decide ((tblC (i / 1000))[i % 1000]? = some w) && goodWord w
theorem inT_mem {i : Nat} {w : Cond} (h : inT i w = true) : w ∈ gTbl := by
  simp only [inT, Bool.and_eq_true, decide_eq_true_eq] at h
  exact List.mem_filter.mpr ⟨tblC_in (List.mem_of_getElem? h.1), h.2⟩
def pFld (ci k : Nat) (f : String → String → String → Bool) : Bool := match vwCl[ci]? with
  | some (_, T, N) => Nat.blt k N && f (T k).1 (T k).2.1 (T k).2.2.1
  | none => false
def pMe (k b : Nat) (f : ME → Bool) : Bool := match MT[k]? with
  | some me => decide (me.2.1.cls ≠ "java/lang/invoke/MethodHandle") && decide (me.2.1.cls ≠ "java/lang/invoke/VarHandle") && decide ((parseMethodDescriptor me.2.1.desc).map (fun d => d.parameters.length) = some b) && f me
  | none => false
def pCode (i : Nat) (me : ME) : Bool := inT i (.code me.2.1 me.2.2.1 me.2.2.2.1 me.2.2.2.2.1)
def pOKb (own ix : Nat) (e : PE) (ps : List Nat) : Bool := match e.1 with
  | 0 => (match ps with
    | [a] => pFld e.2.1 e.2.2.1 (fun C n d => inT a (.fieldLink (ownN own) ix C n d))
    | _ => false)
  | 1 => pFld e.2.1 e.2.2.1 (fun C n d => decide (Cond.fieldLinkNest (ownN own) ix C n d "SandBank" ∈ nW))
  | 2 => (match ps with
    | [a, b, c, d, g] => pMe e.2.1 e.2.2.1 (fun me => inT a (.methodLink (ownN own) ix me.2.1) && inT b (.instanceMethod me.2.1) && inT c (.selects me.2.1.cls me.2.1 me.2.1) && inT d (.initialized me.2.1.cls) && pCode g me)
    | _ => false)
  | 3 => (match ps with
    | [a, b, d, g] => pMe e.2.1 e.2.2.1 (fun me => inT a (.methodLink (ownN own) ix me.2.1) && inT b (.static me.2.1) && inT d (.initialized me.2.1.cls) && pCode g me)
    | _ => false)
  | 4 => (match ps with
    | [a, b, d, g] => pMe e.2.1 e.2.2.1 (fun me => inT a (.methodLink (ownN own) ix me.2.1) && inT b (.instanceMethod me.2.1) && inT d (.initialized me.2.1.cls) && pCode g me && decide (me.2.1.name = "<init>") && decide (me.2.2.2.2.1 = none))
    | _ => false)
  | 5 => (match ps with
    | [_, b, d, g] => pMe e.2.1 e.2.2.1 (fun me => decide (Cond.methodLinkNest (ownN own) ix me.2.1 "SandBank" ∈ nW) && inT b (.instanceMethod me.2.1) && inT d (.initialized me.2.1.cls) && pCode g me && decide (me.2.1.name = "<init>") && decide (me.2.2.2.2.1 = none))
    | _ => false)
  | 6 => (match ps with
    | [_, b, d, g] => pMe e.2.1 e.2.2.1 (fun me => decide (Cond.methodLinkNest (ownN own) ix me.2.1 "SandBank" ∈ nW) && inT b (.static me.2.1) && inT d (.initialized me.2.1.cls) && pCode g me)
    | _ => false)
  | 7 => (match ps with
    | [a, b, c] => inT a (.methodLink (ownN own) ix Lib.objectInit) && inT b (.instanceMethod Lib.objectInit) && inT c (.code Lib.objectInit ⟨#[0xb1]⟩ 1 none)
    | _ => false)
  | 8 => (match ps with
    | [a, b, c, d] => inT a (.methodLink (ownN own) ix arraycopyName) && inT b (.native arraycopyName) && inT c (.static arraycopyName) && inT d (.initialized "java/lang/System")
    | _ => false)
  | 9 => (match ps with
    | [a] => inT a (.constant (ownN own) ix (Int32.ofInt e.2.2.2))
    | _ => false)
  | 10 => (match ps with
    | [a] => inT a (.constantLong (ownN own) ix (Int64.ofInt e.2.2.2))
    | _ => false)
  | 13 => (match ps with
    | [a, b, c, d] => inT a (.methodLink (ownN own) ix Lib.Math.max.name) && inT b (.static Lib.Math.max.name) && inT c (.initialized "java/lang/Math") && inT d (.code Lib.Math.max.name Lib.Math.max.code 2 (some .int))
    | _ => false)
  | 14 => (match ps with
    | [a, b, c, d] => inT a (.methodLink (ownN own) ix Lib.Math.min.name) && inT b (.static Lib.Math.min.name) && inT c (.initialized "java/lang/Math") && inT d (.code Lib.Math.min.name Lib.Math.min.code 2 (some .int))
    | _ => false)
  | 11 => (match vwCl[e.2.1]? with
    | some (C, _, N) => (match ps with
      | [a, b, c] => inT a (.classLink (ownN own) ix C) && inT b (.instantiable C N) && inT c (.initialized C)
      | _ => false)
    | none => false)
  | _ => false
def pAll (own : Nat) (ps : List (Nat × List Nat)) (l : List (Nat × PE)) : Bool := l.all fun x => match lkp ps x.1 with
  | some p => pOKb own x.1 x.2 p
  | none => false
theorem all_td {α : Type} {f : α → Bool} {l : List α} (n : Nat) (h1 : (l.take n).all f = true) (h2 : (l.drop n).all f = true) : l.all f = true := by
  rw [← List.take_append_drop n l, List.all_append, h1, h2]
  rfl

theorem pAll_0_0 : pAll 0 ppos0 ((pool0.drop 0).take 20) = true := by decide +kernel
theorem pAll_0 : pAll 0 ppos0 (poolOf 0) = true := by
  show (pool0).all _ = true
  rw [show pool0 = pool0.drop 0 from rfl]
  refine all_td 20 pAll_0_0 ?_
  rw [List.drop_drop]
  rfl
theorem pAll_1_0 : pAll 1 ppos1 ((pool1.drop 0).take 20) = true := by decide +kernel
theorem pAll_1 : pAll 1 ppos1 (poolOf 1) = true := by
  show (pool1).all _ = true
  rw [show pool1 = pool1.drop 0 from rfl]
  refine all_td 20 pAll_1_0 ?_
  rw [List.drop_drop]
  rfl
theorem pAll_2_0 : pAll 2 ppos2 ((pool2.drop 0).take 20) = true := by decide +kernel
theorem pAll_2_20 : pAll 2 ppos2 ((pool2.drop 20).take 20) = true := by decide +kernel
theorem pAll_2 : pAll 2 ppos2 (poolOf 2) = true := by
  show (pool2).all _ = true
  rw [show pool2 = pool2.drop 0 from rfl]
  refine all_td 20 pAll_2_0 ?_
  rw [List.drop_drop]
  refine all_td 20 pAll_2_20 ?_
  rw [List.drop_drop]
  rfl
theorem pAll_3_0 : pAll 3 ppos3 ((pool3.drop 0).take 20) = true := by decide +kernel
theorem pAll_3 : pAll 3 ppos3 (poolOf 3) = true := by
  show (pool3).all _ = true
  rw [show pool3 = pool3.drop 0 from rfl]
  refine all_td 20 pAll_3_0 ?_
  rw [List.drop_drop]
  rfl
theorem pAll_4_0 : pAll 4 ppos4 ((pool4.drop 0).take 20) = true := by decide +kernel
theorem pAll_4 : pAll 4 ppos4 (poolOf 4) = true := by
  show (pool4).all _ = true
  rw [show pool4 = pool4.drop 0 from rfl]
  refine all_td 20 pAll_4_0 ?_
  rw [List.drop_drop]
  rfl
theorem pAll_5_0 : pAll 5 ppos5 ((pool5.drop 0).take 20) = true := by decide +kernel
theorem pAll_5_20 : pAll 5 ppos5 ((pool5.drop 20).take 20) = true := by decide +kernel
theorem pAll_5 : pAll 5 ppos5 (poolOf 5) = true := by
  show (pool5).all _ = true
  rw [show pool5 = pool5.drop 0 from rfl]
  refine all_td 20 pAll_5_0 ?_
  rw [List.drop_drop]
  refine all_td 20 pAll_5_20 ?_
  rw [List.drop_drop]
  rfl
theorem pAll_6_0 : pAll 6 ppos6 ((pool6.drop 0).take 20) = true := by decide +kernel
theorem pAll_6 : pAll 6 ppos6 (poolOf 6) = true := by
  show (pool6).all _ = true
  rw [show pool6 = pool6.drop 0 from rfl]
  refine all_td 20 pAll_6_0 ?_
  rw [List.drop_drop]
  rfl
theorem pAll_7_0 : pAll 7 ppos7 ((pool7.drop 0).take 20) = true := by decide +kernel
theorem pAll_7 : pAll 7 ppos7 (poolOf 7) = true := by
  show (pool7).all _ = true
  rw [show pool7 = pool7.drop 0 from rfl]
  refine all_td 20 pAll_7_0 ?_
  rw [List.drop_drop]
  rfl
theorem pAll_8_0 : pAll 8 ppos8 ((pool8.drop 0).take 20) = true := by decide +kernel
theorem pAll_8_20 : pAll 8 ppos8 ((pool8.drop 20).take 20) = true := by decide +kernel
theorem pAll_8_40 : pAll 8 ppos8 ((pool8.drop 40).take 20) = true := by decide +kernel
theorem pAll_8_60 : pAll 8 ppos8 ((pool8.drop 60).take 20) = true := by decide +kernel
theorem pAll_8_80 : pAll 8 ppos8 ((pool8.drop 80).take 20) = true := by decide +kernel
theorem pAll_8 : pAll 8 ppos8 (poolOf 8) = true := by
  show (pool8).all _ = true
  rw [show pool8 = pool8.drop 0 from rfl]
  refine all_td 20 pAll_8_0 ?_
  rw [List.drop_drop]
  refine all_td 20 pAll_8_20 ?_
  rw [List.drop_drop]
  refine all_td 20 pAll_8_40 ?_
  rw [List.drop_drop]
  refine all_td 20 pAll_8_60 ?_
  rw [List.drop_drop]
  refine all_td 20 pAll_8_80 ?_
  rw [List.drop_drop]
  rfl
theorem pAll_9_0 : pAll 9 ppos9 ((pool9.drop 0).take 20) = true := by decide +kernel
theorem pAll_9_20 : pAll 9 ppos9 ((pool9.drop 20).take 20) = true := by decide +kernel
theorem pAll_9_40 : pAll 9 ppos9 ((pool9.drop 40).take 20) = true := by decide +kernel
theorem pAll_9_60 : pAll 9 ppos9 ((pool9.drop 60).take 20) = true := by decide +kernel
theorem pAll_9_80 : pAll 9 ppos9 ((pool9.drop 80).take 20) = true := by decide +kernel
theorem pAll_9 : pAll 9 ppos9 (poolOf 9) = true := by
  show (pool9).all _ = true
  rw [show pool9 = pool9.drop 0 from rfl]
  refine all_td 20 pAll_9_0 ?_
  rw [List.drop_drop]
  refine all_td 20 pAll_9_20 ?_
  rw [List.drop_drop]
  refine all_td 20 pAll_9_40 ?_
  rw [List.drop_drop]
  refine all_td 20 pAll_9_60 ?_
  rw [List.drop_drop]
  refine all_td 20 pAll_9_80 ?_
  rw [List.drop_drop]
  rfl
theorem pAll_10_0 : pAll 10 ppos10 ((pool10.drop 0).take 20) = true := by decide +kernel
theorem pAll_10_20 : pAll 10 ppos10 ((pool10.drop 20).take 20) = true := by decide +kernel
theorem pAll_10_40 : pAll 10 ppos10 ((pool10.drop 40).take 20) = true := by decide +kernel
theorem pAll_10 : pAll 10 ppos10 (poolOf 10) = true := by
  show (pool10).all _ = true
  rw [show pool10 = pool10.drop 0 from rfl]
  refine all_td 20 pAll_10_0 ?_
  rw [List.drop_drop]
  refine all_td 20 pAll_10_20 ?_
  rw [List.drop_drop]
  refine all_td 20 pAll_10_40 ?_
  rw [List.drop_drop]
  rfl
theorem pAll_11_0 : pAll 11 ppos11 ((pool11.drop 0).take 20) = true := by decide +kernel
theorem pAll_11 : pAll 11 ppos11 (poolOf 11) = true := by
  show (pool11).all _ = true
  rw [show pool11 = pool11.drop 0 from rfl]
  refine all_td 20 pAll_11_0 ?_
  rw [List.drop_drop]
  rfl
theorem lkp_mem {α : Type} {l : List (Nat × α)} {i : Nat} {v : α} (h : lkp l i = some v) : (i, v) ∈ l := by
  induction l with
  | nil => cases h
  | cons e r ih =>
    unfold lkp at h
    cases hb : Nat.beq e.1 i with
    | true =>
      rw [hb] at h
      have h1 : e.1 = i := Nat.eq_of_beq_eq_true hb
      have h2 : e.2 = v := Option.some.inj h
      rw [← h1, ← h2]
      exact List.mem_cons_self
    | false =>
      rw [hb] at h
      exact List.mem_cons_of_mem _ (ih h)
theorem pAll_use {own : Nat} {ps : List (Nat × List Nat)} (h : pAll own ps (poolOf own) = true) {ix : Nat} {e : PE} (hl : lkp (poolOf own) ix = some e) : ∃ p, pOKb own ix e p = true := by
  have h1 := List.all_eq_true.mp h _ (lkp_mem hl)
  dsimp only at h1
  split at h1
  · exact ⟨_, h1⟩
  · cases h1
theorem pool_ok {own ix : Nat} {e : PE} (hl : lkp (poolOf own) ix = some e) : ∃ p, pOKb own ix e p = true := by
  match own, hl with

  | 0, hl => exact pAll_use pAll_0 hl
  | 1, hl => exact pAll_use pAll_1 hl
  | 2, hl => exact pAll_use pAll_2 hl
  | 3, hl => exact pAll_use pAll_3 hl
  | 4, hl => exact pAll_use pAll_4 hl
  | 5, hl => exact pAll_use pAll_5 hl
  | 6, hl => exact pAll_use pAll_6 hl
  | 7, hl => exact pAll_use pAll_7 hl
  | 8, hl => exact pAll_use pAll_8 hl
  | 9, hl => exact pAll_use pAll_9 hl
  | 10, hl => exact pAll_use pAll_10 hl
  | 11, hl => exact pAll_use pAll_11 hl
  | n + 12, hl => cases hl
/-- of a method: its code is what decode gives, its class's name, the room of what it calls -/
def rOKb (me : ME) (e : Nat × Instr × Nat) : Bool := match e.2.1 with
  | .invokevirtual ix => rOK2 me ix
  | .invokespecial ix => rOK2 me ix
  | .invokestatic ix => rOK2 me ix
  | _ => true
  where rOK2 (me : ME) (ix : Nat) : Bool := match lkp (poolOf me.1) ix with
    | some (7, _) => Nat.ble 1 me.2.2.2.2.2.2.1 && Nat.ble 20 me.2.2.2.2.2.2.2
    | some (13, _) => Nat.ble 1 me.2.2.2.2.2.2.1 && Nat.ble 40 me.2.2.2.2.2.2.2
    | some (14, _) => Nat.ble 1 me.2.2.2.2.2.2.1 && Nat.ble 40 me.2.2.2.2.2.2.2
    | some (8, _) => Nat.ble 1 me.2.2.2.2.2.2.1 && Nat.ble 40 me.2.2.2.2.2.2.2
    | some (_, k, _) => (match MT[k]? with
      | some me' => Nat.ble (me'.2.2.2.2.2.2.1 + 1) me.2.2.2.2.2.2.1 && Nat.ble (8 + (me'.2.2.2.1 + 11) + me'.2.2.2.2.2.2.2) me.2.2.2.2.2.2.2
      | none => false)
    | none => false
def cOKb (me : ME) (l : CL) : Bool := l.all (fun e => decide (decode me.2.2.1 e.1 = .ok e.2) && rOKb me e && lenOK e.2.1 e.2.2)
def nOKb (me : ME) : Bool := decide (me.2.1.cls = ownN me.1) && plainName me.2.1.cls
def mOK (me : ME) : Prop := nOKb me = true ∧ cOKb me me.2.2.2.2.2.1 = true

theorem mk_X0_init : mOK mt_X0_init := ⟨by decide +kernel, by decide +kernel⟩
theorem mk_X0_noteTurn : mOK mt_X0_noteTurn := ⟨by decide +kernel, by decide +kernel⟩
theorem mk_X0_notePouring : mOK mt_X0_notePouring := ⟨by decide +kernel, by decide +kernel⟩
theorem mk_X0_makeRoom : mOK mt_X0_makeRoom := ⟨by decide +kernel, by decide +kernel⟩
theorem mk_X0_takeBack : mOK mt_X0_takeBack := ⟨by decide +kernel, by decide +kernel⟩
theorem mk_X1_init : mOK mt_X1_init := ⟨by decide +kernel, by decide +kernel⟩
theorem mk_X1_pass : mOK mt_X1_pass := ⟨by decide +kernel, by decide +kernel⟩
theorem mk_X1_befall_0 : cOKb mt_X1_befall ((kc_X1_befall.drop 0).take 60) = true := by decide +kernel
theorem mk_X1_befall_60 : cOKb mt_X1_befall ((kc_X1_befall.drop 60).take 60) = true := by decide +kernel
theorem mk_X1_befall : mOK mt_X1_befall := by
  refine ⟨by decide +kernel, ?_⟩
  show (kc_X1_befall).all _ = true
  rw [show kc_X1_befall = kc_X1_befall.drop 0 from rfl]
  refine all_td 60 mk_X1_befall_0 ?_
  rw [List.drop_drop]
  refine all_td 60 mk_X1_befall_60 ?_
  rw [List.drop_drop]
  decide +kernel
theorem mk_X1_lose : mOK mt_X1_lose := ⟨by decide +kernel, by decide +kernel⟩
theorem mk_X1_draw : mOK mt_X1_draw := ⟨by decide +kernel, by decide +kernel⟩
theorem mk_X2_init_0 : cOKb mt_X2_init ((kc_X2_init.drop 0).take 60) = true := by decide +kernel
theorem mk_X2_init_60 : cOKb mt_X2_init ((kc_X2_init.drop 60).take 60) = true := by decide +kernel
theorem mk_X2_init : mOK mt_X2_init := by
  refine ⟨by decide +kernel, ?_⟩
  show (kc_X2_init).all _ = true
  rw [show kc_X2_init = kc_X2_init.drop 0 from rfl]
  refine all_td 60 mk_X2_init_0 ?_
  rw [List.drop_drop]
  refine all_td 60 mk_X2_init_60 ?_
  rw [List.drop_drop]
  decide +kernel
theorem mk_X2_clear : mOK mt_X2_clear := ⟨by decide +kernel, by decide +kernel⟩
theorem mk_X2_isTold : mOK mt_X2_isTold := ⟨by decide +kernel, by decide +kernel⟩
theorem mk_X2_addGlass_0 : cOKb mt_X2_addGlass ((kc_X2_addGlass.drop 0).take 60) = true := by decide +kernel
theorem mk_X2_addGlass_60 : cOKb mt_X2_addGlass ((kc_X2_addGlass.drop 60).take 60) = true := by decide +kernel
theorem mk_X2_addGlass : mOK mt_X2_addGlass := by
  refine ⟨by decide +kernel, ?_⟩
  show (kc_X2_addGlass).all _ = true
  rw [show kc_X2_addGlass = kc_X2_addGlass.drop 0 from rfl]
  refine all_td 60 mk_X2_addGlass_0 ?_
  rw [List.drop_drop]
  refine all_td 60 mk_X2_addGlass_60 ?_
  rw [List.drop_drop]
  decide +kernel
theorem mk_X2_addTie : mOK mt_X2_addTie := ⟨by decide +kernel, by decide +kernel⟩
theorem mk_X2_addClerk : mOK mt_X2_addClerk := ⟨by decide +kernel, by decide +kernel⟩
theorem mk_X2_setPartner : mOK mt_X2_setPartner := ⟨by decide +kernel, by decide +kernel⟩
theorem mk_X2_setRisks : mOK mt_X2_setRisks := ⟨by decide +kernel, by decide +kernel⟩
theorem mk_X2_bindTies : mOK mt_X2_bindTies := ⟨by decide +kernel, by decide +kernel⟩
theorem mk_X2_tiedToSome : mOK mt_X2_tiedToSome := ⟨by decide +kernel, by decide +kernel⟩
theorem mk_X3_init : mOK mt_X3_init := ⟨by decide +kernel, by decide +kernel⟩
theorem mk_X3_readText : mOK mt_X3_readText := ⟨by decide +kernel, by decide +kernel⟩
theorem mk_X3_readItem_0 : cOKb mt_X3_readItem ((kc_X3_readItem.drop 0).take 60) = true := by decide +kernel
theorem mk_X3_readItem_60 : cOKb mt_X3_readItem ((kc_X3_readItem.drop 60).take 60) = true := by decide +kernel
theorem mk_X3_readItem : mOK mt_X3_readItem := by
  refine ⟨by decide +kernel, ?_⟩
  show (kc_X3_readItem).all _ = true
  rw [show kc_X3_readItem = kc_X3_readItem.drop 0 from rfl]
  refine all_td 60 mk_X3_readItem_0 ?_
  rw [List.drop_drop]
  refine all_td 60 mk_X3_readItem_60 ?_
  rw [List.drop_drop]
  decide +kernel
theorem mk_X3_numbersOf : mOK mt_X3_numbersOf := ⟨by decide +kernel, by decide +kernel⟩
theorem mk_X3_readNumber : mOK mt_X3_readNumber := ⟨by decide +kernel, by decide +kernel⟩
theorem mk_X3_addItem_0 : cOKb mt_X3_addItem ((kc_X3_addItem.drop 0).take 60) = true := by decide +kernel
theorem mk_X3_addItem_60 : cOKb mt_X3_addItem ((kc_X3_addItem.drop 60).take 60) = true := by decide +kernel
theorem mk_X3_addItem : mOK mt_X3_addItem := by
  refine ⟨by decide +kernel, ?_⟩
  show (kc_X3_addItem).all _ = true
  rw [show kc_X3_addItem = kc_X3_addItem.drop 0 from rfl]
  refine all_td 60 mk_X3_addItem_0 ?_
  rw [List.drop_drop]
  refine all_td 60 mk_X3_addItem_60 ?_
  rw [List.drop_drop]
  decide +kernel
theorem mk_X4_init : mOK mt_X4_init := ⟨by decide +kernel, by decide +kernel⟩
theorem mk_X4_search_0 : cOKb mt_X4_search ((kc_X4_search.drop 0).take 60) = true := by decide +kernel
theorem mk_X4_search_60 : cOKb mt_X4_search ((kc_X4_search.drop 60).take 60) = true := by decide +kernel
theorem mk_X4_search : mOK mt_X4_search := by
  refine ⟨by decide +kernel, ?_⟩
  show (kc_X4_search).all _ = true
  rw [show kc_X4_search = kc_X4_search.drop 0 from rfl]
  refine all_td 60 mk_X4_search_0 ?_
  rw [List.drop_drop]
  refine all_td 60 mk_X4_search_60 ?_
  rw [List.drop_drop]
  decide +kernel
theorem mk_X4_stoodBy : mOK mt_X4_stoodBy := ⟨by decide +kernel, by decide +kernel⟩
theorem mk_X4_stepRow : mOK mt_X4_stepRow := ⟨by decide +kernel, by decide +kernel⟩
theorem mk_X5_init : mOK mt_X5_init := ⟨by decide +kernel, by decide +kernel⟩
theorem mk_X5_fill : mOK mt_X5_fill := ⟨by decide +kernel, by decide +kernel⟩
theorem mk_X5_copyFrom : mOK mt_X5_copyFrom := ⟨by decide +kernel, by decide +kernel⟩
theorem mk_X5_upperSide : mOK mt_X5_upperSide := ⟨by decide +kernel, by decide +kernel⟩
theorem mk_X5_upperBulb : mOK mt_X5_upperBulb := ⟨by decide +kernel, by decide +kernel⟩
theorem mk_X5_flip : mOK mt_X5_flip := ⟨by decide +kernel, by decide +kernel⟩
theorem mk_X5_move : mOK mt_X5_move := ⟨by decide +kernel, by decide +kernel⟩
theorem mk_X5_goOn : mOK mt_X5_goOn := ⟨by decide +kernel, by decide +kernel⟩
theorem mk_X5_letClerksTurn : mOK mt_X5_letClerksTurn := ⟨by decide +kernel, by decide +kernel⟩
theorem mk_X5_letSandFall : mOK mt_X5_letSandFall := ⟨by decide +kernel, by decide +kernel⟩
theorem mk_X5_flowIn : mOK mt_X5_flowIn := ⟨by decide +kernel, by decide +kernel⟩
theorem mk_X5_standing : mOK mt_X5_standing := ⟨by decide +kernel, by decide +kernel⟩
theorem mk_X5_minutesLeft : mOK mt_X5_minutesLeft := ⟨by decide +kernel, by decide +kernel⟩
theorem mk_X5_grainsOf_0 : cOKb mt_X5_grainsOf ((kc_X5_grainsOf.drop 0).take 60) = true := by decide +kernel
theorem mk_X5_grainsOf_60 : cOKb mt_X5_grainsOf ((kc_X5_grainsOf.drop 60).take 60) = true := by decide +kernel
theorem mk_X5_grainsOf : mOK mt_X5_grainsOf := by
  refine ⟨by decide +kernel, ?_⟩
  show (kc_X5_grainsOf).all _ = true
  rw [show kc_X5_grainsOf = kc_X5_grainsOf.drop 0 from rfl]
  refine all_td 60 mk_X5_grainsOf_0 ?_
  rw [List.drop_drop]
  refine all_td 60 mk_X5_grainsOf_60 ?_
  rw [List.drop_drop]
  decide +kernel
theorem mk_X6_init : mOK mt_X6_init := ⟨by decide +kernel, by decide +kernel⟩
theorem mk_X6_note : mOK mt_X6_note := ⟨by decide +kernel, by decide +kernel⟩
theorem mk_X6_missing : mOK mt_X6_missing := ⟨by decide +kernel, by decide +kernel⟩
theorem mk_X6_till : mOK mt_X6_till := ⟨by decide +kernel, by decide +kernel⟩
theorem mk_X6_since : mOK mt_X6_since := ⟨by decide +kernel, by decide +kernel⟩
theorem mk_X6_falseOnes : mOK mt_X6_falseOnes := ⟨by decide +kernel, by decide +kernel⟩
theorem mk_X6_exceedsEarlier : mOK mt_X6_exceedsEarlier := ⟨by decide +kernel, by decide +kernel⟩
theorem mk_X7_init : mOK mt_X7_init := ⟨by decide +kernel, by decide +kernel⟩
theorem mk_X7_append : mOK mt_X7_append := ⟨by decide +kernel, by decide +kernel⟩
theorem mk_X7_at : mOK mt_X7_at := ⟨by decide +kernel, by decide +kernel⟩
theorem mk_X8_init_0 : cOKb mt_X8_init ((kc_X8_init.drop 0).take 60) = true := by decide +kernel
theorem mk_X8_init_60 : cOKb mt_X8_init ((kc_X8_init.drop 60).take 60) = true := by decide +kernel
theorem mk_X8_init : mOK mt_X8_init := by
  refine ⟨by decide +kernel, ?_⟩
  show (kc_X8_init).all _ = true
  rw [show kc_X8_init = kc_X8_init.drop 0 from rfl]
  refine all_td 60 mk_X8_init_0 ?_
  rw [List.drop_drop]
  refine all_td 60 mk_X8_init_60 ?_
  rw [List.drop_drop]
  decide +kernel
theorem mk_X8_write : mOK mt_X8_write := ⟨by decide +kernel, by decide +kernel⟩
theorem mk_X8_wipe : mOK mt_X8_wipe := ⟨by decide +kernel, by decide +kernel⟩
theorem mk_X8_fault : mOK mt_X8_fault := ⟨by decide +kernel, by decide +kernel⟩
theorem mk_X8_lay : mOK mt_X8_lay := ⟨by decide +kernel, by decide +kernel⟩
theorem mk_X8_glass : mOK mt_X8_glass := ⟨by decide +kernel, by decide +kernel⟩
theorem mk_X8_has : mOK mt_X8_has := ⟨by decide +kernel, by decide +kernel⟩
theorem mk_X8_minutes : mOK mt_X8_minutes := ⟨by decide +kernel, by decide +kernel⟩
theorem mk_X8_turn : mOK mt_X8_turn := ⟨by decide +kernel, by decide +kernel⟩
theorem mk_X8_pour_0 : cOKb mt_X8_pour ((kc_X8_pour.drop 0).take 60) = true := by decide +kernel
theorem mk_X8_pour_60 : cOKb mt_X8_pour ((kc_X8_pour.drop 60).take 60) = true := by decide +kernel
theorem mk_X8_pour : mOK mt_X8_pour := by
  refine ⟨by decide +kernel, ?_⟩
  show (kc_X8_pour).all _ = true
  rw [show kc_X8_pour = kc_X8_pour.drop 0 from rfl]
  refine all_td 60 mk_X8_pour_0 ?_
  rw [List.drop_drop]
  refine all_td 60 mk_X8_pour_60 ?_
  rw [List.drop_drop]
  decide +kernel
theorem mk_X8_undo : mOK mt_X8_undo := ⟨by decide +kernel, by decide +kernel⟩
theorem mk_X8_later : mOK mt_X8_later := ⟨by decide +kernel, by decide +kernel⟩
theorem mk_X8_falls_0 : cOKb mt_X8_falls ((kc_X8_falls.drop 0).take 60) = true := by decide +kernel
theorem mk_X8_falls_60 : cOKb mt_X8_falls ((kc_X8_falls.drop 60).take 60) = true := by decide +kernel
theorem mk_X8_falls : mOK mt_X8_falls := by
  refine ⟨by decide +kernel, ?_⟩
  show (kc_X8_falls).all _ = true
  rw [show kc_X8_falls = kc_X8_falls.drop 0 from rfl]
  refine all_td 60 mk_X8_falls_0 ?_
  rw [List.drop_drop]
  refine all_td 60 mk_X8_falls_60 ?_
  rw [List.drop_drop]
  decide +kernel
theorem mk_X8_empty : mOK mt_X8_empty := ⟨by decide +kernel, by decide +kernel⟩
theorem mk_X8_late : mOK mt_X8_late := ⟨by decide +kernel, by decide +kernel⟩
theorem mk_X8_gains_0 : cOKb mt_X8_gains ((kc_X8_gains.drop 0).take 60) = true := by decide +kernel
theorem mk_X8_gains_60 : cOKb mt_X8_gains ((kc_X8_gains.drop 60).take 60) = true := by decide +kernel
theorem mk_X8_gains : mOK mt_X8_gains := by
  refine ⟨by decide +kernel, ?_⟩
  show (kc_X8_gains).all _ = true
  rw [show kc_X8_gains = kc_X8_gains.drop 0 from rfl]
  refine all_td 60 mk_X8_gains_0 ?_
  rw [List.drop_drop]
  refine all_td 60 mk_X8_gains_60 ?_
  rw [List.drop_drop]
  decide +kernel
theorem mk_X8_run : mOK mt_X8_run := ⟨by decide +kernel, by decide +kernel⟩
theorem mk_X8_round : mOK mt_X8_round := ⟨by decide +kernel, by decide +kernel⟩
theorem mk_X8_counted : mOK mt_X8_counted := ⟨by decide +kernel, by decide +kernel⟩
theorem mk_X8_stolen : mOK mt_X8_stolen := ⟨by decide +kernel, by decide +kernel⟩
theorem mk_X8_split_0 : cOKb mt_X8_split ((kc_X8_split.drop 0).take 60) = true := by decide +kernel
theorem mk_X8_split_60 : cOKb mt_X8_split ((kc_X8_split.drop 60).take 60) = true := by decide +kernel
theorem mk_X8_split : mOK mt_X8_split := by
  refine ⟨by decide +kernel, ?_⟩
  show (kc_X8_split).all _ = true
  rw [show kc_X8_split = kc_X8_split.drop 0 from rfl]
  refine all_td 60 mk_X8_split_0 ?_
  rw [List.drop_drop]
  refine all_td 60 mk_X8_split_60 ?_
  rw [List.drop_drop]
  decide +kernel
theorem mk_X8_night : mOK mt_X8_night := ⟨by decide +kernel, by decide +kernel⟩
theorem mk_X8_nightHas : mOK mt_X8_nightHas := ⟨by decide +kernel, by decide +kernel⟩
theorem mk_X8_keep : mOK mt_X8_keep := ⟨by decide +kernel, by decide +kernel⟩
theorem mk_X8_back : mOK mt_X8_back := ⟨by decide +kernel, by decide +kernel⟩
theorem mk_X8_count : mOK mt_X8_count := ⟨by decide +kernel, by decide +kernel⟩
theorem mk_X8_within : mOK mt_X8_within := ⟨by decide +kernel, by decide +kernel⟩
theorem mk_X8_isHand : mOK mt_X8_isHand := ⟨by decide +kernel, by decide +kernel⟩
theorem mk_X8_isGlass : mOK mt_X8_isGlass := ⟨by decide +kernel, by decide +kernel⟩
theorem mk_X8_isDelay : mOK mt_X8_isDelay := ⟨by decide +kernel, by decide +kernel⟩
theorem mk_X8_isNight : mOK mt_X8_isNight := ⟨by decide +kernel, by decide +kernel⟩
theorem mk_X8_lookAhead : mOK mt_X8_lookAhead := ⟨by decide +kernel, by decide +kernel⟩
theorem mk_X8_passNight : mOK mt_X8_passNight := ⟨by decide +kernel, by decide +kernel⟩
theorem mk_X8_countHoldings : mOK mt_X8_countHoldings := ⟨by decide +kernel, by decide +kernel⟩
theorem mk_X8_comesFirst : mOK mt_X8_comesFirst := ⟨by decide +kernel, by decide +kernel⟩
theorem mk_X9_init_0 : cOKb mt_X9_init ((kc_X9_init.drop 0).take 60) = true := by decide +kernel
theorem mk_X9_init_60 : cOKb mt_X9_init ((kc_X9_init.drop 60).take 60) = true := by decide +kernel
theorem mk_X9_init_120 : cOKb mt_X9_init ((kc_X9_init.drop 120).take 60) = true := by decide +kernel
theorem mk_X9_init : mOK mt_X9_init := by
  refine ⟨by decide +kernel, ?_⟩
  show (kc_X9_init).all _ = true
  rw [show kc_X9_init = kc_X9_init.drop 0 from rfl]
  refine all_td 60 mk_X9_init_0 ?_
  rw [List.drop_drop]
  refine all_td 60 mk_X9_init_60 ?_
  rw [List.drop_drop]
  refine all_td 60 mk_X9_init_120 ?_
  rw [List.drop_drop]
  decide +kernel
theorem mk_X9_in : mOK mt_X9_in := ⟨by decide +kernel, by decide +kernel⟩
theorem mk_X9_has1 : mOK mt_X9_has1 := ⟨by decide +kernel, by decide +kernel⟩
theorem mk_X9_noShelf : mOK mt_X9_noShelf := ⟨by decide +kernel, by decide +kernel⟩
theorem mk_X9_write : mOK mt_X9_write := ⟨by decide +kernel, by decide +kernel⟩
theorem mk_X9_wipe : mOK mt_X9_wipe := ⟨by decide +kernel, by decide +kernel⟩
theorem mk_X9_byteAt : mOK mt_X9_byteAt := ⟨by decide +kernel, by decide +kernel⟩
theorem mk_X9_figures_0 : cOKb mt_X9_figures ((kc_X9_figures.drop 0).take 60) = true := by decide +kernel
theorem mk_X9_figures_60 : cOKb mt_X9_figures ((kc_X9_figures.drop 60).take 60) = true := by decide +kernel
theorem mk_X9_figures : mOK mt_X9_figures := by
  refine ⟨by decide +kernel, ?_⟩
  show (kc_X9_figures).all _ = true
  rw [show kc_X9_figures = kc_X9_figures.drop 0 from rfl]
  refine all_td 60 mk_X9_figures_0 ?_
  rw [List.drop_drop]
  refine all_td 60 mk_X9_figures_60 ?_
  rw [List.drop_drop]
  decide +kernel
theorem mk_X9_glassItem_0 : cOKb mt_X9_glassItem ((kc_X9_glassItem.drop 0).take 60) = true := by decide +kernel
theorem mk_X9_glassItem_60 : cOKb mt_X9_glassItem ((kc_X9_glassItem.drop 60).take 60) = true := by decide +kernel
theorem mk_X9_glassItem : mOK mt_X9_glassItem := by
  refine ⟨by decide +kernel, ?_⟩
  show (kc_X9_glassItem).all _ = true
  rw [show kc_X9_glassItem = kc_X9_glassItem.drop 0 from rfl]
  refine all_td 60 mk_X9_glassItem_0 ?_
  rw [List.drop_drop]
  refine all_td 60 mk_X9_glassItem_60 ?_
  rw [List.drop_drop]
  decide +kernel
theorem mk_X9_tieItem_0 : cOKb mt_X9_tieItem ((kc_X9_tieItem.drop 0).take 60) = true := by decide +kernel
theorem mk_X9_tieItem_60 : cOKb mt_X9_tieItem ((kc_X9_tieItem.drop 60).take 60) = true := by decide +kernel
theorem mk_X9_tieItem : mOK mt_X9_tieItem := by
  refine ⟨by decide +kernel, ?_⟩
  show (kc_X9_tieItem).all _ = true
  rw [show kc_X9_tieItem = kc_X9_tieItem.drop 0 from rfl]
  refine all_td 60 mk_X9_tieItem_0 ?_
  rw [List.drop_drop]
  refine all_td 60 mk_X9_tieItem_60 ?_
  rw [List.drop_drop]
  decide +kernel
theorem mk_X9_clerkItem_0 : cOKb mt_X9_clerkItem ((kc_X9_clerkItem.drop 0).take 60) = true := by decide +kernel
theorem mk_X9_clerkItem_60 : cOKb mt_X9_clerkItem ((kc_X9_clerkItem.drop 60).take 60) = true := by decide +kernel
theorem mk_X9_clerkItem : mOK mt_X9_clerkItem := by
  refine ⟨by decide +kernel, ?_⟩
  show (kc_X9_clerkItem).all _ = true
  rw [show kc_X9_clerkItem = kc_X9_clerkItem.drop 0 from rfl]
  refine all_td 60 mk_X9_clerkItem_0 ?_
  rw [List.drop_drop]
  refine all_td 60 mk_X9_clerkItem_60 ?_
  rw [List.drop_drop]
  decide +kernel
theorem mk_X9_item_0 : cOKb mt_X9_item ((kc_X9_item.drop 0).take 60) = true := by decide +kernel
theorem mk_X9_item_60 : cOKb mt_X9_item ((kc_X9_item.drop 60).take 60) = true := by decide +kernel
theorem mk_X9_item : mOK mt_X9_item := by
  refine ⟨by decide +kernel, ?_⟩
  show (kc_X9_item).all _ = true
  rw [show kc_X9_item = kc_X9_item.drop 0 from rfl]
  refine all_td 60 mk_X9_item_0 ?_
  rw [List.drop_drop]
  refine all_td 60 mk_X9_item_60 ?_
  rw [List.drop_drop]
  decide +kernel
theorem mk_X9_readAll : mOK mt_X9_readAll := ⟨by decide +kernel, by decide +kernel⟩
theorem mk_X9_fault : mOK mt_X9_fault := ⟨by decide +kernel, by decide +kernel⟩
theorem mk_X9_layShelf_0 : cOKb mt_X9_layShelf ((kc_X9_layShelf.drop 0).take 60) = true := by decide +kernel
theorem mk_X9_layShelf_60 : cOKb mt_X9_layShelf ((kc_X9_layShelf.drop 60).take 60) = true := by decide +kernel
theorem mk_X9_layShelf : mOK mt_X9_layShelf := by
  refine ⟨by decide +kernel, ?_⟩
  show (kc_X9_layShelf).all _ = true
  rw [show kc_X9_layShelf = kc_X9_layShelf.drop 0 from rfl]
  refine all_td 60 mk_X9_layShelf_0 ?_
  rw [List.drop_drop]
  refine all_td 60 mk_X9_layShelf_60 ?_
  rw [List.drop_drop]
  decide +kernel
theorem mk_X9_lay_0 : cOKb mt_X9_lay ((kc_X9_lay.drop 0).take 60) = true := by decide +kernel
theorem mk_X9_lay_60 : cOKb mt_X9_lay ((kc_X9_lay.drop 60).take 60) = true := by decide +kernel
theorem mk_X9_lay_120 : cOKb mt_X9_lay ((kc_X9_lay.drop 120).take 60) = true := by decide +kernel
theorem mk_X9_lay : mOK mt_X9_lay := by
  refine ⟨by decide +kernel, ?_⟩
  show (kc_X9_lay).all _ = true
  rw [show kc_X9_lay = kc_X9_lay.drop 0 from rfl]
  refine all_td 60 mk_X9_lay_0 ?_
  rw [List.drop_drop]
  refine all_td 60 mk_X9_lay_60 ?_
  rw [List.drop_drop]
  refine all_td 60 mk_X9_lay_120 ?_
  rw [List.drop_drop]
  decide +kernel
theorem mk_X9_isGlass : mOK mt_X9_isGlass := ⟨by decide +kernel, by decide +kernel⟩
theorem mk_X9_isHand : mOK mt_X9_isHand := ⟨by decide +kernel, by decide +kernel⟩
theorem mk_X9_glass : mOK mt_X9_glass := ⟨by decide +kernel, by decide +kernel⟩
theorem mk_X9_copy : mOK mt_X9_copy := ⟨by decide +kernel, by decide +kernel⟩
theorem mk_X9_hasOf_0 : cOKb mt_X9_hasOf ((kc_X9_hasOf.drop 0).take 60) = true := by decide +kernel
theorem mk_X9_hasOf_60 : cOKb mt_X9_hasOf ((kc_X9_hasOf.drop 60).take 60) = true := by decide +kernel
theorem mk_X9_hasOf : mOK mt_X9_hasOf := by
  refine ⟨by decide +kernel, ?_⟩
  show (kc_X9_hasOf).all _ = true
  rw [show kc_X9_hasOf = kc_X9_hasOf.drop 0 from rfl]
  refine all_td 60 mk_X9_hasOf_0 ?_
  rw [List.drop_drop]
  refine all_td 60 mk_X9_hasOf_60 ?_
  rw [List.drop_drop]
  decide +kernel
theorem mk_X9_has : mOK mt_X9_has := ⟨by decide +kernel, by decide +kernel⟩
theorem mk_X9_tiedTo : mOK mt_X9_tiedTo := ⟨by decide +kernel, by decide +kernel⟩
theorem mk_X9_turnOf : mOK mt_X9_turnOf := ⟨by decide +kernel, by decide +kernel⟩
theorem mk_X9_clerks : mOK mt_X9_clerks := ⟨by decide +kernel, by decide +kernel⟩
theorem mk_X9_upper : mOK mt_X9_upper := ⟨by decide +kernel, by decide +kernel⟩
theorem mk_X9_lower : mOK mt_X9_lower := ⟨by decide +kernel, by decide +kernel⟩
theorem mk_X9_standing : mOK mt_X9_standing := ⟨by decide +kernel, by decide +kernel⟩
theorem mk_X9_fall_0 : cOKb mt_X9_fall ((kc_X9_fall.drop 0).take 60) = true := by decide +kernel
theorem mk_X9_fall_60 : cOKb mt_X9_fall ((kc_X9_fall.drop 60).take 60) = true := by decide +kernel
theorem mk_X9_fall : mOK mt_X9_fall := by
  refine ⟨by decide +kernel, ?_⟩
  show (kc_X9_fall).all _ = true
  rw [show kc_X9_fall = kc_X9_fall.drop 0 from rfl]
  refine all_td 60 mk_X9_fall_0 ?_
  rw [List.drop_drop]
  refine all_td 60 mk_X9_fall_60 ?_
  rw [List.drop_drop]
  decide +kernel
theorem mk_X9_minutes : mOK mt_X9_minutes := ⟨by decide +kernel, by decide +kernel⟩
theorem mk_X9_noteUndo_0 : cOKb mt_X9_noteUndo ((kc_X9_noteUndo.drop 0).take 60) = true := by decide +kernel
theorem mk_X9_noteUndo_60 : cOKb mt_X9_noteUndo ((kc_X9_noteUndo.drop 60).take 60) = true := by decide +kernel
theorem mk_X9_noteUndo : mOK mt_X9_noteUndo := by
  refine ⟨by decide +kernel, ?_⟩
  show (kc_X9_noteUndo).all _ = true
  rw [show kc_X9_noteUndo = kc_X9_noteUndo.drop 0 from rfl]
  refine all_td 60 mk_X9_noteUndo_0 ?_
  rw [List.drop_drop]
  refine all_td 60 mk_X9_noteUndo_60 ?_
  rw [List.drop_drop]
  decide +kernel
theorem mk_X9_turn : mOK mt_X9_turn := ⟨by decide +kernel, by decide +kernel⟩
theorem mk_X9_pour_0 : cOKb mt_X9_pour ((kc_X9_pour.drop 0).take 60) = true := by decide +kernel
theorem mk_X9_pour_60 : cOKb mt_X9_pour ((kc_X9_pour.drop 60).take 60) = true := by decide +kernel
theorem mk_X9_pour : mOK mt_X9_pour := by
  refine ⟨by decide +kernel, ?_⟩
  show (kc_X9_pour).all _ = true
  rw [show kc_X9_pour = kc_X9_pour.drop 0 from rfl]
  refine all_td 60 mk_X9_pour_0 ?_
  rw [List.drop_drop]
  refine all_td 60 mk_X9_pour_60 ?_
  rw [List.drop_drop]
  decide +kernel
theorem mk_X9_undo_0 : cOKb mt_X9_undo ((kc_X9_undo.drop 0).take 60) = true := by decide +kernel
theorem mk_X9_undo_60 : cOKb mt_X9_undo ((kc_X9_undo.drop 60).take 60) = true := by decide +kernel
theorem mk_X9_undo : mOK mt_X9_undo := by
  refine ⟨by decide +kernel, ?_⟩
  show (kc_X9_undo).all _ = true
  rw [show kc_X9_undo = kc_X9_undo.drop 0 from rfl]
  refine all_td 60 mk_X9_undo_0 ?_
  rw [List.drop_drop]
  refine all_td 60 mk_X9_undo_60 ?_
  rw [List.drop_drop]
  decide +kernel
theorem mk_X9_runOn : mOK mt_X9_runOn := ⟨by decide +kernel, by decide +kernel⟩
theorem mk_X9_isLater : mOK mt_X9_isLater := ⟨by decide +kernel, by decide +kernel⟩
theorem mk_X9_later : mOK mt_X9_later := ⟨by decide +kernel, by decide +kernel⟩
theorem mk_X9_falls : mOK mt_X9_falls := ⟨by decide +kernel, by decide +kernel⟩
theorem mk_X9_empty : mOK mt_X9_empty := ⟨by decide +kernel, by decide +kernel⟩
theorem mk_X9_isLate : mOK mt_X9_isLate := ⟨by decide +kernel, by decide +kernel⟩
theorem mk_X9_layMore : mOK mt_X9_layMore := ⟨by decide +kernel, by decide +kernel⟩
theorem mk_X9_late : mOK mt_X9_late := ⟨by decide +kernel, by decide +kernel⟩
theorem mk_X9_gains : mOK mt_X9_gains := ⟨by decide +kernel, by decide +kernel⟩
theorem mk_X9_run : mOK mt_X9_run := ⟨by decide +kernel, by decide +kernel⟩
theorem mk_X9_lowestStanding : mOK mt_X9_lowestStanding := ⟨by decide +kernel, by decide +kernel⟩
theorem mk_X9_roundOf : mOK mt_X9_roundOf := ⟨by decide +kernel, by decide +kernel⟩
theorem mk_X9_figure : mOK mt_X9_figure := ⟨by decide +kernel, by decide +kernel⟩
theorem mk_X9_round_0 : cOKb mt_X9_round ((kc_X9_round.drop 0).take 60) = true := by decide +kernel
theorem mk_X9_round_60 : cOKb mt_X9_round ((kc_X9_round.drop 60).take 60) = true := by decide +kernel
theorem mk_X9_round : mOK mt_X9_round := by
  refine ⟨by decide +kernel, ?_⟩
  show (kc_X9_round).all _ = true
  rw [show kc_X9_round = kc_X9_round.drop 0 from rfl]
  refine all_td 60 mk_X9_round_0 ?_
  rw [List.drop_drop]
  refine all_td 60 mk_X9_round_60 ?_
  rw [List.drop_drop]
  decide +kernel
theorem mk_X9_counted_0 : cOKb mt_X9_counted ((kc_X9_counted.drop 0).take 60) = true := by decide +kernel
theorem mk_X9_counted_60 : cOKb mt_X9_counted ((kc_X9_counted.drop 60).take 60) = true := by decide +kernel
theorem mk_X9_counted : mOK mt_X9_counted := by
  refine ⟨by decide +kernel, ?_⟩
  show (kc_X9_counted).all _ = true
  rw [show kc_X9_counted = kc_X9_counted.drop 0 from rfl]
  refine all_td 60 mk_X9_counted_0 ?_
  rw [List.drop_drop]
  refine all_td 60 mk_X9_counted_60 ?_
  rw [List.drop_drop]
  decide +kernel
theorem mk_X9_fewest : mOK mt_X9_fewest := ⟨by decide +kernel, by decide +kernel⟩
theorem mk_X9_till_0 : cOKb mt_X9_till ((kc_X9_till.drop 0).take 60) = true := by decide +kernel
theorem mk_X9_till_60 : cOKb mt_X9_till ((kc_X9_till.drop 60).take 60) = true := by decide +kernel
theorem mk_X9_till : mOK mt_X9_till := by
  refine ⟨by decide +kernel, ?_⟩
  show (kc_X9_till).all _ = true
  rw [show kc_X9_till = kc_X9_till.drop 0 from rfl]
  refine all_td 60 mk_X9_till_0 ?_
  rw [List.drop_drop]
  refine all_td 60 mk_X9_till_60 ?_
  rw [List.drop_drop]
  decide +kernel
theorem mk_X9_since_0 : cOKb mt_X9_since ((kc_X9_since.drop 0).take 60) = true := by decide +kernel
theorem mk_X9_since_60 : cOKb mt_X9_since ((kc_X9_since.drop 60).take 60) = true := by decide +kernel
theorem mk_X9_since : mOK mt_X9_since := by
  refine ⟨by decide +kernel, ?_⟩
  show (kc_X9_since).all _ = true
  rw [show kc_X9_since = kc_X9_since.drop 0 from rfl]
  refine all_td 60 mk_X9_since_0 ?_
  rw [List.drop_drop]
  refine all_td 60 mk_X9_since_60 ?_
  rw [List.drop_drop]
  decide +kernel
theorem mk_X9_falseOnes_0 : cOKb mt_X9_falseOnes ((kc_X9_falseOnes.drop 0).take 60) = true := by decide +kernel
theorem mk_X9_falseOnes_60 : cOKb mt_X9_falseOnes ((kc_X9_falseOnes.drop 60).take 60) = true := by decide +kernel
theorem mk_X9_falseOnes : mOK mt_X9_falseOnes := by
  refine ⟨by decide +kernel, ?_⟩
  show (kc_X9_falseOnes).all _ = true
  rw [show kc_X9_falseOnes = kc_X9_falseOnes.drop 0 from rfl]
  refine all_td 60 mk_X9_falseOnes_0 ?_
  rw [List.drop_drop]
  refine all_td 60 mk_X9_falseOnes_60 ?_
  rw [List.drop_drop]
  decide +kernel
theorem mk_X9_stolen : mOK mt_X9_stolen := ⟨by decide +kernel, by decide +kernel⟩
theorem mk_X9_split_0 : cOKb mt_X9_split ((kc_X9_split.drop 0).take 60) = true := by decide +kernel
theorem mk_X9_split_60 : cOKb mt_X9_split ((kc_X9_split.drop 60).take 60) = true := by decide +kernel
theorem mk_X9_split : mOK mt_X9_split := by
  refine ⟨by decide +kernel, ?_⟩
  show (kc_X9_split).all _ = true
  rw [show kc_X9_split = kc_X9_split.drop 0 from rfl]
  refine all_td 60 mk_X9_split_0 ?_
  rw [List.drop_drop]
  refine all_td 60 mk_X9_split_60 ?_
  rw [List.drop_drop]
  decide +kernel
theorem mk_X9_draw : mOK mt_X9_draw := ⟨by decide +kernel, by decide +kernel⟩
theorem mk_X9_goNight : mOK mt_X9_goNight := ⟨by decide +kernel, by decide +kernel⟩
theorem mk_X9_suffer_0 : cOKb mt_X9_suffer ((kc_X9_suffer.drop 0).take 60) = true := by decide +kernel
theorem mk_X9_suffer_60 : cOKb mt_X9_suffer ((kc_X9_suffer.drop 60).take 60) = true := by decide +kernel
theorem mk_X9_suffer : mOK mt_X9_suffer := by
  refine ⟨by decide +kernel, ?_⟩
  show (kc_X9_suffer).all _ = true
  rw [show kc_X9_suffer = kc_X9_suffer.drop 0 from rfl]
  refine all_td 60 mk_X9_suffer_0 ?_
  rw [List.drop_drop]
  refine all_td 60 mk_X9_suffer_60 ?_
  rw [List.drop_drop]
  decide +kernel
theorem mk_X9_isNight : mOK mt_X9_isNight := ⟨by decide +kernel, by decide +kernel⟩
theorem mk_X9_night : mOK mt_X9_night := ⟨by decide +kernel, by decide +kernel⟩
theorem mk_X9_nightHas : mOK mt_X9_nightHas := ⟨by decide +kernel, by decide +kernel⟩
theorem mk_X9_copyCounts : mOK mt_X9_copyCounts := ⟨by decide +kernel, by decide +kernel⟩
theorem mk_X9_keep : mOK mt_X9_keep := ⟨by decide +kernel, by decide +kernel⟩
theorem mk_X9_back : mOK mt_X9_back := ⟨by decide +kernel, by decide +kernel⟩
theorem mk_X9_count : mOK mt_X9_count := ⟨by decide +kernel, by decide +kernel⟩
theorem mk_J6_bitCount_0f7a4 : mOK mt_J6_bitCount_0f7a4 := ⟨by decide +kernel, by decide +kernel⟩
theorem mt_ok : ∀ me ∈ MT, mOK me := by
  unfold MT
  exact List.forall_mem_cons.mpr ⟨mk_X0_init, List.forall_mem_cons.mpr ⟨mk_X0_noteTurn, List.forall_mem_cons.mpr ⟨mk_X0_notePouring, List.forall_mem_cons.mpr ⟨mk_X0_makeRoom, List.forall_mem_cons.mpr ⟨mk_X0_takeBack, List.forall_mem_cons.mpr ⟨mk_X1_init, List.forall_mem_cons.mpr ⟨mk_X1_pass, List.forall_mem_cons.mpr ⟨mk_X1_befall, List.forall_mem_cons.mpr ⟨mk_X1_lose, List.forall_mem_cons.mpr ⟨mk_X1_draw, List.forall_mem_cons.mpr ⟨mk_X2_init, List.forall_mem_cons.mpr ⟨mk_X2_clear, List.forall_mem_cons.mpr ⟨mk_X2_isTold, List.forall_mem_cons.mpr ⟨mk_X2_addGlass, List.forall_mem_cons.mpr ⟨mk_X2_addTie, List.forall_mem_cons.mpr ⟨mk_X2_addClerk, List.forall_mem_cons.mpr ⟨mk_X2_setPartner, List.forall_mem_cons.mpr ⟨mk_X2_setRisks, List.forall_mem_cons.mpr ⟨mk_X2_bindTies, List.forall_mem_cons.mpr ⟨mk_X2_tiedToSome, List.forall_mem_cons.mpr ⟨mk_X3_init, List.forall_mem_cons.mpr ⟨mk_X3_readText, List.forall_mem_cons.mpr ⟨mk_X3_readItem, List.forall_mem_cons.mpr ⟨mk_X3_numbersOf, List.forall_mem_cons.mpr ⟨mk_X3_readNumber, List.forall_mem_cons.mpr ⟨mk_X3_addItem, List.forall_mem_cons.mpr ⟨mk_X4_init, List.forall_mem_cons.mpr ⟨mk_X4_search, List.forall_mem_cons.mpr ⟨mk_X4_stoodBy, List.forall_mem_cons.mpr ⟨mk_X4_stepRow, List.forall_mem_cons.mpr ⟨mk_X5_init, List.forall_mem_cons.mpr ⟨mk_X5_fill, List.forall_mem_cons.mpr ⟨mk_X5_copyFrom, List.forall_mem_cons.mpr ⟨mk_X5_upperSide, List.forall_mem_cons.mpr ⟨mk_X5_upperBulb, List.forall_mem_cons.mpr ⟨mk_X5_flip, List.forall_mem_cons.mpr ⟨mk_X5_move, List.forall_mem_cons.mpr ⟨mk_X5_goOn, List.forall_mem_cons.mpr ⟨mk_X5_letClerksTurn, List.forall_mem_cons.mpr ⟨mk_X5_letSandFall, List.forall_mem_cons.mpr ⟨mk_X5_flowIn, List.forall_mem_cons.mpr ⟨mk_X5_standing, List.forall_mem_cons.mpr ⟨mk_X5_minutesLeft, List.forall_mem_cons.mpr ⟨mk_X5_grainsOf, List.forall_mem_cons.mpr ⟨mk_X6_init, List.forall_mem_cons.mpr ⟨mk_X6_note, List.forall_mem_cons.mpr ⟨mk_X6_missing, List.forall_mem_cons.mpr ⟨mk_X6_till, List.forall_mem_cons.mpr ⟨mk_X6_since, List.forall_mem_cons.mpr ⟨mk_X6_falseOnes, List.forall_mem_cons.mpr ⟨mk_X6_exceedsEarlier, List.forall_mem_cons.mpr ⟨mk_X7_init, List.forall_mem_cons.mpr ⟨mk_X7_append, List.forall_mem_cons.mpr ⟨mk_X7_at, List.forall_mem_cons.mpr ⟨mk_X8_init, List.forall_mem_cons.mpr ⟨mk_X8_write, List.forall_mem_cons.mpr ⟨mk_X8_wipe, List.forall_mem_cons.mpr ⟨mk_X8_fault, List.forall_mem_cons.mpr ⟨mk_X8_lay, List.forall_mem_cons.mpr ⟨mk_X8_glass, List.forall_mem_cons.mpr ⟨mk_X8_has, List.forall_mem_cons.mpr ⟨mk_X8_minutes, List.forall_mem_cons.mpr ⟨mk_X8_turn, List.forall_mem_cons.mpr ⟨mk_X8_pour, List.forall_mem_cons.mpr ⟨mk_X8_undo, List.forall_mem_cons.mpr ⟨mk_X8_later, List.forall_mem_cons.mpr ⟨mk_X8_falls, List.forall_mem_cons.mpr ⟨mk_X8_empty, List.forall_mem_cons.mpr ⟨mk_X8_late, List.forall_mem_cons.mpr ⟨mk_X8_gains, List.forall_mem_cons.mpr ⟨mk_X8_run, List.forall_mem_cons.mpr ⟨mk_X8_round, List.forall_mem_cons.mpr ⟨mk_X8_counted, List.forall_mem_cons.mpr ⟨mk_X8_stolen, List.forall_mem_cons.mpr ⟨mk_X8_split, List.forall_mem_cons.mpr ⟨mk_X8_night, List.forall_mem_cons.mpr ⟨mk_X8_nightHas, List.forall_mem_cons.mpr ⟨mk_X8_keep, List.forall_mem_cons.mpr ⟨mk_X8_back, List.forall_mem_cons.mpr ⟨mk_X8_count, List.forall_mem_cons.mpr ⟨mk_X8_within, List.forall_mem_cons.mpr ⟨mk_X8_isHand, List.forall_mem_cons.mpr ⟨mk_X8_isGlass, List.forall_mem_cons.mpr ⟨mk_X8_isDelay, List.forall_mem_cons.mpr ⟨mk_X8_isNight, List.forall_mem_cons.mpr ⟨mk_X8_lookAhead, List.forall_mem_cons.mpr ⟨mk_X8_passNight, List.forall_mem_cons.mpr ⟨mk_X8_countHoldings, List.forall_mem_cons.mpr ⟨mk_X8_comesFirst, List.forall_mem_cons.mpr ⟨mk_X9_init, List.forall_mem_cons.mpr ⟨mk_X9_in, List.forall_mem_cons.mpr ⟨mk_X9_has1, List.forall_mem_cons.mpr ⟨mk_X9_noShelf, List.forall_mem_cons.mpr ⟨mk_X9_write, List.forall_mem_cons.mpr ⟨mk_X9_wipe, List.forall_mem_cons.mpr ⟨mk_X9_byteAt, List.forall_mem_cons.mpr ⟨mk_X9_figures, List.forall_mem_cons.mpr ⟨mk_X9_glassItem, List.forall_mem_cons.mpr ⟨mk_X9_tieItem, List.forall_mem_cons.mpr ⟨mk_X9_clerkItem, List.forall_mem_cons.mpr ⟨mk_X9_item, List.forall_mem_cons.mpr ⟨mk_X9_readAll, List.forall_mem_cons.mpr ⟨mk_X9_fault, List.forall_mem_cons.mpr ⟨mk_X9_layShelf, List.forall_mem_cons.mpr ⟨mk_X9_lay, List.forall_mem_cons.mpr ⟨mk_X9_isGlass, List.forall_mem_cons.mpr ⟨mk_X9_isHand, List.forall_mem_cons.mpr ⟨mk_X9_glass, List.forall_mem_cons.mpr ⟨mk_X9_copy, List.forall_mem_cons.mpr ⟨mk_X9_hasOf, List.forall_mem_cons.mpr ⟨mk_X9_has, List.forall_mem_cons.mpr ⟨mk_X9_tiedTo, List.forall_mem_cons.mpr ⟨mk_X9_turnOf, List.forall_mem_cons.mpr ⟨mk_X9_clerks, List.forall_mem_cons.mpr ⟨mk_X9_upper, List.forall_mem_cons.mpr ⟨mk_X9_lower, List.forall_mem_cons.mpr ⟨mk_X9_standing, List.forall_mem_cons.mpr ⟨mk_X9_fall, List.forall_mem_cons.mpr ⟨mk_X9_minutes, List.forall_mem_cons.mpr ⟨mk_X9_noteUndo, List.forall_mem_cons.mpr ⟨mk_X9_turn, List.forall_mem_cons.mpr ⟨mk_X9_pour, List.forall_mem_cons.mpr ⟨mk_X9_undo, List.forall_mem_cons.mpr ⟨mk_X9_runOn, List.forall_mem_cons.mpr ⟨mk_X9_isLater, List.forall_mem_cons.mpr ⟨mk_X9_later, List.forall_mem_cons.mpr ⟨mk_X9_falls, List.forall_mem_cons.mpr ⟨mk_X9_empty, List.forall_mem_cons.mpr ⟨mk_X9_isLate, List.forall_mem_cons.mpr ⟨mk_X9_layMore, List.forall_mem_cons.mpr ⟨mk_X9_late, List.forall_mem_cons.mpr ⟨mk_X9_gains, List.forall_mem_cons.mpr ⟨mk_X9_run, List.forall_mem_cons.mpr ⟨mk_X9_lowestStanding, List.forall_mem_cons.mpr ⟨mk_X9_roundOf, List.forall_mem_cons.mpr ⟨mk_X9_figure, List.forall_mem_cons.mpr ⟨mk_X9_round, List.forall_mem_cons.mpr ⟨mk_X9_counted, List.forall_mem_cons.mpr ⟨mk_X9_fewest, List.forall_mem_cons.mpr ⟨mk_X9_till, List.forall_mem_cons.mpr ⟨mk_X9_since, List.forall_mem_cons.mpr ⟨mk_X9_falseOnes, List.forall_mem_cons.mpr ⟨mk_X9_stolen, List.forall_mem_cons.mpr ⟨mk_X9_split, List.forall_mem_cons.mpr ⟨mk_X9_draw, List.forall_mem_cons.mpr ⟨mk_X9_goNight, List.forall_mem_cons.mpr ⟨mk_X9_suffer, List.forall_mem_cons.mpr ⟨mk_X9_isNight, List.forall_mem_cons.mpr ⟨mk_X9_night, List.forall_mem_cons.mpr ⟨mk_X9_nightHas, List.forall_mem_cons.mpr ⟨mk_X9_copyCounts, List.forall_mem_cons.mpr ⟨mk_X9_keep, List.forall_mem_cons.mpr ⟨mk_X9_back, List.forall_mem_cons.mpr ⟨mk_X9_count, List.forall_mem_cons.mpr ⟨mk_J6_bitCount_0f7a4, fun _ h => absurd h List.not_mem_nil⟩⟩⟩⟩⟩⟩⟩⟩⟩⟩⟩⟩⟩⟩⟩⟩⟩⟩⟩⟩⟩⟩⟩⟩⟩⟩⟩⟩⟩⟩⟩⟩⟩⟩⟩⟩⟩⟩⟩⟩⟩⟩⟩⟩⟩⟩⟩⟩⟩⟩⟩⟩⟩⟩⟩⟩⟩⟩⟩⟩⟩⟩⟩⟩⟩⟩⟩⟩⟩⟩⟩⟩⟩⟩⟩⟩⟩⟩⟩⟩⟩⟩⟩⟩⟩⟩⟩⟩⟩⟩⟩⟩⟩⟩⟩⟩⟩⟩⟩⟩⟩⟩⟩⟩⟩⟩⟩⟩⟩⟩⟩⟩⟩⟩⟩⟩⟩⟩⟩⟩⟩⟩⟩⟩⟩⟩⟩⟩⟩⟩⟩⟩⟩⟩⟩⟩⟩⟩⟩⟩⟩⟩⟩⟩⟩⟩⟩⟩⟩⟩⟩⟩⟩⟩⟩
def mt_L : ME := (10, x, code, 4, some .boolean, kc_L_law, 7, 165)

theorem mk_L_0 : cOKb mt_L ((kc_L_law.drop 0).take 60) = true := by decide +kernel
theorem mk_L_60 : cOKb mt_L ((kc_L_law.drop 60).take 60) = true := by decide +kernel
theorem mk_L_120 : cOKb mt_L ((kc_L_law.drop 120).take 60) = true := by decide +kernel
theorem mk_L_180 : cOKb mt_L ((kc_L_law.drop 180).take 60) = true := by decide +kernel
theorem mk_L_240 : cOKb mt_L ((kc_L_law.drop 240).take 60) = true := by decide +kernel
theorem mk_L_300 : cOKb mt_L ((kc_L_law.drop 300).take 60) = true := by decide +kernel
theorem mk_L_360 : cOKb mt_L ((kc_L_law.drop 360).take 60) = true := by decide +kernel
theorem mk_L_420 : cOKb mt_L ((kc_L_law.drop 420).take 60) = true := by decide +kernel
theorem mk_L_480 : cOKb mt_L ((kc_L_law.drop 480).take 60) = true := by decide +kernel
theorem mk_L_540 : cOKb mt_L ((kc_L_law.drop 540).take 60) = true := by decide +kernel
theorem mk_L_600 : cOKb mt_L ((kc_L_law.drop 600).take 60) = true := by decide +kernel
theorem mk_L_660 : cOKb mt_L ((kc_L_law.drop 660).take 60) = true := by decide +kernel
theorem mk_L : mOK mt_L := by
  refine ⟨by decide +kernel, ?_⟩
  show (kc_L_law).all _ = true
  rw [show kc_L_law = kc_L_law.drop 0 from rfl]
  refine all_td 60 mk_L_0 ?_
  rw [List.drop_drop]
  refine all_td 60 mk_L_60 ?_
  rw [List.drop_drop]
  refine all_td 60 mk_L_120 ?_
  rw [List.drop_drop]
  refine all_td 60 mk_L_180 ?_
  rw [List.drop_drop]
  refine all_td 60 mk_L_240 ?_
  rw [List.drop_drop]
  refine all_td 60 mk_L_300 ?_
  rw [List.drop_drop]
  refine all_td 60 mk_L_360 ?_
  rw [List.drop_drop]
  refine all_td 60 mk_L_420 ?_
  rw [List.drop_drop]
  refine all_td 60 mk_L_480 ?_
  rw [List.drop_drop]
  refine all_td 60 mk_L_540 ?_
  rw [List.drop_drop]
  refine all_td 60 mk_L_600 ?_
  rw [List.drop_drop]
  refine all_td 60 mk_L_660 ?_
  rw [List.drop_drop]
  decide +kernel
end
section
/-! The abstract machine: values with cell numbers in place of addresses, a heap of numbers and of cell numbers by cell and slot; one function zRun over the tables. -/
/-- is cell i made, and of class ci -/
def isO (h : Hp) (i ci : Nat) : Bool := Nat.blt i h.1 && (match shp[i]? with
  | some (.inl c) => Nat.beq c ci
  | _ => false)
/-- the length of array cell i of kind t, if it is one and made -/
def arrL (h : Hp) (i t : Nat) : Option Nat := bif Nat.blt i h.1 then (match shp[i]? with
  | some (.inr (t', n)) => bif Nat.beq t' t then some n else none
  | _ => none) else none
def slN (x : Nat ⊕ Nat × Nat) : Nat := match x with
  | .inl ci => nF ci
  | .inr (_, n) => n
def szS (n : Nat) : Nat := ((shp.take n).map slN).sum
def inB (i : Int32) (n : Nat) : Bool := decide (0 ≤ i.toInt) && Nat.blt i.toNatClampNeg n
def jmp (pc : Nat) (off : Int) : Option Nat := match (pc : Int) + off with
  | .ofNat t => some t
  | .negSucc _ => none
def rfV (r : Option Nat) : Value := match r with
  | some a => .ref a
  | none => .null
def ldI (lv : LV) (i : Nat) : Option Int32 := match lkp lv i with
  | some (.int x) => some x
  | _ => none
def ldL (lv : LV) (i : Nat) : Option Int64 := match lkp lv i with
  | some (.long x) => some x
  | _ => none
def ldA (lv : LV) (i : Nat) : Option Nat := match lkp lv i with
  | some (.ref x) => some x
  | _ => none
def cnd (c : ClassFile.Cond) (x y : Int32) : Bool := match c with
  | .eq => decide (x = y)
  | .ne => !decide (x = y)
  | .lt => decide (x < y)
  | .ge => decide (y ≤ x)
  | .gt => decide (y < x)
  | .le => decide (x ≤ y)
abbrev Cfg := Nat × LV × List Value × Hp
def catS (l : List Value) : Nat := (l.map fun v => v.category).sum
/-- the script's cell number -/
def sId : Nat := 4096
def zStep (scr : Option (Nat × (Nat → Int32))) (own nL pc : Nat) (ini : Bool) (ins : Instr) (len : Nat) (lv : LV) (st : List Value) (h : Hp) : Option Cfg := match ins with
  | .iconst i => some (pc + 1, lv, .int (Int32.ofInt i) :: st, h)
  | .bipush i => some (pc + 2, lv, .int (Int8.ofInt i).toInt32 :: st, h)
  | .sipush i => some (pc + 3, lv, .int (Int16.ofInt i).toInt32 :: st, h)
  | .lconst i => some (pc + 1, lv, .long (Int64.ofNat (i : Nat)) :: st, h)
  | .ldc ix => (match lkp (poolOf own) ix with
    | some (9, _, _, v) => some (pc + 2, lv, .int (Int32.ofInt v) :: st, h)
    | _ => none)
  | .ldc_w ix => (match lkp (poolOf own) ix with
    | some (9, _, _, v) => some (pc + 3, lv, .int (Int32.ofInt v) :: st, h)
    | _ => none)
  | .ldc2_w ix => (match lkp (poolOf own) ix with
    | some (10, _, _, v) => some (pc + 3, lv, .long (Int64.ofInt v) :: st, h)
    | _ => none)
  | .iload_n i => (match ldI lv i with
    | some x => some (pc + 1, lv, .int x :: st, h)
    | none => none)
  | .iload i => (match ldI lv i with
    | some x => some (pc + 2, lv, .int x :: st, h)
    | none => none)
  | .lload_n i => (match ldL lv i with
    | some x => some (pc + 1, lv, .long x :: st, h)
    | none => none)
  | .lload i => (match ldL lv i with
    | some x => some (pc + 2, lv, .long x :: st, h)
    | none => none)
  | .aload_n i => (match ldA lv i with
    | some x => some (pc + 1, lv, .ref x :: st, h)
    | none => none)
  | .aload i => (match ldA lv i with
    | some x => some (pc + 2, lv, .ref x :: st, h)
    | none => none)
  | .istore_n i => (match st with
    | .int x :: r => bif Nat.blt i nL then some (pc + 1, lvPut lv i (.int x), r, h) else none
    | _ => none)
  | .istore i => (match st with
    | .int x :: r => bif Nat.blt i nL then some (pc + 2, lvPut lv i (.int x), r, h) else none
    | _ => none)
  | .lstore_n i => (match st with
    | .long x :: r => bif Nat.blt (i + 1) nL then some (pc + 1, lvPut2 lv i (.long x), r, h) else none
    | _ => none)
  | .lstore i => (match st with
    | .long x :: r => bif Nat.blt (i + 1) nL then some (pc + 2, lvPut2 lv i (.long x), r, h) else none
    | _ => none)
  | .astore_n i => (match st with
    | .ref x :: r => bif Nat.blt i nL then some (pc + 1, lvPut lv i (.ref x), r, h) else none
    | _ => none)
  | .astore i => (match st with
    | .ref x :: r => bif Nat.blt i nL then some (pc + 2, lvPut lv i (.ref x), r, h) else none
    | _ => none)
  | .iinc i n => (match ldI lv i with
    | some x => bif Nat.blt i nL then some (pc + 3, lvPut lv i (.int (x + Int32.ofInt n)), st, h) else none
    | none => none)
  | .dup => (match st with
    | v :: r => bif Nat.beq v.category 1 then some (pc + 1, lv, v :: v :: r, h) else none
    | _ => none)
  | .dup2 => (match st with
    | v :: w :: r => bif Nat.beq v.category 1 && Nat.beq w.category 1 then some (pc + 1, lv, v :: w :: v :: w :: r, h) else none
    | _ => none)
  | .pop => (match st with
    | v :: r => bif Nat.beq v.category 1 then some (pc + 1, lv, r, h) else none
    | _ => none)
  | .iadd => (match st with
    | .int y :: .int x :: r => some (pc + 1, lv, .int (x + y) :: r, h)
    | _ => none)
  | .isub => (match st with
    | .int y :: .int x :: r => some (pc + 1, lv, .int (x - y) :: r, h)
    | _ => none)
  | .imul => (match st with
    | .int y :: .int x :: r => some (pc + 1, lv, .int (x * y) :: r, h)
    | _ => none)
  | .idiv => (match st with
    | .int y :: .int x :: r => if y = 0 then none else some (pc + 1, lv, .int (x / y) :: r, h)
    | _ => none)
  | .irem => (match st with
    | .int y :: .int x :: r => if y = 0 then none else some (pc + 1, lv, .int (x - x / y * y) :: r, h)
    | _ => none)
  | .ineg => (match st with
    | .int x :: r => some (pc + 1, lv, .int (-x) :: r, h)
    | _ => none)
  | .ishl => (match st with
    | .int y :: .int x :: r => some (pc + 1, lv, .int (x <<< (y &&& 31)) :: r, h)
    | _ => none)
  | .ishr => (match st with
    | .int y :: .int x :: r => some (pc + 1, lv, .int (x >>> (y &&& 31)) :: r, h)
    | _ => none)
  | .iushr => (match st with
    | .int y :: .int x :: r => some (pc + 1, lv, .int (x.toUInt32 >>> (y.toUInt32 &&& Int32.toUInt32 31)).toInt32 :: r, h)
    | _ => none)
  | .iand => (match st with
    | .int y :: .int x :: r => some (pc + 1, lv, .int (x &&& y) :: r, h)
    | _ => none)
  | .ior => (match st with
    | .int y :: .int x :: r => some (pc + 1, lv, .int (x ||| y) :: r, h)
    | _ => none)
  | .ixor => (match st with
    | .int y :: .int x :: r => some (pc + 1, lv, .int (x ^^^ y) :: r, h)
    | _ => none)
  | .i2l => (match st with
    | .int x :: r => some (pc + 1, lv, .long x.toInt64 :: r, h)
    | _ => none)
  | .i2b => (match st with
    | .int x :: r => some (pc + 1, lv, .int x.toInt8.toInt32 :: r, h)
    | _ => none)
  | .l2i => (match st with
    | .long x :: r => some (pc + 1, lv, .int x.toInt32 :: r, h)
    | _ => none)
  | .ladd => (match st with
    | .long y :: .long x :: r => some (pc + 1, lv, .long (x + y) :: r, h)
    | _ => none)
  | .lsub => (match st with
    | .long y :: .long x :: r => some (pc + 1, lv, .long (x - y) :: r, h)
    | _ => none)
  | .lmul => (match st with
    | .long y :: .long x :: r => some (pc + 1, lv, .long (x * y) :: r, h)
    | _ => none)
  | .ldiv => (match st with
    | .long y :: .long x :: r => if y = 0 then none else some (pc + 1, lv, .long (x / y) :: r, h)
    | _ => none)
  | .lrem => (match st with
    | .long y :: .long x :: r => if y = 0 then none else some (pc + 1, lv, .long (x - x / y * y) :: r, h)
    | _ => none)
  | .land => (match st with
    | .long y :: .long x :: r => some (pc + 1, lv, .long (x &&& y) :: r, h)
    | _ => none)
  | .lor => (match st with
    | .long y :: .long x :: r => some (pc + 1, lv, .long (x ||| y) :: r, h)
    | _ => none)
  | .lshl => (match st with
    | .int y :: .long x :: r => some (pc + 1, lv, .long (x <<< (y.toInt64 &&& 63)) :: r, h)
    | _ => none)
  | .lshr => (match st with
    | .int y :: .long x :: r => some (pc + 1, lv, .long (x >>> (y.toInt64 &&& 63)) :: r, h)
    | _ => none)
  | .lcmp => (match st with
    | .long y :: .long x :: r => some (pc + 1, lv, .int (lg_cmp x y) :: r, h)
    | _ => none)
  | .goto off => (match jmp pc off with
    | some t => some (t, lv, st, h)
    | none => none)
  | .if_icmp c off => (match st with
    | .int y :: .int x :: r => (match jmp pc off with
      | some t => if cnd c x y = true then some (t, lv, r, h) else some (pc + 3, lv, r, h)
      | none => none)
    | _ => none)
  | .ifCond c off => (match st with
    | .int x :: r => (match jmp pc off with
      | some t => if cnd c x 0 = true then some (t, lv, r, h) else some (pc + 3, lv, r, h)
      | none => none)
    | _ => none)
  | .tableswitch d lo hi offs => (match st with
    | .int x :: r => if x.toInt < lo ∨ hi < x.toInt then (match jmp pc d with
        | some t => some (t, lv, r, h)
        | none => none) else (match offs[(x.toInt - lo).toNat]? with
        | some off => (match jmp pc off with
          | some t => some (t, lv, r, h)
          | none => none)
        | none => none)
    | _ => none)
  | .lookupswitch d ps => (match st with
    | .int x :: r => bif (ps.toList.zip (ps.toList.drop 1)).all (fun (a, next) => a.1 < next.1) then (match jmp pc (Op.lookupswitch.offset ps.toList d x.toInt) with
        | some t => some (t, lv, r, h)
        | none => none) else none
    | _ => none)
  | .getfield ix => (match st with
    | .ref i :: r => (match lkp (poolOf own) ix with
      | some (0, ci, k, _) => bif isO h i ci && Nat.blt k (nF ci) then some (pc + 3, lv, (bif isR ci k then rfV (h.2.2 i k) else .int (h.2.1 i k)) :: r, h) else none
      | some (1, ci, k, _) => bif isO h i ci && Nat.blt k (nF ci) then some (pc + 3, lv, (bif isR ci k then rfV (h.2.2 i k) else .int (h.2.1 i k)) :: r, h) else none
      | _ => none)
    | _ => none)
  | .putfield ix => (match st with
    | .int x :: .ref i :: r => (match lkp (poolOf own) ix with
      | some (0, ci, k, _) => bif isO h i ci && Nat.blt k (nF ci) && !isR ci k && !finF ci k then some (pc + 3, lv, r, (h.1, up2 h.2.1 i k x, h.2.2)) else none
      | some (1, ci, k, _) => bif isO h i ci && Nat.blt k (nF ci) && !isR ci k && !finF ci k then some (pc + 3, lv, r, (h.1, up2 h.2.1 i k x, h.2.2)) else none
      | _ => none)
    | .ref x :: .ref i :: r => (match lkp (poolOf own) ix with
      | some (0, ci, k, _) => bif isO h i ci && Nat.blt k (nF ci) && isR ci k && (!finF ci k || (ini && Nat.beq own ci)) then some (pc + 3, lv, r, (h.1, h.2.1, up2 h.2.2 i k (some x))) else none
      | _ => none)
    | _ => none)
  | .iaload => (match st with
    | .int j :: .ref i :: r => bif Nat.beq i sId then (match scr with
      | some (L, xs) => bif inB j L then some (pc + 1, lv, .int (xs j.toNatClampNeg) :: r, h) else none
      | none => none) else (match arrL h i 0 with
      | some n => bif inB j n then some (pc + 1, lv, .int (h.2.1 i j.toNatClampNeg) :: r, h) else none
      | none => none)
    | _ => none)
  | .baload => (match st with
    | .int j :: .ref i :: r => (match arrL h i 1 with
      | some n => bif inB j n then some (pc + 1, lv, .int (h.2.1 i j.toNatClampNeg) :: r, h) else none
      | none => none)
    | _ => none)
  | .aaload => (match st with
    | .int j :: .ref i :: r => (match arrL h i 2 with
      | some n => bif inB j n then some (pc + 1, lv, rfV (h.2.2 i j.toNatClampNeg) :: r, h) else none
      | none => none)
    | _ => none)
  | .iastore => (match st with
    | .int x :: .int j :: .ref i :: r => (match arrL h i 0 with
      | some n => bif inB j n then some (pc + 1, lv, r, (h.1, up2 h.2.1 i j.toNatClampNeg x, h.2.2)) else none
      | none => none)
    | _ => none)
  | .bastore => (match st with
    | .int x :: .int j :: .ref i :: r => (match arrL h i 1 with
      | some n => bif inB j n then some (pc + 1, lv, r, (h.1, up2 h.2.1 i j.toNatClampNeg (vp_nar .byte x), h.2.2)) else none
      | none => none)
    | _ => none)
  | .aastore => (match st with
    | .ref x :: .int j :: .ref i :: r => (match arrL h i 2 with
      | some n => bif inB j n && isO h x 5 then some (pc + 1, lv, r, (h.1, h.2.1, up2 h.2.2 i j.toNatClampNeg (some x))) else none
      | none => none)
    | _ => none)
  | .arraylength => (match st with
    | .ref i :: r => bif Nat.beq i sId then (match scr with
      | some (L, _) => some (pc + 1, lv, .int (Int32.ofNat L) :: r, h)
      | none => none) else (match arrL h i 0 with
      | some n => some (pc + 1, lv, .int (Int32.ofNat n) :: r, h)
      | none => none)
    | _ => none)
  | .new ix => (match lkp (poolOf own) ix with
    | some (11, ci, _, _) => (match shp[h.1]? with
      | some (.inl c) => bif Nat.beq c ci then some (pc + 3, lv, .ref h.1 :: st, (h.1 + 1, (fun a => if a = h.1 then (fun _ => 0) else h.2.1 a), (fun a => if a = h.1 then (fun _ => none) else h.2.2 a))) else none
      | _ => none)
    | _ => none)
  | .newarray ty => (match st with
    | .int n :: r => (match shp[h.1]? with
      | some (.inr (t, N)) => bif ((Nat.beq t 0 && decide (ty = .int)) || (Nat.beq t 1 && decide (ty = .byte))) && decide (0 ≤ n.toInt) && Nat.beq n.toNatClampNeg N then some (pc + 2, lv, .ref h.1 :: r, (h.1 + 1, (fun a => if a = h.1 then (fun _ => 0) else h.2.1 a), (fun a => if a = h.1 then (fun _ => none) else h.2.2 a))) else none
      | _ => none)
    | _ => none)
  | .anewarray ix => (match st with
    | .int n :: r => (match lkp (poolOf own) ix with
      | some (11, 5, _, _) => (match shp[h.1]? with
        | some (.inr (t, N)) => bif Nat.beq t 2 && decide (0 ≤ n.toInt) && Nat.beq n.toNatClampNeg N then some (pc + 3, lv, .ref h.1 :: r, (h.1 + 1, (fun a => if a = h.1 then (fun _ => 0) else h.2.1 a), (fun a => if a = h.1 then (fun _ => none) else h.2.2 a))) else none
        | _ => none)
      | _ => none)
    | _ => none)
  | .invokespecial ix => (match st with
    | .ref _ :: r => (match lkp (poolOf own) ix with
      | some (7, _, _, _) => bif Nat.ble (catS r) 8 then some (pc + 3, lv, r, h) else none
      | _ => none)
    | _ => none)
  | .invokestatic ix => (match lkp (poolOf own) ix with
    | some (8, _, _, _) => (match st with
      | .int n :: .int dp :: .ref d :: .int sp :: .ref a :: r => (match arrL h a 0 with
        | some n0 => (match arrL h d 0 with
          | some n1 => bif decide (0 ≤ n.toInt) && decide (0 ≤ dp.toInt) && decide (0 ≤ sp.toInt) && Nat.ble (sp.toNatClampNeg + n.toNatClampNeg) n0 && Nat.ble (dp.toNatClampNeg + n.toNatClampNeg) n1 && Nat.ble (catS r) 8 then
              some (pc + 3, lv, r, (h.1, (fun x => if x = d then va_cpy (h.2.1 a) (h.2.1 d) sp.toNatClampNeg dp.toNatClampNeg n.toNatClampNeg else h.2.1 x), h.2.2)) else none
          | none => none)
        | none => none)
      | _ => none)
    | some (13, _, _, _) => (match st with
      | .int y :: .int x :: r => bif Nat.ble (catS r) 8 then some (pc + 3, lv, .int (if x < y then y else x) :: r, h) else none
      | _ => none)
    | some (14, _, _, _) => (match st with
      | .int y :: .int x :: r => bif Nat.ble (catS r) 8 then some (pc + 3, lv, .int (if y < x then y else x) :: r, h) else none
      | _ => none)
    | _ => none)
  | _ => none
/-- a return: what comes back -/
def zRet (ret : Option FieldType) (ins : Instr) (st : List Value) : Option (Option Value) := match ins with
  | .ireturn => (match st with
    | [.int x] => (match ret with
      | some .int => some (some (.int x))
      | some .boolean => if x = 0 ∨ x = 1 then some (some (.int x)) else none
      | _ => none)
    | _ => none)
  | .areturn => (match st with
    | [.ref x] => (match ret with
      | some (.object _) => some (some (.ref x))
      | some (.array _) => some (some (.ref x))
      | _ => none)
    | _ => none)
  | .return_ => (match st with
    | [] => (match ret with
      | none => some none
      | _ => none)
    | _ => none)
  | _ => none
/-- a call of a method of the table on a receiver -/
def zCallR (h : Hp) (k b : Nat) (st : List Value) : Option (ME × List Value × List Value) := match MT[k]? with
  | some me => (match st.drop b with
    | .ref i :: r => bif isO h i me.1 && Nat.ble (catS r) 8 && Nat.ble (catS (.ref i :: (st.take b).reverse)) me.2.2.2.1 then some (me, .ref i :: (st.take b).reverse, r) else none
    | _ => none)
  | none => none
/-- a call of a method of the table without one -/
def zCallT (k b : Nat) (st : List Value) : Option (ME × List Value × List Value) := match MT[k]? with
  | some me => bif Nat.ble b st.length && Nat.ble (catS (st.drop b)) 8 && Nat.ble (catS (st.take b).reverse) me.2.2.2.1 then some (me, (st.take b).reverse, st.drop b) else none
  | none => none
/-- a call: which method, with which values, over which rest of the stack -/
def zCall (own : Nat) (h : Hp) (ins : Instr) (st : List Value) : Option (ME × List Value × List Value) := match ins with
  | .invokevirtual ix => (match lkp (poolOf own) ix with
    | some (2, k, b, _) => zCallR h k b st
    | _ => none)
  | .invokestatic ix => (match lkp (poolOf own) ix with
    | some (3, k, b, _) => zCallT k b st
    | some (6, k, b, _) => zCallT k b st
    | _ => none)
  | .invokespecial ix => (match lkp (poolOf own) ix with
    | some (4, k, b, _) => zCallR h k b st
    | some (5, k, b, _) => zCallR h k b st
    | _ => none)
  | _ => none
def isIni (me : ME) : Bool := decide (me.2.1.name = "<init>")
/-- the machine: n is the fuel -/
def zRun (scr : Option (Nat × (Nat → Int32))) : Nat → ME → Nat → LV → List Value → Hp → Option (Option Value × Hp)
  | 0, _, _, _, _, _ => none
  | n + 1, me, pc, lv, st, h => match lkp me.2.2.2.2.2.1 pc with
    | none => none
    | some (ins, len) => match zRet me.2.2.2.2.1 ins st with
      | some r => some (r, h)
      | none => match zCall me.1 h ins st with
        | some (me', as, rest) => (match zRun none n me' 0 (lv_args 0 as) [] h with
          | some (r, h') => zRun scr n me (pc + 3) lv (r.toList ++ rest) h'
          | none => none)
        | none => match zStep scr me.1 me.2.2.2.1 pc (isIni me) ins len lv st h with
          | some (pc', lv', st', h') => zRun scr n me pc' lv' st' h'
          | none => none
end
section
/-! How the abstract heap lies in the machine's: cell i at address β i; the world of the kit that it is. -/
def cv (β : Nat → Nat) (v : Value) : Value := match v with
  | .ref i => .ref (β i)
  | v => v
theorem cv_cat (β : Nat → Nat) (v : Value) : (cv β v).category = v.category := by cases v <;> rfl
theorem cv_rf (β : Nat → Nat) (r : Option Nat) : cv β (rfV r) = va_rf (r.map β) := by cases r <;> rfl
def cvL (β : Nat → Nat) (lv : LV) : LV := lv.map (fun q => (q.1, cv β q.2))
theorem cvL_put (β : Nat → Nat) (lv : LV) (i : Nat) (v : Value) : (i, cv β v) :: (cvL β lv).filter (fun q => !(q.1 == i) && !(q.1 + 1 == i && q.2.category == 2)) = cvL β (lvPut lv i v) := by
  simp only [cvL, lvPut, List.map_cons, List.filter_map, Function.comp_def, cv_cat]
theorem cvL_put2 (β : Nat → Nat) (lv : LV) (i : Nat) (v : Value) : (i, cv β v) :: (cvL β lv).filter (fun q => !(q.1 == i) && (!(q.1 == i + 1) && !(q.1 + 1 == i && q.2.category == 2))) = cvL β (lvPut2 lv i v) := by
  simp only [cvL, lvPut2, List.map_cons, List.filter_map, Function.comp_def, cv_cat]
theorem cvL_in {β : Nat → Nat} {lv : LV} {i : Nat} {v : Value} (h : lkp lv i = some v) : (i, cv β v) ∈ cvL β lv := List.mem_map.mpr ⟨(i, v), lkp_mem h, rfl⟩
theorem ldI_at {β : Nat → Nat} {lv : LV} {i nL : Nat} {x : Int32} {ls : Array Slot} (hl : lv_has ls nL (cvL β lv)) (h : ldI lv i = some x) : ls[i]? = some (.val (.int x)) := by
  unfold ldI at h
  split at h
  next y hy => cases h; exact hl.2.2 _ (cvL_in (β := β) hy)
  next => cases h
theorem ldL_at {β : Nat → Nat} {lv : LV} {i nL : Nat} {x : Int64} {ls : Array Slot} (hl : lv_has ls nL (cvL β lv)) (h : ldL lv i = some x) : ls[i]? = some (.val (.long x)) := by
  unfold ldL at h
  split at h
  next y hy => cases h; exact hl.2.2 _ (cvL_in (β := β) hy)
  next => cases h
theorem ldA_at {β : Nat → Nat} {lv : LV} {i nL : Nat} {x : Nat} {ls : Array Slot} (hl : lv_has ls nL (cvL β lv)) (h : ldA lv i = some x) : ls[i]? = some (.val (.ref (β x))) := by
  unfold ldA at h
  split at h
  next y hy => cases h; exact hl.2.2 _ (cvL_in (β := β) hy)
  next => cases h
theorem ldI_k {β : Nat → Nat} {lv : LV} {i : Nat} {x : Int32} (h : ldI lv i = some x) : ∃ k : Nat, (cvL β lv)[k]? = some (i, .int x) := by
  unfold ldI at h
  split at h
  next y hy => cases h; exact List.getElem?_of_mem (cvL_in (β := β) hy)
  next => cases h
abbrev CT := ClassId × ClassId × ClassId
def fldsOf (β : Nat → Nat) (h : Hp) (i ci : Nat) : List Value := (List.range (nF ci)).map (fun k => bif isR ci k then va_rf ((h.2.2 i k).map β) else .int (h.2.1 i k))
def cellOf (β : Nat → Nat) (cT : CT) (h : Hp) (i : Nat) : va_E := match shp[i]? with
  | some (.inl ci) => .inr (ci, fldsOf β h i ci)
  | some (.inr (0, n)) => .inl (cT.1, n, .inl (h.2.1 i))
  | some (.inr (1, n)) => .inl (cT.2.1, n, .inl (h.2.1 i))
  | some (.inr (_, n)) => .inl (cT.2.2, n, .inr (.inr (.inr (.inr (fun j => (h.2.2 i j).map β)))))
  | none => .inr (0, [])
def wsOf (β : Nat → Nat) (cT : CT) (h : Hp) : va_W := (List.range h.1).map (fun i => (β i, cellOf β cT h i))
theorem wsOf_at {β : Nat → Nat} {cT : CT} {h : Hp} {i : Nat} (hi : i < h.1) : (wsOf β cT h)[i]? = some (β i, cellOf β cT h i) := by
  simp [wsOf, hi]
theorem wsOf_lt {β : Nat → Nat} {cT : CT} {h : Hp} {i : Nat} {q : Nat × va_E} (hq : (wsOf β cT h)[i]? = some q) : i < h.1 ∧ q = (β i, cellOf β cT h i) := by
  have hi : i < h.1 := by
    have := (List.getElem?_eq_some_iff.mp hq).1
    simpa [wsOf] using this
  exact ⟨hi, Option.some.inj (hq.symm.trans (wsOf_at hi))⟩
theorem wsOf_D {β : Nat → Nat} {cT : CT} {h : Hp} {base : Nat} (hβ : ∀ i, i < h.1 → β i = base + i) : va_D (fun q => base ≤ q) (wsOf β cT h) := by
  refine ⟨fun i j x y hi hj hxy => ?_, fun k q hk => ?_⟩
  · obtain ⟨h1, rfl⟩ := wsOf_lt hi
    obtain ⟨h2, rfl⟩ := wsOf_lt hj
    have h3 : β i = β j := hxy
    rw [hβ i h1, hβ j h2] at h3
    omega
  · obtain ⟨h1, rfl⟩ := wsOf_lt hk
    show base ≤ β k
    rw [hβ k h1]
    omega
theorem wsOf_set {β : Nat → Nat} {cT : CT} {h h' : Hp} {i : Nat} (hn : h'.1 = h.1) (hs : ∀ j, j ≠ i → cellOf β cT h' j = cellOf β cT h j) : (wsOf β cT h).set i (β i, cellOf β cT h' i) = wsOf β cT h' := by
  apply List.ext_getElem?
  intro k
  rw [List.getElem?_set]
  by_cases hk : k < h.1
  · rw [wsOf_at (h := h') (by rw [hn]; exact hk), wsOf_at hk]
    by_cases hik : i = k
    · subst hik
      simp [wsOf, hk]
    · rw [if_neg hik, hs k (fun e => hik e.symm)]
  · have e1 : (wsOf β cT h)[k]? = none := by simp [wsOf]; omega
    have e2 : (wsOf β cT h')[k]? = none := by simp [wsOf]; omega
    rw [e1, e2]
    by_cases hik : i = k
    · subst hik
      simp [wsOf]; omega
    · rw [if_neg hik]
theorem wsOf_push {β : Nat → Nat} {cT : CT} {h h' : Hp} (hn : h'.1 = h.1 + 1) (hs : ∀ j, j < h.1 → cellOf β cT h' j = cellOf β cT h j) : wsOf β cT h ++ [(β h.1, cellOf β cT h' h.1)] = wsOf β cT h' := by
  unfold wsOf
  rw [hn, List.range_succ, List.map_append]
  congr 1
  apply List.map_congr_left
  intro j hj
  rw [hs j (List.mem_range.mp hj)]
/-- the cell's form by its shape -/
theorem cell_obj {β : Nat → Nat} {cT : CT} {h : Hp} {i ci : Nat} (hs : shp[i]? = some (.inl ci)) : cellOf β cT h i = .inr (ci, fldsOf β h i ci) := by
  simp [cellOf, hs]
theorem cell_a0 {β : Nat → Nat} {cT : CT} {h : Hp} {i n : Nat} (hs : shp[i]? = some (.inr (0, n))) : cellOf β cT h i = .inl (cT.1, n, .inl (h.2.1 i)) := by
  simp [cellOf, hs]
theorem cell_a1 {β : Nat → Nat} {cT : CT} {h : Hp} {i n : Nat} (hs : shp[i]? = some (.inr (1, n))) : cellOf β cT h i = .inl (cT.2.1, n, .inl (h.2.1 i)) := by
  simp [cellOf, hs]
theorem cell_a2 {β : Nat → Nat} {cT : CT} {h : Hp} {i n : Nat} (hs : shp[i]? = some (.inr (2, n))) : cellOf β cT h i = .inl (cT.2.2, n, .inr (.inr (.inr (.inr (fun j => (h.2.2 i j).map β))))) := by
  simp [cellOf, hs]
/-- a cell depends on its own slots alone -/
theorem cell_same {β : Nat → Nat} {cT : CT} {h h' : Hp} {j : Nat} (h1 : h'.2.1 j = h.2.1 j) (h2 : h'.2.2 j = h.2.2 j) : cellOf β cT h' j = cellOf β cT h j := by
  unfold cellOf fldsOf
  rw [h1, h2]
theorem isO_spec {h : Hp} {i ci : Nat} (e : isO h i ci = true) : i < h.1 ∧ shp[i]? = some (.inl ci) := by
  unfold isO at e
  rw [Bool.and_eq_true] at e
  refine ⟨by simpa using e.1, ?_⟩
  have e2 := e.2
  split at e2
  next c hc => rw [hc, Nat.eq_of_beq_eq_true e2]
  next => cases e2
theorem arrL_spec {h : Hp} {i t n : Nat} (e : arrL h i t = some n) : i < h.1 ∧ shp[i]? = some (.inr (t, n)) := by
  unfold arrL at e
  cases hb : Nat.blt i h.1 with
  | false => rw [hb] at e; cases e
  | true =>
    rw [hb] at e
    refine ⟨by simpa using hb, ?_⟩
    have e2 : (match shp[i]? with
      | some (.inr (t', n)) => bif Nat.beq t' t then some n else none
      | _ => none) = some n := e
    split at e2
    next t' m hm =>
      cases hb2 : Nat.beq t' t with
      | false => rw [hb2] at e2; cases e2
      | true => rw [hb2] at e2; cases e2; rw [hm, Nat.eq_of_beq_eq_true hb2]
    next => cases e2
theorem inB_spec {j : Int32} {n : Nat} (e : inB j n = true) : vp_in j n := by
  unfold inB at e
  rw [Bool.and_eq_true] at e
  have e1 : 0 ≤ j.toInt := by simpa using e.1
  have e2 : j.toNatClampNeg < n := by simpa using e.2
  rintro (h | h)
  · have := Int32.lt_iff_toInt_lt.mp h
    rw [Int32.toInt_zero] at this
    omega
  · omega
theorem nonneg_of {j : Int32} (e : 0 ≤ j.toInt) : ¬ j < 0 := by
  intro h
  have := Int32.lt_iff_toInt_lt.mp h
  rw [Int32.toInt_zero] at this
  omega
theorem shp_len : shp.length = 83 := by decide +kernel
theorem shp_lt {i : Nat} {x : Nat ⊕ Nat × Nat} (h : shp[i]? = some x) : i < 83 := by
  have := (List.getElem?_eq_some_iff.mp h).1
  rw [shp_len] at this
  exact this
theorem szS_succ {n : Nat} {x : Nat ⊕ Nat × Nat} (h : shp[n]? = some x) : szS (n + 1) = szS n + slN x := by
  unfold szS
  rw [List.take_add_one, h, List.map_append, List.sum_append]
  simp
theorem szS_mono {a b : Nat} (h : a ≤ b) : szS a ≤ szS b := by
  induction b with
  | zero => rw [Nat.le_zero.mp h]; exact Nat.le_refl _
  | succ b ih =>
    by_cases hb : a ≤ b
    · refine Nat.le_trans (ih hb) ?_
      cases hx : shp[b]? with
      | none => unfold szS; rw [List.take_add_one, hx]; simp
      | some x => rw [szS_succ hx]; omega
    · rw [show a = b + 1 by omega]; exact Nat.le_refl _
theorem flds_len (β : Nat → Nat) (h : Hp) (i ci : Nat) : (fldsOf β h i ci).length = nF ci := by simp [fldsOf]
theorem flds_at {β : Nat → Nat} {h : Hp} {i ci k : Nat} (hk : k < nF ci) : (fldsOf β h i ci)[k]? = some (cv β (bif isR ci k then rfV (h.2.2 i k) else .int (h.2.1 i k))) := by
  simp only [fldsOf, List.getElem?_map, List.getElem?_range hk, Option.map_some]
  cases isR ci k with
  | true => simp [cv_rf]
  | false => rfl
theorem flds_setI {β : Nat → Nat} {h : Hp} {i ci k : Nat} {x : Int32} (hr : isR ci k = false) : (fldsOf β h i ci).set k (.int x) = fldsOf β (h.1, up2 h.2.1 i k x, h.2.2) i ci := by
  apply List.ext_getElem?
  intro j
  rw [List.getElem?_set]
  by_cases hj : j < nF ci
  · rw [flds_at hj]
    by_cases hkj : k = j
    · subst hkj
      rw [if_pos rfl, if_pos (by rw [flds_len]; exact hj)]
      simp [fldsOf, List.getElem?_range hj, hr, up2]
    · rw [if_neg hkj]
      have hjk : j ≠ k := fun e => hkj e.symm
      simp only [fldsOf, List.getElem?_map, List.getElem?_range hj, Option.map_some]
      cases isR ci j with
      | true => simp [cv_rf]
      | false => simp [cv, up2, hjk]
  · have e1 : ∀ h2 : Hp, (fldsOf β h2 i ci)[j]? = none := fun h2 => List.getElem?_eq_none (by rw [flds_len]; omega)
    rw [e1, e1]
    by_cases hkj : k = j
    · subst hkj
      rw [if_pos rfl, if_neg (by rw [flds_len]; omega)]
    · rw [if_neg hkj]
theorem flds_setR {β : Nat → Nat} {h : Hp} {i ci k : Nat} {x : Nat} (hr : isR ci k = true) : (fldsOf β h i ci).set k (.ref (β x)) = fldsOf β (h.1, h.2.1, up2 h.2.2 i k (some x)) i ci := by
  apply List.ext_getElem?
  intro j
  rw [List.getElem?_set]
  by_cases hj : j < nF ci
  · rw [flds_at hj]
    by_cases hkj : k = j
    · subst hkj
      rw [if_pos rfl, if_pos (by rw [flds_len]; exact hj)]
      simp [fldsOf, List.getElem?_range hj, hr, up2, va_rf]
    · rw [if_neg hkj]
      have hjk : j ≠ k := fun e => hkj e.symm
      simp only [fldsOf, List.getElem?_map, List.getElem?_range hj, Option.map_some]
      cases isR ci j with
      | true => simp [cv_rf, up2, hjk]
      | false => simp [cv]
  · have e1 : ∀ h2 : Hp, (fldsOf β h2 i ci)[j]? = none := fun h2 => List.getElem?_eq_none (by rw [flds_len]; omega)
    rw [e1, e1]
    by_cases hkj : k = j
    · subst hkj
      rw [if_pos rfl, if_neg (by rw [flds_len]; omega)]
    · rw [if_neg hkj]
theorem up2_ne {α : Type} {f : Nat → Nat → α} {i j a : Nat} {v : α} (h : a ≠ i) : up2 f i j v a = f a := by
  unfold up2
  rw [if_neg h]
theorem up2_eq {f : Nat → Nat → Int32} {i j : Nat} {v : Int32} : up2 f i j v i = upd (f i) j v := by
  unfold up2
  rw [if_pos rfl]
  rfl
end
section
/-! The classes' own facts; what a state's tables hold; contexts. -/
theorem mem_gTbl_of {ws : List Cond} (h : ws.all (fun w => goodWord w && decide (w ∈ lw_tbl)) = true) : ∀ w ∈ ws, w ∈ gTbl := by
  intro w hw
  have h1 := List.all_eq_true.mp h w hw
  rw [Bool.and_eq_true] at h1
  exact List.mem_filter.mpr ⟨by simpa using h1.2, h1.1⟩
theorem inG_0 : ∀ w ∈ u_ws RX0 TX0 5, w ∈ gTbl := mem_gTbl_of (by decide +kernel)
theorem inG_1 : ∀ w ∈ u_ws RX1 TX1 3, w ∈ gTbl := mem_gTbl_of (by decide +kernel)
theorem inG_2 : ∀ w ∈ u_ws RX2 TX2 17, w ∈ gTbl := mem_gTbl_of (by decide +kernel)
theorem inG_3 : ∀ w ∈ u_ws RX3 TX3 2, w ∈ gTbl := mem_gTbl_of (by decide +kernel)
theorem inG_4 : ∀ w ∈ u_ws RX4 TX4 3, w ∈ gTbl := mem_gTbl_of (by decide +kernel)
theorem inG_5 : ∀ w ∈ u_ws RX5 TX5 3, w ∈ gTbl := mem_gTbl_of (by decide +kernel)
theorem inG_6 : ∀ w ∈ u_ws RX6 TX6 4, w ∈ gTbl := mem_gTbl_of (by decide +kernel)
theorem inG_7 : ∀ w ∈ u_ws RX7 TX7 2, w ∈ gTbl := mem_gTbl_of (by decide +kernel)
theorem inG_8 : ∀ w ∈ u_ws RX8 TX8 14, w ∈ gTbl := mem_gTbl_of (by decide +kernel)
theorem inG_9 : ∀ w ∈ u_ws RX9 TX9 36, w ∈ gTbl := mem_gTbl_of (by decide +kernel)
/-- of a class of the tables: its words, the types of its fields, which are references, which are final -/
def clsP (ci : Nat) (C : String) (T : u_T) (N : Nat) (ty : Nat → FieldType) : Prop :=
  (∀ w ∈ u_ws C T N, w ∈ gTbl) ∧ N = nF ci ∧ C = ownN ci ∧ (∀ k, k < N → parseFieldDescriptor (T k).2.2.1 = some (ty k)) ∧ (∀ a, a < N → ∀ b, b < N → a ≠ b → (T a).2.1 ≠ (T b).2.1) ∧
  ∀ k, k < N → (T k).1 = C ∧ (T k).2.2.2 = finF ci k ∧ (isR ci k = false → ty k = .int) ∧ (isR ci k = true → ty k = .array .int ∨ ty k = .array .byte ∨ ∃ c, ty k = .object c ∨ ty k = .array (.object c))
def fldB (ci : Nat) (C : String) (T : u_T) (ty : Nat → FieldType) (k : Nat) : Bool :=
  decide ((T k).1 = C) && decide ((T k).2.2.2 = finF ci k) && (bif isR ci k then (match ty k with
    | .array .int => true
    | .array .byte => true
    | .object _ => true
    | .array (.object _) => true
    | _ => false) else decide (ty k = .int))
theorem fldB_use {ci : Nat} {C : String} {T : u_T} {ty : Nat → FieldType} {k : Nat} (h : fldB ci C T ty k = true) : (T k).1 = C ∧ (T k).2.2.2 = finF ci k ∧ (isR ci k = false → ty k = .int) ∧ (isR ci k = true → ty k = .array .int ∨ ty k = .array .byte ∨ ∃ c, ty k = .object c ∨ ty k = .array (.object c)) := by
  unfold fldB at h
  rw [Bool.and_eq_true, Bool.and_eq_true] at h
  obtain ⟨⟨h1, h2⟩, h3⟩ := h
  refine ⟨by simpa using h1, by simpa using h2, fun e => ?_, fun e => ?_⟩
  · rw [e] at h3
    simpa using h3
  · rw [e] at h3
    replace h3 : (match ty k with
      | .array .int => true
      | .array .byte => true
      | .object _ => true
      | .array (.object _) => true
      | _ => false) = true := h3
    split at h3
    next e1 => exact Or.inl e1
    next e1 => exact Or.inr (Or.inl e1)
    next c e1 => exact Or.inr (Or.inr ⟨c, Or.inl e1⟩)
    next c e1 => exact Or.inr (Or.inr ⟨c, Or.inr e1⟩)
    next => cases h3
theorem fldB_all {ci : Nat} {C : String} {T : u_T} {ty : Nat → FieldType} {N : Nat} (h : (List.range N).all (fldB ci C T ty) = true) : ∀ k, k < N → (T k).1 = C ∧ (T k).2.2.2 = finF ci k ∧ (isR ci k = false → ty k = .int) ∧ (isR ci k = true → ty k = .array .int ∨ ty k = .array .byte ∨ ∃ c, ty k = .object c ∨ ty k = .array (.object c)) :=
  fun k hk => fldB_use (List.all_eq_true.mp h k (List.mem_range.mpr hk))
theorem cls_0 : clsP 0 RX0 TX0 5 tyX0 := ⟨inG_0, by decide +kernel, rfl, tyX0_ok, nmX0, fldB_all (by decide +kernel)⟩
theorem cls_1 : clsP 1 RX1 TX1 3 tyX1 := ⟨inG_1, by decide +kernel, rfl, tyX1_ok, nmX1, fldB_all (by decide +kernel)⟩
theorem cls_2 : clsP 2 RX2 TX2 17 tyX2 := ⟨inG_2, by decide +kernel, rfl, tyX2_ok, nmX2, fldB_all (by decide +kernel)⟩
theorem cls_3 : clsP 3 RX3 TX3 2 tyX3 := ⟨inG_3, by decide +kernel, rfl, tyX3_ok, nmX3, fldB_all (by decide +kernel)⟩
theorem cls_4 : clsP 4 RX4 TX4 3 tyX4 := ⟨inG_4, by decide +kernel, rfl, tyX4_ok, nmX4, fldB_all (by decide +kernel)⟩
theorem cls_5 : clsP 5 RX5 TX5 3 tyX5 := ⟨inG_5, by decide +kernel, rfl, tyX5_ok, nmX5, fldB_all (by decide +kernel)⟩
theorem cls_6 : clsP 6 RX6 TX6 4 tyX6 := ⟨inG_6, by decide +kernel, rfl, tyX6_ok, nmX6, fldB_all (by decide +kernel)⟩
theorem cls_7 : clsP 7 RX7 TX7 2 tyX7 := ⟨inG_7, by decide +kernel, rfl, tyX7_ok, nmX7, fldB_all (by decide +kernel)⟩
theorem cls_8 : clsP 8 RX8 TX8 14 tyX8 := ⟨inG_8, by decide +kernel, rfl, tyX8_ok, nmX8, fldB_all (by decide +kernel)⟩
theorem cls_9 : clsP 9 RX9 TX9 36 tyX9 := ⟨inG_9, by decide +kernel, rfl, tyX9_ok, nmX9, fldB_all (by decide +kernel)⟩
theorem cls_ok {ci : Nat} {C : String} {T : u_T} {N : Nat} (h : vwCl[ci]? = some (C, T, N)) : ∃ ty, clsP ci C T N ty := by
  match ci, h with
  | 0, h => cases h; exact ⟨_, cls_0⟩
  | 1, h => cases h; exact ⟨_, cls_1⟩
  | 2, h => cases h; exact ⟨_, cls_2⟩
  | 3, h => cases h; exact ⟨_, cls_3⟩
  | 4, h => cases h; exact ⟨_, cls_4⟩
  | 5, h => cases h; exact ⟨_, cls_5⟩
  | 6, h => cases h; exact ⟨_, cls_6⟩
  | 7, h => cases h; exact ⟨_, cls_7⟩
  | 8, h => cases h; exact ⟨_, cls_8⟩
  | 9, h => cases h; exact ⟨_, cls_9⟩
  | n + 10, h => cases h
theorem cls_of_shp {i ci : Nat} (h : shp[i]? = some (.inl ci)) : ∃ C T N, vwCl[ci]? = some (C, T, N) := by
  have h1 : shp.all (fun x => match x with
    | .inl c => Nat.blt c 10
    | .inr (t, n) => Nat.blt t 3 && Nat.ble n 400) = true := by decide +kernel
  have h2 := List.all_eq_true.mp h1 _ (List.mem_of_getElem? h)
  have h3 : ci < 10 := by simpa using h2
  have h4 : ci < vwCl.length := h3
  obtain ⟨C, T, N⟩ := vwCl[ci]'h4
  exact ⟨_, _, _, List.getElem?_eq_getElem h4⟩
theorem arr_of_shp {i t n : Nat} (h : shp[i]? = some (.inr (t, n))) : t < 3 ∧ n ≤ 400 := by
  have h1 : shp.all (fun x => match x with
    | .inl c => Nat.blt c 10
    | .inr (t, n) => Nat.blt t 3 && Nat.ble n 400) = true := by decide +kernel
  have h2 := List.all_eq_true.mp h1 _ (List.mem_of_getElem? h)
  replace h2 : (Nat.blt t 3 && Nat.ble n 400) = true := h2
  rw [Bool.and_eq_true] at h2
  exact ⟨by simpa using h2.1, by simpa using h2.2⟩
def isNest (w : Cond) : Bool := match w with
  | .fieldLinkNest _ _ _ _ _ _ => true
  | .methodLinkNest _ _ _ _ => true
  | _ => false
theorem nW_nest : nW.all isNest = true := by decide +kernel
theorem nest_warm {w : Cond} (hw : w ∈ nW) {s U : State} (hW : s.WarmedH U.vm) (h : va_Nw w s) : va_Nw w U := by
  have h1 := List.all_eq_true.mp nW_nest w hw
  unfold isNest at h1
  split at h1
  next => exact va_Nw.warmF hW h
  next => exact va_Nw.warmM hW h
  next => cases h1
theorem nest_calling {w : Cond} (hw : w ∈ nW) {U V : State} (hV : U.vm = V.vm) (h : va_Nw w U) : va_Nw w V := by
  have h1 := List.all_eq_true.mp nW_nest w hw
  unfold isNest at h1
  split at h1
  next => exact va_tabs rfl hV h
  next => exact va_tabs rfl hV h
  next => cases h1
/-- what is known of a state's tables -/
def KK (D : va_G) (cT : CT) (U : State) : Prop := va_K D vwCl [(cT.1, .int), (cT.2.1, .byte), (cT.2.2, .object RX5)] U ∧ (∀ w ∈ nW, va_Nw w U) ∧ va_AO RX5 U
theorem KK.moved {D : va_G} {cT : CT} {s U : State} (hW : s.WarmedH U.vm) (h : KK D cT s) : KK D cT U :=
  ⟨va_K.moved hW.alike h.1, fun w hw => nest_warm hw hW (h.2.1 w hw), va_AO.moved hW.alike h.2.2⟩
theorem KK.calling {D : va_G} {cT : CT} {U : State} (g : JFrame) (mk : MethodId) (a : Array Value) (h : KK D cT U) : KK D cT (U.calling g mk a) :=
  ⟨va_K.moved (u := U) (U := U.calling g mk a) (Vm.Alike.refl U.vm) h.1, fun w hw => nest_calling (U := U) (V := U.calling g mk a) hw rfl (h.2.1 w hw), va_AO.moved (u := U) (U := U.calling g mk a) (Vm.Alike.refl U.vm) h.2.2⟩
/-- the machine in the middle of a method of the table -/
def Ctx (p : Program) (s : State) (m : MethodId) (args : Array Value) (meth : Method) (c : Code) (D : va_G) (cT : CT) (base : Nat) (me : ME) (Ts : List Cond) (n0 : Nat) : Prop :=
  p.tables.exec = Jvm.exec ∧ c.code = me.2.2.1 ∧ c.maxLocals = me.2.2.2.1 ∧ s.vm.findClass (ownN me.1) = some m.cls ∧ (∀ w ∈ Ts, w.before args s = true) ∧ (∀ w ∈ gTbl, w ∈ Ts) ∧ KK D cT s ∧ s.heap.size = base + n0 ∧ mOK me ∧ (isIni me = true → meth.name = "<init>")
def ScrOK (scr : Option (Nat × (Nat → Int32))) (β : Nat → Nat) (s : State) (base : Nat) : Prop := ∀ L xs, scr = some (L, xs) → va_X (β sId) L xs s s.heap ∧ β sId < s.heap.size ∧ β sId < base
/-- of the heap: no more cells than were made -/
theorem W_size {p : Program} {l : Launch} {e : Env} {R : Room} {s : State} {m : MethodId} {args : Array Value} {below : List Frame} {meth : Method} {c : Code} {H : Heap} {locs : List Loc} {cells slots : Nat} {Q : State → Prop} {g : JFrame} (h : H.size ≤ s.heap.size + cells → W p l e R s m args below meth c H locs cells slots Q g) : W p l e R s m args below meth c H locs cells slots Q g := by
  intro T hT X
  have h1 : T.heap.size ≤ s.heap.size + cells := X.same.2.2.1
  rw [hT] at h1
  exact h h1 T hT X
end
section
/-! What an entry of a pool says. -/
theorem pool_fld {own ix ci k : Nat} {v : Int} (h : lkp (poolOf own) ix = some (0, ci, k, v)) : ∃ C T N, vwCl[ci]? = some (C, T, N) ∧ k < N ∧ Cond.fieldLink (ownN own) ix (T k).1 (T k).2.1 (T k).2.2.1 ∈ gTbl := by
  obtain ⟨ps, h⟩ := pool_ok h
  simp only [pOKb] at h
  split at h
  next a =>
    unfold pFld at h
    split at h
    next C T N hc =>
      rw [Bool.and_eq_true] at h
      exact ⟨C, T, N, hc, by simpa using h.1, inT_mem h.2⟩
    next => cases h
  next => cases h
theorem pool_fldN {own ix ci k : Nat} {v : Int} (h : lkp (poolOf own) ix = some (1, ci, k, v)) : ∃ C T N, vwCl[ci]? = some (C, T, N) ∧ k < N ∧ Cond.fieldLinkNest (ownN own) ix (T k).1 (T k).2.1 (T k).2.2.1 "SandBank" ∈ nW := by
  obtain ⟨ps, h⟩ := pool_ok h
  simp only [pOKb] at h
  unfold pFld at h
  split at h
  next C T N hc =>
    rw [Bool.and_eq_true] at h
    exact ⟨C, T, N, hc, by simpa using h.1, by simpa using h.2⟩
  next => cases h
def meP (k b : Nat) (me : ME) : Prop := MT[k]? = some me ∧ me.2.1.cls ≠ "java/lang/invoke/MethodHandle" ∧ me.2.1.cls ≠ "java/lang/invoke/VarHandle" ∧ (parseMethodDescriptor me.2.1.desc).map (fun d => d.parameters.length) = some b ∧ Cond.initialized me.2.1.cls ∈ gTbl ∧ Cond.code me.2.1 me.2.2.1 me.2.2.2.1 me.2.2.2.2.1 ∈ gTbl
theorem pMe_use {k b : Nat} {f : ME → Bool} (h : pMe k b f = true) : ∃ me, MT[k]? = some me ∧ me.2.1.cls ≠ "java/lang/invoke/MethodHandle" ∧ me.2.1.cls ≠ "java/lang/invoke/VarHandle" ∧ (parseMethodDescriptor me.2.1.desc).map (fun d => d.parameters.length) = some b ∧ f me = true := by
  unfold pMe at h
  split at h
  next me hm =>
    rw [Bool.and_eq_true, Bool.and_eq_true, Bool.and_eq_true] at h
    obtain ⟨⟨⟨h1, h2⟩, h3⟩, h4⟩ := h
    exact ⟨me, hm, by simpa using h1, by simpa using h2, by simpa using h3, h4⟩
  next => cases h
theorem pool_V {own ix k b : Nat} {v : Int} (h : lkp (poolOf own) ix = some (2, k, b, v)) : ∃ me, meP k b me ∧ Cond.methodLink (ownN own) ix me.2.1 ∈ gTbl ∧ Cond.instanceMethod me.2.1 ∈ gTbl ∧ Cond.selects me.2.1.cls me.2.1 me.2.1 ∈ gTbl := by
  obtain ⟨ps, h⟩ := pool_ok h
  simp only [pOKb] at h
  split at h
  next a b' c d g =>
    obtain ⟨me, h0, h1, h2, h3, h4⟩ := pMe_use h
    simp only [Bool.and_eq_true] at h4
    obtain ⟨⟨⟨⟨w1, w2⟩, w3⟩, w4⟩, w5⟩ := h4
    exact ⟨me, ⟨h0, h1, h2, h3, inT_mem w4, inT_mem w5⟩, inT_mem w1, inT_mem w2, inT_mem w3⟩
  next => cases h
theorem pool_S {own ix k b : Nat} {v : Int} (h : lkp (poolOf own) ix = some (3, k, b, v)) : ∃ me, meP k b me ∧ Cond.methodLink (ownN own) ix me.2.1 ∈ gTbl ∧ Cond.static me.2.1 ∈ gTbl := by
  obtain ⟨ps, h⟩ := pool_ok h
  simp only [pOKb] at h
  split at h
  next a b' d g =>
    obtain ⟨me, h0, h1, h2, h3, h4⟩ := pMe_use h
    simp only [Bool.and_eq_true] at h4
    obtain ⟨⟨⟨w1, w2⟩, w4⟩, w5⟩ := h4
    exact ⟨me, ⟨h0, h1, h2, h3, inT_mem w4, inT_mem w5⟩, inT_mem w1, inT_mem w2⟩
  next => cases h
theorem pool_SN {own ix k b : Nat} {v : Int} (h : lkp (poolOf own) ix = some (6, k, b, v)) : ∃ me, meP k b me ∧ Cond.methodLinkNest (ownN own) ix me.2.1 "SandBank" ∈ nW ∧ Cond.static me.2.1 ∈ gTbl := by
  obtain ⟨ps, h⟩ := pool_ok h
  simp only [pOKb] at h
  split at h
  next a b' d g =>
    obtain ⟨me, h0, h1, h2, h3, h4⟩ := pMe_use h
    simp only [Bool.and_eq_true] at h4
    obtain ⟨⟨⟨w1, w2⟩, w4⟩, w5⟩ := h4
    exact ⟨me, ⟨h0, h1, h2, h3, inT_mem w4, inT_mem w5⟩, by simpa using w1, inT_mem w2⟩
  next => cases h
theorem pool_I {own ix k b : Nat} {v : Int} (h : lkp (poolOf own) ix = some (4, k, b, v)) : ∃ me, meP k b me ∧ Cond.methodLink (ownN own) ix me.2.1 ∈ gTbl ∧ Cond.instanceMethod me.2.1 ∈ gTbl ∧ me.2.1.name = "<init>" ∧ me.2.2.2.2.1 = none := by
  obtain ⟨ps, h⟩ := pool_ok h
  simp only [pOKb] at h
  split at h
  next a b' d g =>
    obtain ⟨me, h0, h1, h2, h3, h4⟩ := pMe_use h
    simp only [Bool.and_eq_true] at h4
    obtain ⟨⟨⟨⟨⟨w1, w2⟩, w4⟩, w5⟩, w6⟩, w7⟩ := h4
    exact ⟨me, ⟨h0, h1, h2, h3, inT_mem w4, inT_mem w5⟩, inT_mem w1, inT_mem w2, by simpa using w6, by simpa using w7⟩
  next => cases h
theorem pool_IN {own ix k b : Nat} {v : Int} (h : lkp (poolOf own) ix = some (5, k, b, v)) : ∃ me, meP k b me ∧ Cond.methodLinkNest (ownN own) ix me.2.1 "SandBank" ∈ nW ∧ Cond.instanceMethod me.2.1 ∈ gTbl ∧ me.2.1.name = "<init>" ∧ me.2.2.2.2.1 = none := by
  obtain ⟨ps, h⟩ := pool_ok h
  simp only [pOKb] at h
  split at h
  next a b' d g =>
    obtain ⟨me, h0, h1, h2, h3, h4⟩ := pMe_use h
    simp only [Bool.and_eq_true] at h4
    obtain ⟨⟨⟨⟨⟨w1, w2⟩, w4⟩, w5⟩, w6⟩, w7⟩ := h4
    exact ⟨me, ⟨h0, h1, h2, h3, inT_mem w4, inT_mem w5⟩, by simpa using w1, inT_mem w2, by simpa using w6, by simpa using w7⟩
  next => cases h
theorem pool_O {own ix a b : Nat} {v : Int} (h : lkp (poolOf own) ix = some (7, a, b, v)) : Cond.methodLink (ownN own) ix Lib.objectInit ∈ gTbl ∧ Cond.instanceMethod Lib.objectInit ∈ gTbl ∧ Cond.code Lib.objectInit ⟨#[0xb1]⟩ 1 none ∈ gTbl := by
  obtain ⟨ps, h⟩ := pool_ok h
  simp only [pOKb] at h
  split at h
  next =>
    simp only [Bool.and_eq_true] at h
    exact ⟨inT_mem h.1.1, inT_mem h.1.2, inT_mem h.2⟩
  next => cases h
theorem pool_A {own ix a b : Nat} {v : Int} (h : lkp (poolOf own) ix = some (8, a, b, v)) : Cond.methodLink (ownN own) ix arraycopyName ∈ gTbl ∧ Cond.native arraycopyName ∈ gTbl ∧ Cond.static arraycopyName ∈ gTbl ∧ Cond.initialized "java/lang/System" ∈ gTbl := by
  obtain ⟨ps, h⟩ := pool_ok h
  simp only [pOKb] at h
  split at h
  next =>
    simp only [Bool.and_eq_true] at h
    exact ⟨inT_mem h.1.1.1, inT_mem h.1.1.2, inT_mem h.1.2, inT_mem h.2⟩
  next => cases h
theorem pool_max {own ix a b : Nat} {v : Int} (h : lkp (poolOf own) ix = some (13, a, b, v)) : Cond.methodLink (ownN own) ix Lib.Math.max.name ∈ gTbl ∧ Cond.static Lib.Math.max.name ∈ gTbl ∧ Cond.initialized "java/lang/Math" ∈ gTbl ∧ Cond.code Lib.Math.max.name Lib.Math.max.code 2 (some .int) ∈ gTbl := by
  obtain ⟨ps, h⟩ := pool_ok h
  simp only [pOKb] at h
  split at h
  next =>
    simp only [Bool.and_eq_true] at h
    exact ⟨inT_mem h.1.1.1, inT_mem h.1.1.2, inT_mem h.1.2, inT_mem h.2⟩
  next => cases h
theorem pool_min {own ix a b : Nat} {v : Int} (h : lkp (poolOf own) ix = some (14, a, b, v)) : Cond.methodLink (ownN own) ix Lib.Math.min.name ∈ gTbl ∧ Cond.static Lib.Math.min.name ∈ gTbl ∧ Cond.initialized "java/lang/Math" ∈ gTbl ∧ Cond.code Lib.Math.min.name Lib.Math.min.code 2 (some .int) ∈ gTbl := by
  obtain ⟨ps, h⟩ := pool_ok h
  simp only [pOKb] at h
  split at h
  next =>
    simp only [Bool.and_eq_true] at h
    exact ⟨inT_mem h.1.1.1, inT_mem h.1.1.2, inT_mem h.1.2, inT_mem h.2⟩
  next => cases h
theorem pool_c {own ix a b : Nat} {v : Int} (h : lkp (poolOf own) ix = some (9, a, b, v)) : Cond.constant (ownN own) ix (Int32.ofInt v) ∈ gTbl := by
  obtain ⟨ps, h⟩ := pool_ok h
  simp only [pOKb] at h
  split at h
  next => exact inT_mem h
  next => cases h
theorem pool_cL {own ix a b : Nat} {v : Int} (h : lkp (poolOf own) ix = some (10, a, b, v)) : Cond.constantLong (ownN own) ix (Int64.ofInt v) ∈ gTbl := by
  obtain ⟨ps, h⟩ := pool_ok h
  simp only [pOKb] at h
  split at h
  next => exact inT_mem h
  next => cases h
theorem pool_N {own ix ci b : Nat} {v : Int} (h : lkp (poolOf own) ix = some (11, ci, b, v)) : ∃ C T N, vwCl[ci]? = some (C, T, N) ∧ Cond.classLink (ownN own) ix C ∈ gTbl ∧ Cond.instantiable C N ∈ gTbl ∧ Cond.initialized C ∈ gTbl := by
  obtain ⟨ps, h⟩ := pool_ok h
  simp only [pOKb] at h
  split at h
  next C T N hc =>
    split at h
    next =>
      simp only [Bool.and_eq_true] at h
      exact ⟨C, T, N, hc, inT_mem h.1.1, inT_mem h.1.2, inT_mem h.2⟩
    next => cases h
  next => cases h
theorem jmp_spec {pc t : Nat} {off : Int} (h : jmp pc off = some t) : (pc : Int) + off = (t : Int) := by
  unfold jmp at h
  split at h
  next a ha => cases h; exact ha
  next => cases h
end
section
/-! Each instruction of zStep is a step of the machine (heads written by wip/whole/gen8.py). -/
set_option maxHeartbeats 1000000 in
theorem zs_iconst (i : Int) {p : Program} {l : Launch} {e : Env} {R : Room} {s : State} {m : MethodId} {args : Array Value} {below : List Frame} {meth : Method} {c : Code} {D : va_G} {cT : CT} {β : Nat → Nat} {base : Nat} {me : ME} {Ts : List Cond} {n0 : Nat} {scr : Option (Nat × (Nat → Int32))} (C : Ctx p s m args meth c D cT base me Ts n0) (hsc : ScrOK scr β s base) (hβ : ∀ i, i < 4096 → β i = base + i) {pc len : Nat} {lv lv' : LV} {st st' : List Value} {h h2 : Hp} {pc' : Nat} (hs : zStep scr me.1 me.2.2.2.1 pc (isIni me) (.iconst i) len lv st h = some (pc', lv', st', h2)) (hd : decode me.2.2.1 pc = .ok (.iconst i, len)) (hlen : lenOK (.iconst i) len = true) (hroom : rOKb me (pc, .iconst i, len) = true) (hR : (me.2.2.2.2.2.2.1 ≤ R.frames ∧ me.2.2.2.2.2.2.2 ≤ R.locals) ∧ h2.1 - n0 ≤ R.cells ∧ szS h2.1 - szS n0 ≤ R.slots) (hn0 : n0 ≤ h.1) (h83 : h.1 ≤ 83) {H : Heap} {locs : List Loc} {ls : Array Slot} {Q : State → Prop} (hl : lv_has ls me.2.2.2.1 (cvL β lv)) (hP : va_P D vwCl (wsOf β cT h) H) (hS : va_S (fun q => base ≤ q) s.heap H locs)
    (K : ∀ (H' : Heap) (locs' : List Loc) (ls' : Array Slot), lv_has ls' me.2.2.2.1 (cvL β lv') → va_P D vwCl (wsOf β cT h2) H' → va_S (fun q => base ≤ q) s.heap H' locs' → W p l e R s m args below meth c H' locs' (h2.1 - n0) (szS h2.1 - szS n0) Q (F0 m pc' ls' (st'.map (cv β)))) :
    W p l e R s m args below meth c H locs (h.1 - n0) (szS h.1 - szS n0) Q (F0 m pc ls (st.map (cv β))) := by
  obtain ⟨hx, hb, hml, hown, hts, hG, hK, hsz, hmk, hini⟩ := C
  have hlen1 : len = 1 := Nat.eq_of_beq_eq_true hlen
  subst hlen1
  replace hs : (some (pc + 1, lv, .int (Int32.ofInt i) :: st, h)) = some (pc', lv', st', h2) := hs
  cases hs
  exact lv_iconst hx hb hd rfl (K _ _ _ hl hP hS)
set_option maxHeartbeats 1000000 in
theorem zs_bipush (i : Int) {p : Program} {l : Launch} {e : Env} {R : Room} {s : State} {m : MethodId} {args : Array Value} {below : List Frame} {meth : Method} {c : Code} {D : va_G} {cT : CT} {β : Nat → Nat} {base : Nat} {me : ME} {Ts : List Cond} {n0 : Nat} {scr : Option (Nat × (Nat → Int32))} (C : Ctx p s m args meth c D cT base me Ts n0) (hsc : ScrOK scr β s base) (hβ : ∀ i, i < 4096 → β i = base + i) {pc len : Nat} {lv lv' : LV} {st st' : List Value} {h h2 : Hp} {pc' : Nat} (hs : zStep scr me.1 me.2.2.2.1 pc (isIni me) (.bipush i) len lv st h = some (pc', lv', st', h2)) (hd : decode me.2.2.1 pc = .ok (.bipush i, len)) (hlen : lenOK (.bipush i) len = true) (hroom : rOKb me (pc, .bipush i, len) = true) (hR : (me.2.2.2.2.2.2.1 ≤ R.frames ∧ me.2.2.2.2.2.2.2 ≤ R.locals) ∧ h2.1 - n0 ≤ R.cells ∧ szS h2.1 - szS n0 ≤ R.slots) (hn0 : n0 ≤ h.1) (h83 : h.1 ≤ 83) {H : Heap} {locs : List Loc} {ls : Array Slot} {Q : State → Prop} (hl : lv_has ls me.2.2.2.1 (cvL β lv)) (hP : va_P D vwCl (wsOf β cT h) H) (hS : va_S (fun q => base ≤ q) s.heap H locs)
    (K : ∀ (H' : Heap) (locs' : List Loc) (ls' : Array Slot), lv_has ls' me.2.2.2.1 (cvL β lv') → va_P D vwCl (wsOf β cT h2) H' → va_S (fun q => base ≤ q) s.heap H' locs' → W p l e R s m args below meth c H' locs' (h2.1 - n0) (szS h2.1 - szS n0) Q (F0 m pc' ls' (st'.map (cv β)))) :
    W p l e R s m args below meth c H locs (h.1 - n0) (szS h.1 - szS n0) Q (F0 m pc ls (st.map (cv β))) := by
  obtain ⟨hx, hb, hml, hown, hts, hG, hK, hsz, hmk, hini⟩ := C
  have hlen1 : len = 2 := Nat.eq_of_beq_eq_true hlen
  subst hlen1
  replace hs : (some (pc + 2, lv, .int (Int8.ofInt i).toInt32 :: st, h)) = some (pc', lv', st', h2) := hs
  cases hs
  exact lv_bipush hx hb hd rfl (K _ _ _ hl hP hS)
set_option maxHeartbeats 1000000 in
theorem zs_sipush (i : Int) {p : Program} {l : Launch} {e : Env} {R : Room} {s : State} {m : MethodId} {args : Array Value} {below : List Frame} {meth : Method} {c : Code} {D : va_G} {cT : CT} {β : Nat → Nat} {base : Nat} {me : ME} {Ts : List Cond} {n0 : Nat} {scr : Option (Nat × (Nat → Int32))} (C : Ctx p s m args meth c D cT base me Ts n0) (hsc : ScrOK scr β s base) (hβ : ∀ i, i < 4096 → β i = base + i) {pc len : Nat} {lv lv' : LV} {st st' : List Value} {h h2 : Hp} {pc' : Nat} (hs : zStep scr me.1 me.2.2.2.1 pc (isIni me) (.sipush i) len lv st h = some (pc', lv', st', h2)) (hd : decode me.2.2.1 pc = .ok (.sipush i, len)) (hlen : lenOK (.sipush i) len = true) (hroom : rOKb me (pc, .sipush i, len) = true) (hR : (me.2.2.2.2.2.2.1 ≤ R.frames ∧ me.2.2.2.2.2.2.2 ≤ R.locals) ∧ h2.1 - n0 ≤ R.cells ∧ szS h2.1 - szS n0 ≤ R.slots) (hn0 : n0 ≤ h.1) (h83 : h.1 ≤ 83) {H : Heap} {locs : List Loc} {ls : Array Slot} {Q : State → Prop} (hl : lv_has ls me.2.2.2.1 (cvL β lv)) (hP : va_P D vwCl (wsOf β cT h) H) (hS : va_S (fun q => base ≤ q) s.heap H locs)
    (K : ∀ (H' : Heap) (locs' : List Loc) (ls' : Array Slot), lv_has ls' me.2.2.2.1 (cvL β lv') → va_P D vwCl (wsOf β cT h2) H' → va_S (fun q => base ≤ q) s.heap H' locs' → W p l e R s m args below meth c H' locs' (h2.1 - n0) (szS h2.1 - szS n0) Q (F0 m pc' ls' (st'.map (cv β)))) :
    W p l e R s m args below meth c H locs (h.1 - n0) (szS h.1 - szS n0) Q (F0 m pc ls (st.map (cv β))) := by
  obtain ⟨hx, hb, hml, hown, hts, hG, hK, hsz, hmk, hini⟩ := C
  have hlen1 : len = 3 := Nat.eq_of_beq_eq_true hlen
  subst hlen1
  replace hs : (some (pc + 3, lv, .int (Int16.ofInt i).toInt32 :: st, h)) = some (pc', lv', st', h2) := hs
  cases hs
  exact lv_sipush hx hb hd rfl (K _ _ _ hl hP hS)
set_option maxHeartbeats 1000000 in
theorem zs_lconst (i : Fin 2) {p : Program} {l : Launch} {e : Env} {R : Room} {s : State} {m : MethodId} {args : Array Value} {below : List Frame} {meth : Method} {c : Code} {D : va_G} {cT : CT} {β : Nat → Nat} {base : Nat} {me : ME} {Ts : List Cond} {n0 : Nat} {scr : Option (Nat × (Nat → Int32))} (C : Ctx p s m args meth c D cT base me Ts n0) (hsc : ScrOK scr β s base) (hβ : ∀ i, i < 4096 → β i = base + i) {pc len : Nat} {lv lv' : LV} {st st' : List Value} {h h2 : Hp} {pc' : Nat} (hs : zStep scr me.1 me.2.2.2.1 pc (isIni me) (.lconst i) len lv st h = some (pc', lv', st', h2)) (hd : decode me.2.2.1 pc = .ok (.lconst i, len)) (hlen : lenOK (.lconst i) len = true) (hroom : rOKb me (pc, .lconst i, len) = true) (hR : (me.2.2.2.2.2.2.1 ≤ R.frames ∧ me.2.2.2.2.2.2.2 ≤ R.locals) ∧ h2.1 - n0 ≤ R.cells ∧ szS h2.1 - szS n0 ≤ R.slots) (hn0 : n0 ≤ h.1) (h83 : h.1 ≤ 83) {H : Heap} {locs : List Loc} {ls : Array Slot} {Q : State → Prop} (hl : lv_has ls me.2.2.2.1 (cvL β lv)) (hP : va_P D vwCl (wsOf β cT h) H) (hS : va_S (fun q => base ≤ q) s.heap H locs)
    (K : ∀ (H' : Heap) (locs' : List Loc) (ls' : Array Slot), lv_has ls' me.2.2.2.1 (cvL β lv') → va_P D vwCl (wsOf β cT h2) H' → va_S (fun q => base ≤ q) s.heap H' locs' → W p l e R s m args below meth c H' locs' (h2.1 - n0) (szS h2.1 - szS n0) Q (F0 m pc' ls' (st'.map (cv β)))) :
    W p l e R s m args below meth c H locs (h.1 - n0) (szS h.1 - szS n0) Q (F0 m pc ls (st.map (cv β))) := by
  obtain ⟨hx, hb, hml, hown, hts, hG, hK, hsz, hmk, hini⟩ := C
  have hlen1 : len = 1 := Nat.eq_of_beq_eq_true hlen
  subst hlen1
  replace hs : (some (pc + 1, lv, .long (Int64.ofNat (i : Nat)) :: st, h)) = some (pc', lv', st', h2) := hs
  cases hs
  exact lv_lconst hx hb hd rfl (K _ _ _ hl hP hS)
set_option maxHeartbeats 1000000 in
theorem zs_ldc (ix : Nat) {p : Program} {l : Launch} {e : Env} {R : Room} {s : State} {m : MethodId} {args : Array Value} {below : List Frame} {meth : Method} {c : Code} {D : va_G} {cT : CT} {β : Nat → Nat} {base : Nat} {me : ME} {Ts : List Cond} {n0 : Nat} {scr : Option (Nat × (Nat → Int32))} (C : Ctx p s m args meth c D cT base me Ts n0) (hsc : ScrOK scr β s base) (hβ : ∀ i, i < 4096 → β i = base + i) {pc len : Nat} {lv lv' : LV} {st st' : List Value} {h h2 : Hp} {pc' : Nat} (hs : zStep scr me.1 me.2.2.2.1 pc (isIni me) (.ldc ix) len lv st h = some (pc', lv', st', h2)) (hd : decode me.2.2.1 pc = .ok (.ldc ix, len)) (hlen : lenOK (.ldc ix) len = true) (hroom : rOKb me (pc, .ldc ix, len) = true) (hR : (me.2.2.2.2.2.2.1 ≤ R.frames ∧ me.2.2.2.2.2.2.2 ≤ R.locals) ∧ h2.1 - n0 ≤ R.cells ∧ szS h2.1 - szS n0 ≤ R.slots) (hn0 : n0 ≤ h.1) (h83 : h.1 ≤ 83) {H : Heap} {locs : List Loc} {ls : Array Slot} {Q : State → Prop} (hl : lv_has ls me.2.2.2.1 (cvL β lv)) (hP : va_P D vwCl (wsOf β cT h) H) (hS : va_S (fun q => base ≤ q) s.heap H locs)
    (K : ∀ (H' : Heap) (locs' : List Loc) (ls' : Array Slot), lv_has ls' me.2.2.2.1 (cvL β lv') → va_P D vwCl (wsOf β cT h2) H' → va_S (fun q => base ≤ q) s.heap H' locs' → W p l e R s m args below meth c H' locs' (h2.1 - n0) (szS h2.1 - szS n0) Q (F0 m pc' ls' (st'.map (cv β)))) :
    W p l e R s m args below meth c H locs (h.1 - n0) (szS h.1 - szS n0) Q (F0 m pc ls (st.map (cv β))) := by
  obtain ⟨hx, hb, hml, hown, hts, hG, hK, hsz, hmk, hini⟩ := C
  have hlen1 : len = 2 := Nat.eq_of_beq_eq_true hlen
  subst hlen1
  replace hs : ((match (generalizing := false) lkp (poolOf me.1) ix with
    | some (9, _, _, v) => some (pc + 2, lv, .int (Int32.ofInt v) :: st, h)
    | _ => none)) = some (pc', lv', st', h2) := hs
  split at hs
  next a b v hp => cases hs; exact lv_ldc hx hb hown (hts _ (hG _ (pool_c hp))) hd (K _ _ _ hl hP hS)
  next => cases hs
set_option maxHeartbeats 1000000 in
theorem zs_ldc_w (ix : Nat) {p : Program} {l : Launch} {e : Env} {R : Room} {s : State} {m : MethodId} {args : Array Value} {below : List Frame} {meth : Method} {c : Code} {D : va_G} {cT : CT} {β : Nat → Nat} {base : Nat} {me : ME} {Ts : List Cond} {n0 : Nat} {scr : Option (Nat × (Nat → Int32))} (C : Ctx p s m args meth c D cT base me Ts n0) (hsc : ScrOK scr β s base) (hβ : ∀ i, i < 4096 → β i = base + i) {pc len : Nat} {lv lv' : LV} {st st' : List Value} {h h2 : Hp} {pc' : Nat} (hs : zStep scr me.1 me.2.2.2.1 pc (isIni me) (.ldc_w ix) len lv st h = some (pc', lv', st', h2)) (hd : decode me.2.2.1 pc = .ok (.ldc_w ix, len)) (hlen : lenOK (.ldc_w ix) len = true) (hroom : rOKb me (pc, .ldc_w ix, len) = true) (hR : (me.2.2.2.2.2.2.1 ≤ R.frames ∧ me.2.2.2.2.2.2.2 ≤ R.locals) ∧ h2.1 - n0 ≤ R.cells ∧ szS h2.1 - szS n0 ≤ R.slots) (hn0 : n0 ≤ h.1) (h83 : h.1 ≤ 83) {H : Heap} {locs : List Loc} {ls : Array Slot} {Q : State → Prop} (hl : lv_has ls me.2.2.2.1 (cvL β lv)) (hP : va_P D vwCl (wsOf β cT h) H) (hS : va_S (fun q => base ≤ q) s.heap H locs)
    (K : ∀ (H' : Heap) (locs' : List Loc) (ls' : Array Slot), lv_has ls' me.2.2.2.1 (cvL β lv') → va_P D vwCl (wsOf β cT h2) H' → va_S (fun q => base ≤ q) s.heap H' locs' → W p l e R s m args below meth c H' locs' (h2.1 - n0) (szS h2.1 - szS n0) Q (F0 m pc' ls' (st'.map (cv β)))) :
    W p l e R s m args below meth c H locs (h.1 - n0) (szS h.1 - szS n0) Q (F0 m pc ls (st.map (cv β))) := by
  obtain ⟨hx, hb, hml, hown, hts, hG, hK, hsz, hmk, hini⟩ := C
  have hlen1 : len = 3 := Nat.eq_of_beq_eq_true hlen
  subst hlen1
  replace hs : ((match (generalizing := false) lkp (poolOf me.1) ix with
    | some (9, _, _, v) => some (pc + 3, lv, .int (Int32.ofInt v) :: st, h)
    | _ => none)) = some (pc', lv', st', h2) := hs
  split at hs
  next a b v hp => cases hs; exact lv_ldcw hx hb hown (hts _ (hG _ (pool_c hp))) hd (K _ _ _ hl hP hS)
  next => cases hs
set_option maxHeartbeats 1000000 in
theorem zs_ldc2_w (ix : Nat) {p : Program} {l : Launch} {e : Env} {R : Room} {s : State} {m : MethodId} {args : Array Value} {below : List Frame} {meth : Method} {c : Code} {D : va_G} {cT : CT} {β : Nat → Nat} {base : Nat} {me : ME} {Ts : List Cond} {n0 : Nat} {scr : Option (Nat × (Nat → Int32))} (C : Ctx p s m args meth c D cT base me Ts n0) (hsc : ScrOK scr β s base) (hβ : ∀ i, i < 4096 → β i = base + i) {pc len : Nat} {lv lv' : LV} {st st' : List Value} {h h2 : Hp} {pc' : Nat} (hs : zStep scr me.1 me.2.2.2.1 pc (isIni me) (.ldc2_w ix) len lv st h = some (pc', lv', st', h2)) (hd : decode me.2.2.1 pc = .ok (.ldc2_w ix, len)) (hlen : lenOK (.ldc2_w ix) len = true) (hroom : rOKb me (pc, .ldc2_w ix, len) = true) (hR : (me.2.2.2.2.2.2.1 ≤ R.frames ∧ me.2.2.2.2.2.2.2 ≤ R.locals) ∧ h2.1 - n0 ≤ R.cells ∧ szS h2.1 - szS n0 ≤ R.slots) (hn0 : n0 ≤ h.1) (h83 : h.1 ≤ 83) {H : Heap} {locs : List Loc} {ls : Array Slot} {Q : State → Prop} (hl : lv_has ls me.2.2.2.1 (cvL β lv)) (hP : va_P D vwCl (wsOf β cT h) H) (hS : va_S (fun q => base ≤ q) s.heap H locs)
    (K : ∀ (H' : Heap) (locs' : List Loc) (ls' : Array Slot), lv_has ls' me.2.2.2.1 (cvL β lv') → va_P D vwCl (wsOf β cT h2) H' → va_S (fun q => base ≤ q) s.heap H' locs' → W p l e R s m args below meth c H' locs' (h2.1 - n0) (szS h2.1 - szS n0) Q (F0 m pc' ls' (st'.map (cv β)))) :
    W p l e R s m args below meth c H locs (h.1 - n0) (szS h.1 - szS n0) Q (F0 m pc ls (st.map (cv β))) := by
  obtain ⟨hx, hb, hml, hown, hts, hG, hK, hsz, hmk, hini⟩ := C
  have hlen1 : len = 3 := Nat.eq_of_beq_eq_true hlen
  subst hlen1
  replace hs : ((match (generalizing := false) lkp (poolOf me.1) ix with
    | some (10, _, _, v) => some (pc + 3, lv, .long (Int64.ofInt v) :: st, h)
    | _ => none)) = some (pc', lv', st', h2) := hs
  split at hs
  next a b v hp => cases hs; exact lv_ldc2 hx hb hown (hts _ (hG _ (pool_cL hp))) hd (K _ _ _ hl hP hS)
  next => cases hs
set_option maxHeartbeats 1000000 in
theorem zs_iload (i : Nat) {p : Program} {l : Launch} {e : Env} {R : Room} {s : State} {m : MethodId} {args : Array Value} {below : List Frame} {meth : Method} {c : Code} {D : va_G} {cT : CT} {β : Nat → Nat} {base : Nat} {me : ME} {Ts : List Cond} {n0 : Nat} {scr : Option (Nat × (Nat → Int32))} (C : Ctx p s m args meth c D cT base me Ts n0) (hsc : ScrOK scr β s base) (hβ : ∀ i, i < 4096 → β i = base + i) {pc len : Nat} {lv lv' : LV} {st st' : List Value} {h h2 : Hp} {pc' : Nat} (hs : zStep scr me.1 me.2.2.2.1 pc (isIni me) (.iload i) len lv st h = some (pc', lv', st', h2)) (hd : decode me.2.2.1 pc = .ok (.iload i, len)) (hlen : lenOK (.iload i) len = true) (hroom : rOKb me (pc, .iload i, len) = true) (hR : (me.2.2.2.2.2.2.1 ≤ R.frames ∧ me.2.2.2.2.2.2.2 ≤ R.locals) ∧ h2.1 - n0 ≤ R.cells ∧ szS h2.1 - szS n0 ≤ R.slots) (hn0 : n0 ≤ h.1) (h83 : h.1 ≤ 83) {H : Heap} {locs : List Loc} {ls : Array Slot} {Q : State → Prop} (hl : lv_has ls me.2.2.2.1 (cvL β lv)) (hP : va_P D vwCl (wsOf β cT h) H) (hS : va_S (fun q => base ≤ q) s.heap H locs)
    (K : ∀ (H' : Heap) (locs' : List Loc) (ls' : Array Slot), lv_has ls' me.2.2.2.1 (cvL β lv') → va_P D vwCl (wsOf β cT h2) H' → va_S (fun q => base ≤ q) s.heap H' locs' → W p l e R s m args below meth c H' locs' (h2.1 - n0) (szS h2.1 - szS n0) Q (F0 m pc' ls' (st'.map (cv β)))) :
    W p l e R s m args below meth c H locs (h.1 - n0) (szS h.1 - szS n0) Q (F0 m pc ls (st.map (cv β))) := by
  obtain ⟨hx, hb, hml, hown, hts, hG, hK, hsz, hmk, hini⟩ := C
  have hlen1 : len = 2 := Nat.eq_of_beq_eq_true hlen
  subst hlen1
  replace hs : ((match (generalizing := false) ldI lv i with
    | some x => some (pc + 2, lv, .int x :: st, h)
    | none => none)) = some (pc', lv', st', h2) := hs
  split at hs
  next x hv => cases hs; exact lv_iload hx hb hd (ldI_at hl hv) (K _ _ _ hl hP hS)
  next => cases hs
set_option maxHeartbeats 1000000 in
theorem zs_iload_n (i : Fin 4) {p : Program} {l : Launch} {e : Env} {R : Room} {s : State} {m : MethodId} {args : Array Value} {below : List Frame} {meth : Method} {c : Code} {D : va_G} {cT : CT} {β : Nat → Nat} {base : Nat} {me : ME} {Ts : List Cond} {n0 : Nat} {scr : Option (Nat × (Nat → Int32))} (C : Ctx p s m args meth c D cT base me Ts n0) (hsc : ScrOK scr β s base) (hβ : ∀ i, i < 4096 → β i = base + i) {pc len : Nat} {lv lv' : LV} {st st' : List Value} {h h2 : Hp} {pc' : Nat} (hs : zStep scr me.1 me.2.2.2.1 pc (isIni me) (.iload_n i) len lv st h = some (pc', lv', st', h2)) (hd : decode me.2.2.1 pc = .ok (.iload_n i, len)) (hlen : lenOK (.iload_n i) len = true) (hroom : rOKb me (pc, .iload_n i, len) = true) (hR : (me.2.2.2.2.2.2.1 ≤ R.frames ∧ me.2.2.2.2.2.2.2 ≤ R.locals) ∧ h2.1 - n0 ≤ R.cells ∧ szS h2.1 - szS n0 ≤ R.slots) (hn0 : n0 ≤ h.1) (h83 : h.1 ≤ 83) {H : Heap} {locs : List Loc} {ls : Array Slot} {Q : State → Prop} (hl : lv_has ls me.2.2.2.1 (cvL β lv)) (hP : va_P D vwCl (wsOf β cT h) H) (hS : va_S (fun q => base ≤ q) s.heap H locs)
    (K : ∀ (H' : Heap) (locs' : List Loc) (ls' : Array Slot), lv_has ls' me.2.2.2.1 (cvL β lv') → va_P D vwCl (wsOf β cT h2) H' → va_S (fun q => base ≤ q) s.heap H' locs' → W p l e R s m args below meth c H' locs' (h2.1 - n0) (szS h2.1 - szS n0) Q (F0 m pc' ls' (st'.map (cv β)))) :
    W p l e R s m args below meth c H locs (h.1 - n0) (szS h.1 - szS n0) Q (F0 m pc ls (st.map (cv β))) := by
  obtain ⟨hx, hb, hml, hown, hts, hG, hK, hsz, hmk, hini⟩ := C
  have hlen1 : len = 1 := Nat.eq_of_beq_eq_true hlen
  subst hlen1
  replace hs : ((match (generalizing := false) ldI lv i with
    | some x => some (pc + 1, lv, .int x :: st, h)
    | none => none)) = some (pc', lv', st', h2) := hs
  split at hs
  next x hv => cases hs; exact lv_iload_n hx hb hd rfl (ldI_at hl hv) (K _ _ _ hl hP hS)
  next => cases hs
set_option maxHeartbeats 1000000 in
theorem zs_lload (i : Nat) {p : Program} {l : Launch} {e : Env} {R : Room} {s : State} {m : MethodId} {args : Array Value} {below : List Frame} {meth : Method} {c : Code} {D : va_G} {cT : CT} {β : Nat → Nat} {base : Nat} {me : ME} {Ts : List Cond} {n0 : Nat} {scr : Option (Nat × (Nat → Int32))} (C : Ctx p s m args meth c D cT base me Ts n0) (hsc : ScrOK scr β s base) (hβ : ∀ i, i < 4096 → β i = base + i) {pc len : Nat} {lv lv' : LV} {st st' : List Value} {h h2 : Hp} {pc' : Nat} (hs : zStep scr me.1 me.2.2.2.1 pc (isIni me) (.lload i) len lv st h = some (pc', lv', st', h2)) (hd : decode me.2.2.1 pc = .ok (.lload i, len)) (hlen : lenOK (.lload i) len = true) (hroom : rOKb me (pc, .lload i, len) = true) (hR : (me.2.2.2.2.2.2.1 ≤ R.frames ∧ me.2.2.2.2.2.2.2 ≤ R.locals) ∧ h2.1 - n0 ≤ R.cells ∧ szS h2.1 - szS n0 ≤ R.slots) (hn0 : n0 ≤ h.1) (h83 : h.1 ≤ 83) {H : Heap} {locs : List Loc} {ls : Array Slot} {Q : State → Prop} (hl : lv_has ls me.2.2.2.1 (cvL β lv)) (hP : va_P D vwCl (wsOf β cT h) H) (hS : va_S (fun q => base ≤ q) s.heap H locs)
    (K : ∀ (H' : Heap) (locs' : List Loc) (ls' : Array Slot), lv_has ls' me.2.2.2.1 (cvL β lv') → va_P D vwCl (wsOf β cT h2) H' → va_S (fun q => base ≤ q) s.heap H' locs' → W p l e R s m args below meth c H' locs' (h2.1 - n0) (szS h2.1 - szS n0) Q (F0 m pc' ls' (st'.map (cv β)))) :
    W p l e R s m args below meth c H locs (h.1 - n0) (szS h.1 - szS n0) Q (F0 m pc ls (st.map (cv β))) := by
  obtain ⟨hx, hb, hml, hown, hts, hG, hK, hsz, hmk, hini⟩ := C
  have hlen1 : len = 2 := Nat.eq_of_beq_eq_true hlen
  subst hlen1
  replace hs : ((match (generalizing := false) ldL lv i with
    | some x => some (pc + 2, lv, .long x :: st, h)
    | none => none)) = some (pc', lv', st', h2) := hs
  split at hs
  next x hv => cases hs; exact lv_lload hx hb hd (ldL_at hl hv) (K _ _ _ hl hP hS)
  next => cases hs
set_option maxHeartbeats 1000000 in
theorem zs_lload_n (i : Fin 4) {p : Program} {l : Launch} {e : Env} {R : Room} {s : State} {m : MethodId} {args : Array Value} {below : List Frame} {meth : Method} {c : Code} {D : va_G} {cT : CT} {β : Nat → Nat} {base : Nat} {me : ME} {Ts : List Cond} {n0 : Nat} {scr : Option (Nat × (Nat → Int32))} (C : Ctx p s m args meth c D cT base me Ts n0) (hsc : ScrOK scr β s base) (hβ : ∀ i, i < 4096 → β i = base + i) {pc len : Nat} {lv lv' : LV} {st st' : List Value} {h h2 : Hp} {pc' : Nat} (hs : zStep scr me.1 me.2.2.2.1 pc (isIni me) (.lload_n i) len lv st h = some (pc', lv', st', h2)) (hd : decode me.2.2.1 pc = .ok (.lload_n i, len)) (hlen : lenOK (.lload_n i) len = true) (hroom : rOKb me (pc, .lload_n i, len) = true) (hR : (me.2.2.2.2.2.2.1 ≤ R.frames ∧ me.2.2.2.2.2.2.2 ≤ R.locals) ∧ h2.1 - n0 ≤ R.cells ∧ szS h2.1 - szS n0 ≤ R.slots) (hn0 : n0 ≤ h.1) (h83 : h.1 ≤ 83) {H : Heap} {locs : List Loc} {ls : Array Slot} {Q : State → Prop} (hl : lv_has ls me.2.2.2.1 (cvL β lv)) (hP : va_P D vwCl (wsOf β cT h) H) (hS : va_S (fun q => base ≤ q) s.heap H locs)
    (K : ∀ (H' : Heap) (locs' : List Loc) (ls' : Array Slot), lv_has ls' me.2.2.2.1 (cvL β lv') → va_P D vwCl (wsOf β cT h2) H' → va_S (fun q => base ≤ q) s.heap H' locs' → W p l e R s m args below meth c H' locs' (h2.1 - n0) (szS h2.1 - szS n0) Q (F0 m pc' ls' (st'.map (cv β)))) :
    W p l e R s m args below meth c H locs (h.1 - n0) (szS h.1 - szS n0) Q (F0 m pc ls (st.map (cv β))) := by
  obtain ⟨hx, hb, hml, hown, hts, hG, hK, hsz, hmk, hini⟩ := C
  have hlen1 : len = 1 := Nat.eq_of_beq_eq_true hlen
  subst hlen1
  replace hs : ((match (generalizing := false) ldL lv i with
    | some x => some (pc + 1, lv, .long x :: st, h)
    | none => none)) = some (pc', lv', st', h2) := hs
  split at hs
  next x hv => cases hs; exact lv_lload_n hx hb hd rfl (ldL_at hl hv) (K _ _ _ hl hP hS)
  next => cases hs
set_option maxHeartbeats 1000000 in
theorem zs_aload (i : Nat) {p : Program} {l : Launch} {e : Env} {R : Room} {s : State} {m : MethodId} {args : Array Value} {below : List Frame} {meth : Method} {c : Code} {D : va_G} {cT : CT} {β : Nat → Nat} {base : Nat} {me : ME} {Ts : List Cond} {n0 : Nat} {scr : Option (Nat × (Nat → Int32))} (C : Ctx p s m args meth c D cT base me Ts n0) (hsc : ScrOK scr β s base) (hβ : ∀ i, i < 4096 → β i = base + i) {pc len : Nat} {lv lv' : LV} {st st' : List Value} {h h2 : Hp} {pc' : Nat} (hs : zStep scr me.1 me.2.2.2.1 pc (isIni me) (.aload i) len lv st h = some (pc', lv', st', h2)) (hd : decode me.2.2.1 pc = .ok (.aload i, len)) (hlen : lenOK (.aload i) len = true) (hroom : rOKb me (pc, .aload i, len) = true) (hR : (me.2.2.2.2.2.2.1 ≤ R.frames ∧ me.2.2.2.2.2.2.2 ≤ R.locals) ∧ h2.1 - n0 ≤ R.cells ∧ szS h2.1 - szS n0 ≤ R.slots) (hn0 : n0 ≤ h.1) (h83 : h.1 ≤ 83) {H : Heap} {locs : List Loc} {ls : Array Slot} {Q : State → Prop} (hl : lv_has ls me.2.2.2.1 (cvL β lv)) (hP : va_P D vwCl (wsOf β cT h) H) (hS : va_S (fun q => base ≤ q) s.heap H locs)
    (K : ∀ (H' : Heap) (locs' : List Loc) (ls' : Array Slot), lv_has ls' me.2.2.2.1 (cvL β lv') → va_P D vwCl (wsOf β cT h2) H' → va_S (fun q => base ≤ q) s.heap H' locs' → W p l e R s m args below meth c H' locs' (h2.1 - n0) (szS h2.1 - szS n0) Q (F0 m pc' ls' (st'.map (cv β)))) :
    W p l e R s m args below meth c H locs (h.1 - n0) (szS h.1 - szS n0) Q (F0 m pc ls (st.map (cv β))) := by
  obtain ⟨hx, hb, hml, hown, hts, hG, hK, hsz, hmk, hini⟩ := C
  have hlen1 : len = 2 := Nat.eq_of_beq_eq_true hlen
  subst hlen1
  replace hs : ((match (generalizing := false) ldA lv i with
    | some x => some (pc + 2, lv, .ref x :: st, h)
    | none => none)) = some (pc', lv', st', h2) := hs
  split at hs
  next x hv => cases hs; exact lv_aload hx hb hd (ldA_at hl hv) (K _ _ _ hl hP hS)
  next => cases hs
set_option maxHeartbeats 1000000 in
theorem zs_aload_n (i : Fin 4) {p : Program} {l : Launch} {e : Env} {R : Room} {s : State} {m : MethodId} {args : Array Value} {below : List Frame} {meth : Method} {c : Code} {D : va_G} {cT : CT} {β : Nat → Nat} {base : Nat} {me : ME} {Ts : List Cond} {n0 : Nat} {scr : Option (Nat × (Nat → Int32))} (C : Ctx p s m args meth c D cT base me Ts n0) (hsc : ScrOK scr β s base) (hβ : ∀ i, i < 4096 → β i = base + i) {pc len : Nat} {lv lv' : LV} {st st' : List Value} {h h2 : Hp} {pc' : Nat} (hs : zStep scr me.1 me.2.2.2.1 pc (isIni me) (.aload_n i) len lv st h = some (pc', lv', st', h2)) (hd : decode me.2.2.1 pc = .ok (.aload_n i, len)) (hlen : lenOK (.aload_n i) len = true) (hroom : rOKb me (pc, .aload_n i, len) = true) (hR : (me.2.2.2.2.2.2.1 ≤ R.frames ∧ me.2.2.2.2.2.2.2 ≤ R.locals) ∧ h2.1 - n0 ≤ R.cells ∧ szS h2.1 - szS n0 ≤ R.slots) (hn0 : n0 ≤ h.1) (h83 : h.1 ≤ 83) {H : Heap} {locs : List Loc} {ls : Array Slot} {Q : State → Prop} (hl : lv_has ls me.2.2.2.1 (cvL β lv)) (hP : va_P D vwCl (wsOf β cT h) H) (hS : va_S (fun q => base ≤ q) s.heap H locs)
    (K : ∀ (H' : Heap) (locs' : List Loc) (ls' : Array Slot), lv_has ls' me.2.2.2.1 (cvL β lv') → va_P D vwCl (wsOf β cT h2) H' → va_S (fun q => base ≤ q) s.heap H' locs' → W p l e R s m args below meth c H' locs' (h2.1 - n0) (szS h2.1 - szS n0) Q (F0 m pc' ls' (st'.map (cv β)))) :
    W p l e R s m args below meth c H locs (h.1 - n0) (szS h.1 - szS n0) Q (F0 m pc ls (st.map (cv β))) := by
  obtain ⟨hx, hb, hml, hown, hts, hG, hK, hsz, hmk, hini⟩ := C
  have hlen1 : len = 1 := Nat.eq_of_beq_eq_true hlen
  subst hlen1
  replace hs : ((match (generalizing := false) ldA lv i with
    | some x => some (pc + 1, lv, .ref x :: st, h)
    | none => none)) = some (pc', lv', st', h2) := hs
  split at hs
  next x hv => cases hs; exact lv_aload_n hx hb hd rfl (ldA_at hl hv) (K _ _ _ hl hP hS)
  next => cases hs
set_option maxHeartbeats 1000000 in
theorem zs_istore (i : Nat) {p : Program} {l : Launch} {e : Env} {R : Room} {s : State} {m : MethodId} {args : Array Value} {below : List Frame} {meth : Method} {c : Code} {D : va_G} {cT : CT} {β : Nat → Nat} {base : Nat} {me : ME} {Ts : List Cond} {n0 : Nat} {scr : Option (Nat × (Nat → Int32))} (C : Ctx p s m args meth c D cT base me Ts n0) (hsc : ScrOK scr β s base) (hβ : ∀ i, i < 4096 → β i = base + i) {pc len : Nat} {lv lv' : LV} {st st' : List Value} {h h2 : Hp} {pc' : Nat} (hs : zStep scr me.1 me.2.2.2.1 pc (isIni me) (.istore i) len lv st h = some (pc', lv', st', h2)) (hd : decode me.2.2.1 pc = .ok (.istore i, len)) (hlen : lenOK (.istore i) len = true) (hroom : rOKb me (pc, .istore i, len) = true) (hR : (me.2.2.2.2.2.2.1 ≤ R.frames ∧ me.2.2.2.2.2.2.2 ≤ R.locals) ∧ h2.1 - n0 ≤ R.cells ∧ szS h2.1 - szS n0 ≤ R.slots) (hn0 : n0 ≤ h.1) (h83 : h.1 ≤ 83) {H : Heap} {locs : List Loc} {ls : Array Slot} {Q : State → Prop} (hl : lv_has ls me.2.2.2.1 (cvL β lv)) (hP : va_P D vwCl (wsOf β cT h) H) (hS : va_S (fun q => base ≤ q) s.heap H locs)
    (K : ∀ (H' : Heap) (locs' : List Loc) (ls' : Array Slot), lv_has ls' me.2.2.2.1 (cvL β lv') → va_P D vwCl (wsOf β cT h2) H' → va_S (fun q => base ≤ q) s.heap H' locs' → W p l e R s m args below meth c H' locs' (h2.1 - n0) (szS h2.1 - szS n0) Q (F0 m pc' ls' (st'.map (cv β)))) :
    W p l e R s m args below meth c H locs (h.1 - n0) (szS h.1 - szS n0) Q (F0 m pc ls (st.map (cv β))) := by
  obtain ⟨hx, hb, hml, hown, hts, hG, hK, hsz, hmk, hini⟩ := C
  have hlen1 : len = 2 := Nat.eq_of_beq_eq_true hlen
  subst hlen1
  replace hs : ((match (generalizing := false) st with
    | .int x :: r => bif Nat.blt i me.2.2.2.1 then some (pc + 2, lvPut lv i (.int x), r, h) else none
    | _ => none)) = some (pc', lv', st', h2) := hs
  split at hs
  next x r =>
    cases hb1 : Nat.blt i me.2.2.2.1 with
    | false => rw [hb1] at hs; cases hs
    | true =>
      rw [hb1] at hs
      cases hs
      exact lv_istore hx hb hd hl (by simpa using hb1) (cvL_put β lv i (.int x)) (fun ls' hl' => K _ _ _ hl' hP hS)
  next => cases hs
set_option maxHeartbeats 1000000 in
theorem zs_istore_n (i : Fin 4) {p : Program} {l : Launch} {e : Env} {R : Room} {s : State} {m : MethodId} {args : Array Value} {below : List Frame} {meth : Method} {c : Code} {D : va_G} {cT : CT} {β : Nat → Nat} {base : Nat} {me : ME} {Ts : List Cond} {n0 : Nat} {scr : Option (Nat × (Nat → Int32))} (C : Ctx p s m args meth c D cT base me Ts n0) (hsc : ScrOK scr β s base) (hβ : ∀ i, i < 4096 → β i = base + i) {pc len : Nat} {lv lv' : LV} {st st' : List Value} {h h2 : Hp} {pc' : Nat} (hs : zStep scr me.1 me.2.2.2.1 pc (isIni me) (.istore_n i) len lv st h = some (pc', lv', st', h2)) (hd : decode me.2.2.1 pc = .ok (.istore_n i, len)) (hlen : lenOK (.istore_n i) len = true) (hroom : rOKb me (pc, .istore_n i, len) = true) (hR : (me.2.2.2.2.2.2.1 ≤ R.frames ∧ me.2.2.2.2.2.2.2 ≤ R.locals) ∧ h2.1 - n0 ≤ R.cells ∧ szS h2.1 - szS n0 ≤ R.slots) (hn0 : n0 ≤ h.1) (h83 : h.1 ≤ 83) {H : Heap} {locs : List Loc} {ls : Array Slot} {Q : State → Prop} (hl : lv_has ls me.2.2.2.1 (cvL β lv)) (hP : va_P D vwCl (wsOf β cT h) H) (hS : va_S (fun q => base ≤ q) s.heap H locs)
    (K : ∀ (H' : Heap) (locs' : List Loc) (ls' : Array Slot), lv_has ls' me.2.2.2.1 (cvL β lv') → va_P D vwCl (wsOf β cT h2) H' → va_S (fun q => base ≤ q) s.heap H' locs' → W p l e R s m args below meth c H' locs' (h2.1 - n0) (szS h2.1 - szS n0) Q (F0 m pc' ls' (st'.map (cv β)))) :
    W p l e R s m args below meth c H locs (h.1 - n0) (szS h.1 - szS n0) Q (F0 m pc ls (st.map (cv β))) := by
  obtain ⟨hx, hb, hml, hown, hts, hG, hK, hsz, hmk, hini⟩ := C
  have hlen1 : len = 1 := Nat.eq_of_beq_eq_true hlen
  subst hlen1
  replace hs : ((match (generalizing := false) st with
    | .int x :: r => bif Nat.blt i me.2.2.2.1 then some (pc + 1, lvPut lv i (.int x), r, h) else none
    | _ => none)) = some (pc', lv', st', h2) := hs
  split at hs
  next x r =>
    cases hb1 : Nat.blt (i : Nat) me.2.2.2.1 with
    | false => rw [hb1] at hs; cases hs
    | true =>
      rw [hb1] at hs
      cases hs
      exact lv_istore_n hx hb hd rfl hl (by simpa using hb1) (cvL_put β lv (i : Nat) (.int x)) (fun ls' hl' => K _ _ _ hl' hP hS)
  next => cases hs
set_option maxHeartbeats 1000000 in
theorem zs_lstore (i : Nat) {p : Program} {l : Launch} {e : Env} {R : Room} {s : State} {m : MethodId} {args : Array Value} {below : List Frame} {meth : Method} {c : Code} {D : va_G} {cT : CT} {β : Nat → Nat} {base : Nat} {me : ME} {Ts : List Cond} {n0 : Nat} {scr : Option (Nat × (Nat → Int32))} (C : Ctx p s m args meth c D cT base me Ts n0) (hsc : ScrOK scr β s base) (hβ : ∀ i, i < 4096 → β i = base + i) {pc len : Nat} {lv lv' : LV} {st st' : List Value} {h h2 : Hp} {pc' : Nat} (hs : zStep scr me.1 me.2.2.2.1 pc (isIni me) (.lstore i) len lv st h = some (pc', lv', st', h2)) (hd : decode me.2.2.1 pc = .ok (.lstore i, len)) (hlen : lenOK (.lstore i) len = true) (hroom : rOKb me (pc, .lstore i, len) = true) (hR : (me.2.2.2.2.2.2.1 ≤ R.frames ∧ me.2.2.2.2.2.2.2 ≤ R.locals) ∧ h2.1 - n0 ≤ R.cells ∧ szS h2.1 - szS n0 ≤ R.slots) (hn0 : n0 ≤ h.1) (h83 : h.1 ≤ 83) {H : Heap} {locs : List Loc} {ls : Array Slot} {Q : State → Prop} (hl : lv_has ls me.2.2.2.1 (cvL β lv)) (hP : va_P D vwCl (wsOf β cT h) H) (hS : va_S (fun q => base ≤ q) s.heap H locs)
    (K : ∀ (H' : Heap) (locs' : List Loc) (ls' : Array Slot), lv_has ls' me.2.2.2.1 (cvL β lv') → va_P D vwCl (wsOf β cT h2) H' → va_S (fun q => base ≤ q) s.heap H' locs' → W p l e R s m args below meth c H' locs' (h2.1 - n0) (szS h2.1 - szS n0) Q (F0 m pc' ls' (st'.map (cv β)))) :
    W p l e R s m args below meth c H locs (h.1 - n0) (szS h.1 - szS n0) Q (F0 m pc ls (st.map (cv β))) := by
  obtain ⟨hx, hb, hml, hown, hts, hG, hK, hsz, hmk, hini⟩ := C
  have hlen1 : len = 2 := Nat.eq_of_beq_eq_true hlen
  subst hlen1
  replace hs : ((match (generalizing := false) st with
    | .long x :: r => bif Nat.blt (i + 1) me.2.2.2.1 then some (pc + 2, lvPut2 lv i (.long x), r, h) else none
    | _ => none)) = some (pc', lv', st', h2) := hs
  split at hs
  next x r =>
    cases hb1 : Nat.blt (i + 1) me.2.2.2.1 with
    | false => rw [hb1] at hs; cases hs
    | true =>
      rw [hb1] at hs
      cases hs
      exact lv_lstore hx hb hd hl (by simpa using hb1) (cvL_put2 β lv i (.long x)) (fun ls' hl' => K _ _ _ hl' hP hS)
  next => cases hs
set_option maxHeartbeats 1000000 in
theorem zs_lstore_n (i : Fin 4) {p : Program} {l : Launch} {e : Env} {R : Room} {s : State} {m : MethodId} {args : Array Value} {below : List Frame} {meth : Method} {c : Code} {D : va_G} {cT : CT} {β : Nat → Nat} {base : Nat} {me : ME} {Ts : List Cond} {n0 : Nat} {scr : Option (Nat × (Nat → Int32))} (C : Ctx p s m args meth c D cT base me Ts n0) (hsc : ScrOK scr β s base) (hβ : ∀ i, i < 4096 → β i = base + i) {pc len : Nat} {lv lv' : LV} {st st' : List Value} {h h2 : Hp} {pc' : Nat} (hs : zStep scr me.1 me.2.2.2.1 pc (isIni me) (.lstore_n i) len lv st h = some (pc', lv', st', h2)) (hd : decode me.2.2.1 pc = .ok (.lstore_n i, len)) (hlen : lenOK (.lstore_n i) len = true) (hroom : rOKb me (pc, .lstore_n i, len) = true) (hR : (me.2.2.2.2.2.2.1 ≤ R.frames ∧ me.2.2.2.2.2.2.2 ≤ R.locals) ∧ h2.1 - n0 ≤ R.cells ∧ szS h2.1 - szS n0 ≤ R.slots) (hn0 : n0 ≤ h.1) (h83 : h.1 ≤ 83) {H : Heap} {locs : List Loc} {ls : Array Slot} {Q : State → Prop} (hl : lv_has ls me.2.2.2.1 (cvL β lv)) (hP : va_P D vwCl (wsOf β cT h) H) (hS : va_S (fun q => base ≤ q) s.heap H locs)
    (K : ∀ (H' : Heap) (locs' : List Loc) (ls' : Array Slot), lv_has ls' me.2.2.2.1 (cvL β lv') → va_P D vwCl (wsOf β cT h2) H' → va_S (fun q => base ≤ q) s.heap H' locs' → W p l e R s m args below meth c H' locs' (h2.1 - n0) (szS h2.1 - szS n0) Q (F0 m pc' ls' (st'.map (cv β)))) :
    W p l e R s m args below meth c H locs (h.1 - n0) (szS h.1 - szS n0) Q (F0 m pc ls (st.map (cv β))) := by
  obtain ⟨hx, hb, hml, hown, hts, hG, hK, hsz, hmk, hini⟩ := C
  have hlen1 : len = 1 := Nat.eq_of_beq_eq_true hlen
  subst hlen1
  replace hs : ((match (generalizing := false) st with
    | .long x :: r => bif Nat.blt (i + 1) me.2.2.2.1 then some (pc + 1, lvPut2 lv i (.long x), r, h) else none
    | _ => none)) = some (pc', lv', st', h2) := hs
  split at hs
  next x r =>
    cases hb1 : Nat.blt ((i : Nat) + 1) me.2.2.2.1 with
    | false => rw [hb1] at hs; cases hs
    | true =>
      rw [hb1] at hs
      cases hs
      exact lv_lstore_n hx hb hd rfl hl (by simpa using hb1) (cvL_put2 β lv (i : Nat) (.long x)) (fun ls' hl' => K _ _ _ hl' hP hS)
  next => cases hs
set_option maxHeartbeats 1000000 in
theorem zs_astore (i : Nat) {p : Program} {l : Launch} {e : Env} {R : Room} {s : State} {m : MethodId} {args : Array Value} {below : List Frame} {meth : Method} {c : Code} {D : va_G} {cT : CT} {β : Nat → Nat} {base : Nat} {me : ME} {Ts : List Cond} {n0 : Nat} {scr : Option (Nat × (Nat → Int32))} (C : Ctx p s m args meth c D cT base me Ts n0) (hsc : ScrOK scr β s base) (hβ : ∀ i, i < 4096 → β i = base + i) {pc len : Nat} {lv lv' : LV} {st st' : List Value} {h h2 : Hp} {pc' : Nat} (hs : zStep scr me.1 me.2.2.2.1 pc (isIni me) (.astore i) len lv st h = some (pc', lv', st', h2)) (hd : decode me.2.2.1 pc = .ok (.astore i, len)) (hlen : lenOK (.astore i) len = true) (hroom : rOKb me (pc, .astore i, len) = true) (hR : (me.2.2.2.2.2.2.1 ≤ R.frames ∧ me.2.2.2.2.2.2.2 ≤ R.locals) ∧ h2.1 - n0 ≤ R.cells ∧ szS h2.1 - szS n0 ≤ R.slots) (hn0 : n0 ≤ h.1) (h83 : h.1 ≤ 83) {H : Heap} {locs : List Loc} {ls : Array Slot} {Q : State → Prop} (hl : lv_has ls me.2.2.2.1 (cvL β lv)) (hP : va_P D vwCl (wsOf β cT h) H) (hS : va_S (fun q => base ≤ q) s.heap H locs)
    (K : ∀ (H' : Heap) (locs' : List Loc) (ls' : Array Slot), lv_has ls' me.2.2.2.1 (cvL β lv') → va_P D vwCl (wsOf β cT h2) H' → va_S (fun q => base ≤ q) s.heap H' locs' → W p l e R s m args below meth c H' locs' (h2.1 - n0) (szS h2.1 - szS n0) Q (F0 m pc' ls' (st'.map (cv β)))) :
    W p l e R s m args below meth c H locs (h.1 - n0) (szS h.1 - szS n0) Q (F0 m pc ls (st.map (cv β))) := by
  obtain ⟨hx, hb, hml, hown, hts, hG, hK, hsz, hmk, hini⟩ := C
  have hlen1 : len = 2 := Nat.eq_of_beq_eq_true hlen
  subst hlen1
  replace hs : ((match (generalizing := false) st with
    | .ref x :: r => bif Nat.blt i me.2.2.2.1 then some (pc + 2, lvPut lv i (.ref x), r, h) else none
    | _ => none)) = some (pc', lv', st', h2) := hs
  split at hs
  next x r =>
    cases hb1 : Nat.blt i me.2.2.2.1 with
    | false => rw [hb1] at hs; cases hs
    | true =>
      rw [hb1] at hs
      cases hs
      exact lv_astore hx hb hd hl (by simpa using hb1) (cvL_put β lv i (.ref x)) (fun ls' hl' => K _ _ _ hl' hP hS)
  next => cases hs
set_option maxHeartbeats 1000000 in
theorem zs_astore_n (i : Fin 4) {p : Program} {l : Launch} {e : Env} {R : Room} {s : State} {m : MethodId} {args : Array Value} {below : List Frame} {meth : Method} {c : Code} {D : va_G} {cT : CT} {β : Nat → Nat} {base : Nat} {me : ME} {Ts : List Cond} {n0 : Nat} {scr : Option (Nat × (Nat → Int32))} (C : Ctx p s m args meth c D cT base me Ts n0) (hsc : ScrOK scr β s base) (hβ : ∀ i, i < 4096 → β i = base + i) {pc len : Nat} {lv lv' : LV} {st st' : List Value} {h h2 : Hp} {pc' : Nat} (hs : zStep scr me.1 me.2.2.2.1 pc (isIni me) (.astore_n i) len lv st h = some (pc', lv', st', h2)) (hd : decode me.2.2.1 pc = .ok (.astore_n i, len)) (hlen : lenOK (.astore_n i) len = true) (hroom : rOKb me (pc, .astore_n i, len) = true) (hR : (me.2.2.2.2.2.2.1 ≤ R.frames ∧ me.2.2.2.2.2.2.2 ≤ R.locals) ∧ h2.1 - n0 ≤ R.cells ∧ szS h2.1 - szS n0 ≤ R.slots) (hn0 : n0 ≤ h.1) (h83 : h.1 ≤ 83) {H : Heap} {locs : List Loc} {ls : Array Slot} {Q : State → Prop} (hl : lv_has ls me.2.2.2.1 (cvL β lv)) (hP : va_P D vwCl (wsOf β cT h) H) (hS : va_S (fun q => base ≤ q) s.heap H locs)
    (K : ∀ (H' : Heap) (locs' : List Loc) (ls' : Array Slot), lv_has ls' me.2.2.2.1 (cvL β lv') → va_P D vwCl (wsOf β cT h2) H' → va_S (fun q => base ≤ q) s.heap H' locs' → W p l e R s m args below meth c H' locs' (h2.1 - n0) (szS h2.1 - szS n0) Q (F0 m pc' ls' (st'.map (cv β)))) :
    W p l e R s m args below meth c H locs (h.1 - n0) (szS h.1 - szS n0) Q (F0 m pc ls (st.map (cv β))) := by
  obtain ⟨hx, hb, hml, hown, hts, hG, hK, hsz, hmk, hini⟩ := C
  have hlen1 : len = 1 := Nat.eq_of_beq_eq_true hlen
  subst hlen1
  replace hs : ((match (generalizing := false) st with
    | .ref x :: r => bif Nat.blt i me.2.2.2.1 then some (pc + 1, lvPut lv i (.ref x), r, h) else none
    | _ => none)) = some (pc', lv', st', h2) := hs
  split at hs
  next x r =>
    cases hb1 : Nat.blt (i : Nat) me.2.2.2.1 with
    | false => rw [hb1] at hs; cases hs
    | true =>
      rw [hb1] at hs
      cases hs
      exact lv_astore_n hx hb hd rfl hl (by simpa using hb1) (cvL_put β lv (i : Nat) (.ref x)) (fun ls' hl' => K _ _ _ hl' hP hS)
  next => cases hs
set_option maxHeartbeats 1000000 in
theorem zs_iinc (i : Nat) (n : Int) {p : Program} {l : Launch} {e : Env} {R : Room} {s : State} {m : MethodId} {args : Array Value} {below : List Frame} {meth : Method} {c : Code} {D : va_G} {cT : CT} {β : Nat → Nat} {base : Nat} {me : ME} {Ts : List Cond} {n0 : Nat} {scr : Option (Nat × (Nat → Int32))} (C : Ctx p s m args meth c D cT base me Ts n0) (hsc : ScrOK scr β s base) (hβ : ∀ i, i < 4096 → β i = base + i) {pc len : Nat} {lv lv' : LV} {st st' : List Value} {h h2 : Hp} {pc' : Nat} (hs : zStep scr me.1 me.2.2.2.1 pc (isIni me) (.iinc i n) len lv st h = some (pc', lv', st', h2)) (hd : decode me.2.2.1 pc = .ok (.iinc i n, len)) (hlen : lenOK (.iinc i n) len = true) (hroom : rOKb me (pc, .iinc i n, len) = true) (hR : (me.2.2.2.2.2.2.1 ≤ R.frames ∧ me.2.2.2.2.2.2.2 ≤ R.locals) ∧ h2.1 - n0 ≤ R.cells ∧ szS h2.1 - szS n0 ≤ R.slots) (hn0 : n0 ≤ h.1) (h83 : h.1 ≤ 83) {H : Heap} {locs : List Loc} {ls : Array Slot} {Q : State → Prop} (hl : lv_has ls me.2.2.2.1 (cvL β lv)) (hP : va_P D vwCl (wsOf β cT h) H) (hS : va_S (fun q => base ≤ q) s.heap H locs)
    (K : ∀ (H' : Heap) (locs' : List Loc) (ls' : Array Slot), lv_has ls' me.2.2.2.1 (cvL β lv') → va_P D vwCl (wsOf β cT h2) H' → va_S (fun q => base ≤ q) s.heap H' locs' → W p l e R s m args below meth c H' locs' (h2.1 - n0) (szS h2.1 - szS n0) Q (F0 m pc' ls' (st'.map (cv β)))) :
    W p l e R s m args below meth c H locs (h.1 - n0) (szS h.1 - szS n0) Q (F0 m pc ls (st.map (cv β))) := by
  obtain ⟨hx, hb, hml, hown, hts, hG, hK, hsz, hmk, hini⟩ := C
  have hlen1 : len = 3 := Nat.eq_of_beq_eq_true hlen
  subst hlen1
  replace hs : ((match (generalizing := false) ldI lv i with
    | some x => bif Nat.blt i me.2.2.2.1 then some (pc + 3, lvPut lv i (.int (x + Int32.ofInt n)), st, h) else none
    | none => none)) = some (pc', lv', st', h2) := hs
  split at hs
  next x hv =>
    cases hb1 : Nat.blt i me.2.2.2.1 with
    | false => rw [hb1] at hs; cases hs
    | true =>
      rw [hb1] at hs
      cases hs
      obtain ⟨k, hk⟩ := ldI_k (β := β) hv
      exact lv_iinc hx hb hd hl hk rfl (by simpa using hb1) (cvL_put β lv i (.int (x + Int32.ofInt n))) (fun ls' hl' => K _ _ _ hl' hP hS)
  next => cases hs
set_option maxHeartbeats 1000000 in
theorem zs_dup  {p : Program} {l : Launch} {e : Env} {R : Room} {s : State} {m : MethodId} {args : Array Value} {below : List Frame} {meth : Method} {c : Code} {D : va_G} {cT : CT} {β : Nat → Nat} {base : Nat} {me : ME} {Ts : List Cond} {n0 : Nat} {scr : Option (Nat × (Nat → Int32))} (C : Ctx p s m args meth c D cT base me Ts n0) (hsc : ScrOK scr β s base) (hβ : ∀ i, i < 4096 → β i = base + i) {pc len : Nat} {lv lv' : LV} {st st' : List Value} {h h2 : Hp} {pc' : Nat} (hs : zStep scr me.1 me.2.2.2.1 pc (isIni me) (.dup) len lv st h = some (pc', lv', st', h2)) (hd : decode me.2.2.1 pc = .ok (.dup, len)) (hlen : lenOK (.dup) len = true) (hroom : rOKb me (pc, .dup, len) = true) (hR : (me.2.2.2.2.2.2.1 ≤ R.frames ∧ me.2.2.2.2.2.2.2 ≤ R.locals) ∧ h2.1 - n0 ≤ R.cells ∧ szS h2.1 - szS n0 ≤ R.slots) (hn0 : n0 ≤ h.1) (h83 : h.1 ≤ 83) {H : Heap} {locs : List Loc} {ls : Array Slot} {Q : State → Prop} (hl : lv_has ls me.2.2.2.1 (cvL β lv)) (hP : va_P D vwCl (wsOf β cT h) H) (hS : va_S (fun q => base ≤ q) s.heap H locs)
    (K : ∀ (H' : Heap) (locs' : List Loc) (ls' : Array Slot), lv_has ls' me.2.2.2.1 (cvL β lv') → va_P D vwCl (wsOf β cT h2) H' → va_S (fun q => base ≤ q) s.heap H' locs' → W p l e R s m args below meth c H' locs' (h2.1 - n0) (szS h2.1 - szS n0) Q (F0 m pc' ls' (st'.map (cv β)))) :
    W p l e R s m args below meth c H locs (h.1 - n0) (szS h.1 - szS n0) Q (F0 m pc ls (st.map (cv β))) := by
  obtain ⟨hx, hb, hml, hown, hts, hG, hK, hsz, hmk, hini⟩ := C
  have hlen1 : len = 1 := Nat.eq_of_beq_eq_true hlen
  subst hlen1
  replace hs : ((match (generalizing := false) st with
    | v :: r => bif Nat.beq v.category 1 then some (pc + 1, lv, v :: v :: r, h) else none
    | _ => none)) = some (pc', lv', st', h2) := hs
  split at hs
  next v r =>
    cases hb1 : Nat.beq v.category 1 with
    | false => rw [hb1] at hs; cases hs
    | true =>
      rw [hb1] at hs
      cases hs
      exact lv_dup hx hb hd (by rw [cv_cat]; exact Nat.eq_of_beq_eq_true hb1) (K _ _ _ hl hP hS)
  next => cases hs
set_option maxHeartbeats 1000000 in
theorem zs_pop  {p : Program} {l : Launch} {e : Env} {R : Room} {s : State} {m : MethodId} {args : Array Value} {below : List Frame} {meth : Method} {c : Code} {D : va_G} {cT : CT} {β : Nat → Nat} {base : Nat} {me : ME} {Ts : List Cond} {n0 : Nat} {scr : Option (Nat × (Nat → Int32))} (C : Ctx p s m args meth c D cT base me Ts n0) (hsc : ScrOK scr β s base) (hβ : ∀ i, i < 4096 → β i = base + i) {pc len : Nat} {lv lv' : LV} {st st' : List Value} {h h2 : Hp} {pc' : Nat} (hs : zStep scr me.1 me.2.2.2.1 pc (isIni me) (.pop) len lv st h = some (pc', lv', st', h2)) (hd : decode me.2.2.1 pc = .ok (.pop, len)) (hlen : lenOK (.pop) len = true) (hroom : rOKb me (pc, .pop, len) = true) (hR : (me.2.2.2.2.2.2.1 ≤ R.frames ∧ me.2.2.2.2.2.2.2 ≤ R.locals) ∧ h2.1 - n0 ≤ R.cells ∧ szS h2.1 - szS n0 ≤ R.slots) (hn0 : n0 ≤ h.1) (h83 : h.1 ≤ 83) {H : Heap} {locs : List Loc} {ls : Array Slot} {Q : State → Prop} (hl : lv_has ls me.2.2.2.1 (cvL β lv)) (hP : va_P D vwCl (wsOf β cT h) H) (hS : va_S (fun q => base ≤ q) s.heap H locs)
    (K : ∀ (H' : Heap) (locs' : List Loc) (ls' : Array Slot), lv_has ls' me.2.2.2.1 (cvL β lv') → va_P D vwCl (wsOf β cT h2) H' → va_S (fun q => base ≤ q) s.heap H' locs' → W p l e R s m args below meth c H' locs' (h2.1 - n0) (szS h2.1 - szS n0) Q (F0 m pc' ls' (st'.map (cv β)))) :
    W p l e R s m args below meth c H locs (h.1 - n0) (szS h.1 - szS n0) Q (F0 m pc ls (st.map (cv β))) := by
  obtain ⟨hx, hb, hml, hown, hts, hG, hK, hsz, hmk, hini⟩ := C
  have hlen1 : len = 1 := Nat.eq_of_beq_eq_true hlen
  subst hlen1
  replace hs : ((match (generalizing := false) st with
    | v :: r => bif Nat.beq v.category 1 then some (pc + 1, lv, r, h) else none
    | _ => none)) = some (pc', lv', st', h2) := hs
  split at hs
  next v r =>
    cases hb1 : Nat.beq v.category 1 with
    | false => rw [hb1] at hs; cases hs
    | true =>
      rw [hb1] at hs
      cases hs
      exact lv_pop hx hb hd (va := cv β v) (by rw [cv_cat]; exact Nat.eq_of_beq_eq_true hb1) (K _ _ _ hl hP hS)
  next => cases hs
set_option maxHeartbeats 1000000 in
theorem zs_dup2  {p : Program} {l : Launch} {e : Env} {R : Room} {s : State} {m : MethodId} {args : Array Value} {below : List Frame} {meth : Method} {c : Code} {D : va_G} {cT : CT} {β : Nat → Nat} {base : Nat} {me : ME} {Ts : List Cond} {n0 : Nat} {scr : Option (Nat × (Nat → Int32))} (C : Ctx p s m args meth c D cT base me Ts n0) (hsc : ScrOK scr β s base) (hβ : ∀ i, i < 4096 → β i = base + i) {pc len : Nat} {lv lv' : LV} {st st' : List Value} {h h2 : Hp} {pc' : Nat} (hs : zStep scr me.1 me.2.2.2.1 pc (isIni me) (.dup2) len lv st h = some (pc', lv', st', h2)) (hd : decode me.2.2.1 pc = .ok (.dup2, len)) (hlen : lenOK (.dup2) len = true) (hroom : rOKb me (pc, .dup2, len) = true) (hR : (me.2.2.2.2.2.2.1 ≤ R.frames ∧ me.2.2.2.2.2.2.2 ≤ R.locals) ∧ h2.1 - n0 ≤ R.cells ∧ szS h2.1 - szS n0 ≤ R.slots) (hn0 : n0 ≤ h.1) (h83 : h.1 ≤ 83) {H : Heap} {locs : List Loc} {ls : Array Slot} {Q : State → Prop} (hl : lv_has ls me.2.2.2.1 (cvL β lv)) (hP : va_P D vwCl (wsOf β cT h) H) (hS : va_S (fun q => base ≤ q) s.heap H locs)
    (K : ∀ (H' : Heap) (locs' : List Loc) (ls' : Array Slot), lv_has ls' me.2.2.2.1 (cvL β lv') → va_P D vwCl (wsOf β cT h2) H' → va_S (fun q => base ≤ q) s.heap H' locs' → W p l e R s m args below meth c H' locs' (h2.1 - n0) (szS h2.1 - szS n0) Q (F0 m pc' ls' (st'.map (cv β)))) :
    W p l e R s m args below meth c H locs (h.1 - n0) (szS h.1 - szS n0) Q (F0 m pc ls (st.map (cv β))) := by
  obtain ⟨hx, hb, hml, hown, hts, hG, hK, hsz, hmk, hini⟩ := C
  have hlen1 : len = 1 := Nat.eq_of_beq_eq_true hlen
  subst hlen1
  replace hs : ((match (generalizing := false) st with
    | v :: w :: r => bif Nat.beq v.category 1 && Nat.beq w.category 1 then some (pc + 1, lv, v :: w :: v :: w :: r, h) else none
    | _ => none)) = some (pc', lv', st', h2) := hs
  split at hs
  next v w r =>
    cases hb1 : Nat.beq v.category 1 && Nat.beq w.category 1 with
    | false => rw [hb1] at hs; cases hs
    | true =>
      rw [hb1] at hs
      cases hs
      rw [Bool.and_eq_true] at hb1
      exact lv_dup2_11 hx hb hd (by rw [cv_cat]; exact Nat.eq_of_beq_eq_true hb1.1) (by rw [cv_cat]; exact Nat.eq_of_beq_eq_true hb1.2) (K _ _ _ hl hP hS)
  next => cases hs
set_option maxHeartbeats 1000000 in
theorem zs_iadd  {p : Program} {l : Launch} {e : Env} {R : Room} {s : State} {m : MethodId} {args : Array Value} {below : List Frame} {meth : Method} {c : Code} {D : va_G} {cT : CT} {β : Nat → Nat} {base : Nat} {me : ME} {Ts : List Cond} {n0 : Nat} {scr : Option (Nat × (Nat → Int32))} (C : Ctx p s m args meth c D cT base me Ts n0) (hsc : ScrOK scr β s base) (hβ : ∀ i, i < 4096 → β i = base + i) {pc len : Nat} {lv lv' : LV} {st st' : List Value} {h h2 : Hp} {pc' : Nat} (hs : zStep scr me.1 me.2.2.2.1 pc (isIni me) (.iadd) len lv st h = some (pc', lv', st', h2)) (hd : decode me.2.2.1 pc = .ok (.iadd, len)) (hlen : lenOK (.iadd) len = true) (hroom : rOKb me (pc, .iadd, len) = true) (hR : (me.2.2.2.2.2.2.1 ≤ R.frames ∧ me.2.2.2.2.2.2.2 ≤ R.locals) ∧ h2.1 - n0 ≤ R.cells ∧ szS h2.1 - szS n0 ≤ R.slots) (hn0 : n0 ≤ h.1) (h83 : h.1 ≤ 83) {H : Heap} {locs : List Loc} {ls : Array Slot} {Q : State → Prop} (hl : lv_has ls me.2.2.2.1 (cvL β lv)) (hP : va_P D vwCl (wsOf β cT h) H) (hS : va_S (fun q => base ≤ q) s.heap H locs)
    (K : ∀ (H' : Heap) (locs' : List Loc) (ls' : Array Slot), lv_has ls' me.2.2.2.1 (cvL β lv') → va_P D vwCl (wsOf β cT h2) H' → va_S (fun q => base ≤ q) s.heap H' locs' → W p l e R s m args below meth c H' locs' (h2.1 - n0) (szS h2.1 - szS n0) Q (F0 m pc' ls' (st'.map (cv β)))) :
    W p l e R s m args below meth c H locs (h.1 - n0) (szS h.1 - szS n0) Q (F0 m pc ls (st.map (cv β))) := by
  obtain ⟨hx, hb, hml, hown, hts, hG, hK, hsz, hmk, hini⟩ := C
  have hlen1 : len = 1 := Nat.eq_of_beq_eq_true hlen
  subst hlen1
  replace hs : ((match (generalizing := false) st with
    | .int y :: .int x :: r => some (pc + 1, lv, .int (x + y) :: r, h)
    | _ => none)) = some (pc', lv', st', h2) := hs
  split at hs
  next y x r => cases hs; exact lv_iadd hx hb hd (K _ _ _ hl hP hS)
  next => cases hs
set_option maxHeartbeats 1000000 in
theorem zs_isub  {p : Program} {l : Launch} {e : Env} {R : Room} {s : State} {m : MethodId} {args : Array Value} {below : List Frame} {meth : Method} {c : Code} {D : va_G} {cT : CT} {β : Nat → Nat} {base : Nat} {me : ME} {Ts : List Cond} {n0 : Nat} {scr : Option (Nat × (Nat → Int32))} (C : Ctx p s m args meth c D cT base me Ts n0) (hsc : ScrOK scr β s base) (hβ : ∀ i, i < 4096 → β i = base + i) {pc len : Nat} {lv lv' : LV} {st st' : List Value} {h h2 : Hp} {pc' : Nat} (hs : zStep scr me.1 me.2.2.2.1 pc (isIni me) (.isub) len lv st h = some (pc', lv', st', h2)) (hd : decode me.2.2.1 pc = .ok (.isub, len)) (hlen : lenOK (.isub) len = true) (hroom : rOKb me (pc, .isub, len) = true) (hR : (me.2.2.2.2.2.2.1 ≤ R.frames ∧ me.2.2.2.2.2.2.2 ≤ R.locals) ∧ h2.1 - n0 ≤ R.cells ∧ szS h2.1 - szS n0 ≤ R.slots) (hn0 : n0 ≤ h.1) (h83 : h.1 ≤ 83) {H : Heap} {locs : List Loc} {ls : Array Slot} {Q : State → Prop} (hl : lv_has ls me.2.2.2.1 (cvL β lv)) (hP : va_P D vwCl (wsOf β cT h) H) (hS : va_S (fun q => base ≤ q) s.heap H locs)
    (K : ∀ (H' : Heap) (locs' : List Loc) (ls' : Array Slot), lv_has ls' me.2.2.2.1 (cvL β lv') → va_P D vwCl (wsOf β cT h2) H' → va_S (fun q => base ≤ q) s.heap H' locs' → W p l e R s m args below meth c H' locs' (h2.1 - n0) (szS h2.1 - szS n0) Q (F0 m pc' ls' (st'.map (cv β)))) :
    W p l e R s m args below meth c H locs (h.1 - n0) (szS h.1 - szS n0) Q (F0 m pc ls (st.map (cv β))) := by
  obtain ⟨hx, hb, hml, hown, hts, hG, hK, hsz, hmk, hini⟩ := C
  have hlen1 : len = 1 := Nat.eq_of_beq_eq_true hlen
  subst hlen1
  replace hs : ((match (generalizing := false) st with
    | .int y :: .int x :: r => some (pc + 1, lv, .int (x - y) :: r, h)
    | _ => none)) = some (pc', lv', st', h2) := hs
  split at hs
  next y x r => cases hs; exact lv_isub hx hb hd (K _ _ _ hl hP hS)
  next => cases hs
set_option maxHeartbeats 1000000 in
theorem zs_imul  {p : Program} {l : Launch} {e : Env} {R : Room} {s : State} {m : MethodId} {args : Array Value} {below : List Frame} {meth : Method} {c : Code} {D : va_G} {cT : CT} {β : Nat → Nat} {base : Nat} {me : ME} {Ts : List Cond} {n0 : Nat} {scr : Option (Nat × (Nat → Int32))} (C : Ctx p s m args meth c D cT base me Ts n0) (hsc : ScrOK scr β s base) (hβ : ∀ i, i < 4096 → β i = base + i) {pc len : Nat} {lv lv' : LV} {st st' : List Value} {h h2 : Hp} {pc' : Nat} (hs : zStep scr me.1 me.2.2.2.1 pc (isIni me) (.imul) len lv st h = some (pc', lv', st', h2)) (hd : decode me.2.2.1 pc = .ok (.imul, len)) (hlen : lenOK (.imul) len = true) (hroom : rOKb me (pc, .imul, len) = true) (hR : (me.2.2.2.2.2.2.1 ≤ R.frames ∧ me.2.2.2.2.2.2.2 ≤ R.locals) ∧ h2.1 - n0 ≤ R.cells ∧ szS h2.1 - szS n0 ≤ R.slots) (hn0 : n0 ≤ h.1) (h83 : h.1 ≤ 83) {H : Heap} {locs : List Loc} {ls : Array Slot} {Q : State → Prop} (hl : lv_has ls me.2.2.2.1 (cvL β lv)) (hP : va_P D vwCl (wsOf β cT h) H) (hS : va_S (fun q => base ≤ q) s.heap H locs)
    (K : ∀ (H' : Heap) (locs' : List Loc) (ls' : Array Slot), lv_has ls' me.2.2.2.1 (cvL β lv') → va_P D vwCl (wsOf β cT h2) H' → va_S (fun q => base ≤ q) s.heap H' locs' → W p l e R s m args below meth c H' locs' (h2.1 - n0) (szS h2.1 - szS n0) Q (F0 m pc' ls' (st'.map (cv β)))) :
    W p l e R s m args below meth c H locs (h.1 - n0) (szS h.1 - szS n0) Q (F0 m pc ls (st.map (cv β))) := by
  obtain ⟨hx, hb, hml, hown, hts, hG, hK, hsz, hmk, hini⟩ := C
  have hlen1 : len = 1 := Nat.eq_of_beq_eq_true hlen
  subst hlen1
  replace hs : ((match (generalizing := false) st with
    | .int y :: .int x :: r => some (pc + 1, lv, .int (x * y) :: r, h)
    | _ => none)) = some (pc', lv', st', h2) := hs
  split at hs
  next y x r => cases hs; exact lv_imul hx hb hd (K _ _ _ hl hP hS)
  next => cases hs
set_option maxHeartbeats 1000000 in
theorem zs_iand  {p : Program} {l : Launch} {e : Env} {R : Room} {s : State} {m : MethodId} {args : Array Value} {below : List Frame} {meth : Method} {c : Code} {D : va_G} {cT : CT} {β : Nat → Nat} {base : Nat} {me : ME} {Ts : List Cond} {n0 : Nat} {scr : Option (Nat × (Nat → Int32))} (C : Ctx p s m args meth c D cT base me Ts n0) (hsc : ScrOK scr β s base) (hβ : ∀ i, i < 4096 → β i = base + i) {pc len : Nat} {lv lv' : LV} {st st' : List Value} {h h2 : Hp} {pc' : Nat} (hs : zStep scr me.1 me.2.2.2.1 pc (isIni me) (.iand) len lv st h = some (pc', lv', st', h2)) (hd : decode me.2.2.1 pc = .ok (.iand, len)) (hlen : lenOK (.iand) len = true) (hroom : rOKb me (pc, .iand, len) = true) (hR : (me.2.2.2.2.2.2.1 ≤ R.frames ∧ me.2.2.2.2.2.2.2 ≤ R.locals) ∧ h2.1 - n0 ≤ R.cells ∧ szS h2.1 - szS n0 ≤ R.slots) (hn0 : n0 ≤ h.1) (h83 : h.1 ≤ 83) {H : Heap} {locs : List Loc} {ls : Array Slot} {Q : State → Prop} (hl : lv_has ls me.2.2.2.1 (cvL β lv)) (hP : va_P D vwCl (wsOf β cT h) H) (hS : va_S (fun q => base ≤ q) s.heap H locs)
    (K : ∀ (H' : Heap) (locs' : List Loc) (ls' : Array Slot), lv_has ls' me.2.2.2.1 (cvL β lv') → va_P D vwCl (wsOf β cT h2) H' → va_S (fun q => base ≤ q) s.heap H' locs' → W p l e R s m args below meth c H' locs' (h2.1 - n0) (szS h2.1 - szS n0) Q (F0 m pc' ls' (st'.map (cv β)))) :
    W p l e R s m args below meth c H locs (h.1 - n0) (szS h.1 - szS n0) Q (F0 m pc ls (st.map (cv β))) := by
  obtain ⟨hx, hb, hml, hown, hts, hG, hK, hsz, hmk, hini⟩ := C
  have hlen1 : len = 1 := Nat.eq_of_beq_eq_true hlen
  subst hlen1
  replace hs : ((match (generalizing := false) st with
    | .int y :: .int x :: r => some (pc + 1, lv, .int (x &&& y) :: r, h)
    | _ => none)) = some (pc', lv', st', h2) := hs
  split at hs
  next y x r => cases hs; exact lv_iand hx hb hd (K _ _ _ hl hP hS)
  next => cases hs
set_option maxHeartbeats 1000000 in
theorem zs_ior  {p : Program} {l : Launch} {e : Env} {R : Room} {s : State} {m : MethodId} {args : Array Value} {below : List Frame} {meth : Method} {c : Code} {D : va_G} {cT : CT} {β : Nat → Nat} {base : Nat} {me : ME} {Ts : List Cond} {n0 : Nat} {scr : Option (Nat × (Nat → Int32))} (C : Ctx p s m args meth c D cT base me Ts n0) (hsc : ScrOK scr β s base) (hβ : ∀ i, i < 4096 → β i = base + i) {pc len : Nat} {lv lv' : LV} {st st' : List Value} {h h2 : Hp} {pc' : Nat} (hs : zStep scr me.1 me.2.2.2.1 pc (isIni me) (.ior) len lv st h = some (pc', lv', st', h2)) (hd : decode me.2.2.1 pc = .ok (.ior, len)) (hlen : lenOK (.ior) len = true) (hroom : rOKb me (pc, .ior, len) = true) (hR : (me.2.2.2.2.2.2.1 ≤ R.frames ∧ me.2.2.2.2.2.2.2 ≤ R.locals) ∧ h2.1 - n0 ≤ R.cells ∧ szS h2.1 - szS n0 ≤ R.slots) (hn0 : n0 ≤ h.1) (h83 : h.1 ≤ 83) {H : Heap} {locs : List Loc} {ls : Array Slot} {Q : State → Prop} (hl : lv_has ls me.2.2.2.1 (cvL β lv)) (hP : va_P D vwCl (wsOf β cT h) H) (hS : va_S (fun q => base ≤ q) s.heap H locs)
    (K : ∀ (H' : Heap) (locs' : List Loc) (ls' : Array Slot), lv_has ls' me.2.2.2.1 (cvL β lv') → va_P D vwCl (wsOf β cT h2) H' → va_S (fun q => base ≤ q) s.heap H' locs' → W p l e R s m args below meth c H' locs' (h2.1 - n0) (szS h2.1 - szS n0) Q (F0 m pc' ls' (st'.map (cv β)))) :
    W p l e R s m args below meth c H locs (h.1 - n0) (szS h.1 - szS n0) Q (F0 m pc ls (st.map (cv β))) := by
  obtain ⟨hx, hb, hml, hown, hts, hG, hK, hsz, hmk, hini⟩ := C
  have hlen1 : len = 1 := Nat.eq_of_beq_eq_true hlen
  subst hlen1
  replace hs : ((match (generalizing := false) st with
    | .int y :: .int x :: r => some (pc + 1, lv, .int (x ||| y) :: r, h)
    | _ => none)) = some (pc', lv', st', h2) := hs
  split at hs
  next y x r => cases hs; exact lv_ior hx hb hd (K _ _ _ hl hP hS)
  next => cases hs
set_option maxHeartbeats 1000000 in
theorem zs_ixor  {p : Program} {l : Launch} {e : Env} {R : Room} {s : State} {m : MethodId} {args : Array Value} {below : List Frame} {meth : Method} {c : Code} {D : va_G} {cT : CT} {β : Nat → Nat} {base : Nat} {me : ME} {Ts : List Cond} {n0 : Nat} {scr : Option (Nat × (Nat → Int32))} (C : Ctx p s m args meth c D cT base me Ts n0) (hsc : ScrOK scr β s base) (hβ : ∀ i, i < 4096 → β i = base + i) {pc len : Nat} {lv lv' : LV} {st st' : List Value} {h h2 : Hp} {pc' : Nat} (hs : zStep scr me.1 me.2.2.2.1 pc (isIni me) (.ixor) len lv st h = some (pc', lv', st', h2)) (hd : decode me.2.2.1 pc = .ok (.ixor, len)) (hlen : lenOK (.ixor) len = true) (hroom : rOKb me (pc, .ixor, len) = true) (hR : (me.2.2.2.2.2.2.1 ≤ R.frames ∧ me.2.2.2.2.2.2.2 ≤ R.locals) ∧ h2.1 - n0 ≤ R.cells ∧ szS h2.1 - szS n0 ≤ R.slots) (hn0 : n0 ≤ h.1) (h83 : h.1 ≤ 83) {H : Heap} {locs : List Loc} {ls : Array Slot} {Q : State → Prop} (hl : lv_has ls me.2.2.2.1 (cvL β lv)) (hP : va_P D vwCl (wsOf β cT h) H) (hS : va_S (fun q => base ≤ q) s.heap H locs)
    (K : ∀ (H' : Heap) (locs' : List Loc) (ls' : Array Slot), lv_has ls' me.2.2.2.1 (cvL β lv') → va_P D vwCl (wsOf β cT h2) H' → va_S (fun q => base ≤ q) s.heap H' locs' → W p l e R s m args below meth c H' locs' (h2.1 - n0) (szS h2.1 - szS n0) Q (F0 m pc' ls' (st'.map (cv β)))) :
    W p l e R s m args below meth c H locs (h.1 - n0) (szS h.1 - szS n0) Q (F0 m pc ls (st.map (cv β))) := by
  obtain ⟨hx, hb, hml, hown, hts, hG, hK, hsz, hmk, hini⟩ := C
  have hlen1 : len = 1 := Nat.eq_of_beq_eq_true hlen
  subst hlen1
  replace hs : ((match (generalizing := false) st with
    | .int y :: .int x :: r => some (pc + 1, lv, .int (x ^^^ y) :: r, h)
    | _ => none)) = some (pc', lv', st', h2) := hs
  split at hs
  next y x r => cases hs; exact lv_ixor hx hb hd (K _ _ _ hl hP hS)
  next => cases hs
set_option maxHeartbeats 1000000 in
theorem zs_ishl  {p : Program} {l : Launch} {e : Env} {R : Room} {s : State} {m : MethodId} {args : Array Value} {below : List Frame} {meth : Method} {c : Code} {D : va_G} {cT : CT} {β : Nat → Nat} {base : Nat} {me : ME} {Ts : List Cond} {n0 : Nat} {scr : Option (Nat × (Nat → Int32))} (C : Ctx p s m args meth c D cT base me Ts n0) (hsc : ScrOK scr β s base) (hβ : ∀ i, i < 4096 → β i = base + i) {pc len : Nat} {lv lv' : LV} {st st' : List Value} {h h2 : Hp} {pc' : Nat} (hs : zStep scr me.1 me.2.2.2.1 pc (isIni me) (.ishl) len lv st h = some (pc', lv', st', h2)) (hd : decode me.2.2.1 pc = .ok (.ishl, len)) (hlen : lenOK (.ishl) len = true) (hroom : rOKb me (pc, .ishl, len) = true) (hR : (me.2.2.2.2.2.2.1 ≤ R.frames ∧ me.2.2.2.2.2.2.2 ≤ R.locals) ∧ h2.1 - n0 ≤ R.cells ∧ szS h2.1 - szS n0 ≤ R.slots) (hn0 : n0 ≤ h.1) (h83 : h.1 ≤ 83) {H : Heap} {locs : List Loc} {ls : Array Slot} {Q : State → Prop} (hl : lv_has ls me.2.2.2.1 (cvL β lv)) (hP : va_P D vwCl (wsOf β cT h) H) (hS : va_S (fun q => base ≤ q) s.heap H locs)
    (K : ∀ (H' : Heap) (locs' : List Loc) (ls' : Array Slot), lv_has ls' me.2.2.2.1 (cvL β lv') → va_P D vwCl (wsOf β cT h2) H' → va_S (fun q => base ≤ q) s.heap H' locs' → W p l e R s m args below meth c H' locs' (h2.1 - n0) (szS h2.1 - szS n0) Q (F0 m pc' ls' (st'.map (cv β)))) :
    W p l e R s m args below meth c H locs (h.1 - n0) (szS h.1 - szS n0) Q (F0 m pc ls (st.map (cv β))) := by
  obtain ⟨hx, hb, hml, hown, hts, hG, hK, hsz, hmk, hini⟩ := C
  have hlen1 : len = 1 := Nat.eq_of_beq_eq_true hlen
  subst hlen1
  replace hs : ((match (generalizing := false) st with
    | .int y :: .int x :: r => some (pc + 1, lv, .int (x <<< (y &&& 31)) :: r, h)
    | _ => none)) = some (pc', lv', st', h2) := hs
  split at hs
  next y x r => cases hs; exact lv_ishl hx hb hd (K _ _ _ hl hP hS)
  next => cases hs
set_option maxHeartbeats 1000000 in
theorem zs_ishr  {p : Program} {l : Launch} {e : Env} {R : Room} {s : State} {m : MethodId} {args : Array Value} {below : List Frame} {meth : Method} {c : Code} {D : va_G} {cT : CT} {β : Nat → Nat} {base : Nat} {me : ME} {Ts : List Cond} {n0 : Nat} {scr : Option (Nat × (Nat → Int32))} (C : Ctx p s m args meth c D cT base me Ts n0) (hsc : ScrOK scr β s base) (hβ : ∀ i, i < 4096 → β i = base + i) {pc len : Nat} {lv lv' : LV} {st st' : List Value} {h h2 : Hp} {pc' : Nat} (hs : zStep scr me.1 me.2.2.2.1 pc (isIni me) (.ishr) len lv st h = some (pc', lv', st', h2)) (hd : decode me.2.2.1 pc = .ok (.ishr, len)) (hlen : lenOK (.ishr) len = true) (hroom : rOKb me (pc, .ishr, len) = true) (hR : (me.2.2.2.2.2.2.1 ≤ R.frames ∧ me.2.2.2.2.2.2.2 ≤ R.locals) ∧ h2.1 - n0 ≤ R.cells ∧ szS h2.1 - szS n0 ≤ R.slots) (hn0 : n0 ≤ h.1) (h83 : h.1 ≤ 83) {H : Heap} {locs : List Loc} {ls : Array Slot} {Q : State → Prop} (hl : lv_has ls me.2.2.2.1 (cvL β lv)) (hP : va_P D vwCl (wsOf β cT h) H) (hS : va_S (fun q => base ≤ q) s.heap H locs)
    (K : ∀ (H' : Heap) (locs' : List Loc) (ls' : Array Slot), lv_has ls' me.2.2.2.1 (cvL β lv') → va_P D vwCl (wsOf β cT h2) H' → va_S (fun q => base ≤ q) s.heap H' locs' → W p l e R s m args below meth c H' locs' (h2.1 - n0) (szS h2.1 - szS n0) Q (F0 m pc' ls' (st'.map (cv β)))) :
    W p l e R s m args below meth c H locs (h.1 - n0) (szS h.1 - szS n0) Q (F0 m pc ls (st.map (cv β))) := by
  obtain ⟨hx, hb, hml, hown, hts, hG, hK, hsz, hmk, hini⟩ := C
  have hlen1 : len = 1 := Nat.eq_of_beq_eq_true hlen
  subst hlen1
  replace hs : ((match (generalizing := false) st with
    | .int y :: .int x :: r => some (pc + 1, lv, .int (x >>> (y &&& 31)) :: r, h)
    | _ => none)) = some (pc', lv', st', h2) := hs
  split at hs
  next y x r => cases hs; exact lv_ishr hx hb hd (K _ _ _ hl hP hS)
  next => cases hs
set_option maxHeartbeats 1000000 in
theorem zs_ladd  {p : Program} {l : Launch} {e : Env} {R : Room} {s : State} {m : MethodId} {args : Array Value} {below : List Frame} {meth : Method} {c : Code} {D : va_G} {cT : CT} {β : Nat → Nat} {base : Nat} {me : ME} {Ts : List Cond} {n0 : Nat} {scr : Option (Nat × (Nat → Int32))} (C : Ctx p s m args meth c D cT base me Ts n0) (hsc : ScrOK scr β s base) (hβ : ∀ i, i < 4096 → β i = base + i) {pc len : Nat} {lv lv' : LV} {st st' : List Value} {h h2 : Hp} {pc' : Nat} (hs : zStep scr me.1 me.2.2.2.1 pc (isIni me) (.ladd) len lv st h = some (pc', lv', st', h2)) (hd : decode me.2.2.1 pc = .ok (.ladd, len)) (hlen : lenOK (.ladd) len = true) (hroom : rOKb me (pc, .ladd, len) = true) (hR : (me.2.2.2.2.2.2.1 ≤ R.frames ∧ me.2.2.2.2.2.2.2 ≤ R.locals) ∧ h2.1 - n0 ≤ R.cells ∧ szS h2.1 - szS n0 ≤ R.slots) (hn0 : n0 ≤ h.1) (h83 : h.1 ≤ 83) {H : Heap} {locs : List Loc} {ls : Array Slot} {Q : State → Prop} (hl : lv_has ls me.2.2.2.1 (cvL β lv)) (hP : va_P D vwCl (wsOf β cT h) H) (hS : va_S (fun q => base ≤ q) s.heap H locs)
    (K : ∀ (H' : Heap) (locs' : List Loc) (ls' : Array Slot), lv_has ls' me.2.2.2.1 (cvL β lv') → va_P D vwCl (wsOf β cT h2) H' → va_S (fun q => base ≤ q) s.heap H' locs' → W p l e R s m args below meth c H' locs' (h2.1 - n0) (szS h2.1 - szS n0) Q (F0 m pc' ls' (st'.map (cv β)))) :
    W p l e R s m args below meth c H locs (h.1 - n0) (szS h.1 - szS n0) Q (F0 m pc ls (st.map (cv β))) := by
  obtain ⟨hx, hb, hml, hown, hts, hG, hK, hsz, hmk, hini⟩ := C
  have hlen1 : len = 1 := Nat.eq_of_beq_eq_true hlen
  subst hlen1
  replace hs : ((match (generalizing := false) st with
    | .long y :: .long x :: r => some (pc + 1, lv, .long (x + y) :: r, h)
    | _ => none)) = some (pc', lv', st', h2) := hs
  split at hs
  next y x r => cases hs; exact lv_ladd hx hb hd (K _ _ _ hl hP hS)
  next => cases hs
set_option maxHeartbeats 1000000 in
theorem zs_lsub  {p : Program} {l : Launch} {e : Env} {R : Room} {s : State} {m : MethodId} {args : Array Value} {below : List Frame} {meth : Method} {c : Code} {D : va_G} {cT : CT} {β : Nat → Nat} {base : Nat} {me : ME} {Ts : List Cond} {n0 : Nat} {scr : Option (Nat × (Nat → Int32))} (C : Ctx p s m args meth c D cT base me Ts n0) (hsc : ScrOK scr β s base) (hβ : ∀ i, i < 4096 → β i = base + i) {pc len : Nat} {lv lv' : LV} {st st' : List Value} {h h2 : Hp} {pc' : Nat} (hs : zStep scr me.1 me.2.2.2.1 pc (isIni me) (.lsub) len lv st h = some (pc', lv', st', h2)) (hd : decode me.2.2.1 pc = .ok (.lsub, len)) (hlen : lenOK (.lsub) len = true) (hroom : rOKb me (pc, .lsub, len) = true) (hR : (me.2.2.2.2.2.2.1 ≤ R.frames ∧ me.2.2.2.2.2.2.2 ≤ R.locals) ∧ h2.1 - n0 ≤ R.cells ∧ szS h2.1 - szS n0 ≤ R.slots) (hn0 : n0 ≤ h.1) (h83 : h.1 ≤ 83) {H : Heap} {locs : List Loc} {ls : Array Slot} {Q : State → Prop} (hl : lv_has ls me.2.2.2.1 (cvL β lv)) (hP : va_P D vwCl (wsOf β cT h) H) (hS : va_S (fun q => base ≤ q) s.heap H locs)
    (K : ∀ (H' : Heap) (locs' : List Loc) (ls' : Array Slot), lv_has ls' me.2.2.2.1 (cvL β lv') → va_P D vwCl (wsOf β cT h2) H' → va_S (fun q => base ≤ q) s.heap H' locs' → W p l e R s m args below meth c H' locs' (h2.1 - n0) (szS h2.1 - szS n0) Q (F0 m pc' ls' (st'.map (cv β)))) :
    W p l e R s m args below meth c H locs (h.1 - n0) (szS h.1 - szS n0) Q (F0 m pc ls (st.map (cv β))) := by
  obtain ⟨hx, hb, hml, hown, hts, hG, hK, hsz, hmk, hini⟩ := C
  have hlen1 : len = 1 := Nat.eq_of_beq_eq_true hlen
  subst hlen1
  replace hs : ((match (generalizing := false) st with
    | .long y :: .long x :: r => some (pc + 1, lv, .long (x - y) :: r, h)
    | _ => none)) = some (pc', lv', st', h2) := hs
  split at hs
  next y x r => cases hs; exact lv_lsub hx hb hd (K _ _ _ hl hP hS)
  next => cases hs
set_option maxHeartbeats 1000000 in
theorem zs_lmul  {p : Program} {l : Launch} {e : Env} {R : Room} {s : State} {m : MethodId} {args : Array Value} {below : List Frame} {meth : Method} {c : Code} {D : va_G} {cT : CT} {β : Nat → Nat} {base : Nat} {me : ME} {Ts : List Cond} {n0 : Nat} {scr : Option (Nat × (Nat → Int32))} (C : Ctx p s m args meth c D cT base me Ts n0) (hsc : ScrOK scr β s base) (hβ : ∀ i, i < 4096 → β i = base + i) {pc len : Nat} {lv lv' : LV} {st st' : List Value} {h h2 : Hp} {pc' : Nat} (hs : zStep scr me.1 me.2.2.2.1 pc (isIni me) (.lmul) len lv st h = some (pc', lv', st', h2)) (hd : decode me.2.2.1 pc = .ok (.lmul, len)) (hlen : lenOK (.lmul) len = true) (hroom : rOKb me (pc, .lmul, len) = true) (hR : (me.2.2.2.2.2.2.1 ≤ R.frames ∧ me.2.2.2.2.2.2.2 ≤ R.locals) ∧ h2.1 - n0 ≤ R.cells ∧ szS h2.1 - szS n0 ≤ R.slots) (hn0 : n0 ≤ h.1) (h83 : h.1 ≤ 83) {H : Heap} {locs : List Loc} {ls : Array Slot} {Q : State → Prop} (hl : lv_has ls me.2.2.2.1 (cvL β lv)) (hP : va_P D vwCl (wsOf β cT h) H) (hS : va_S (fun q => base ≤ q) s.heap H locs)
    (K : ∀ (H' : Heap) (locs' : List Loc) (ls' : Array Slot), lv_has ls' me.2.2.2.1 (cvL β lv') → va_P D vwCl (wsOf β cT h2) H' → va_S (fun q => base ≤ q) s.heap H' locs' → W p l e R s m args below meth c H' locs' (h2.1 - n0) (szS h2.1 - szS n0) Q (F0 m pc' ls' (st'.map (cv β)))) :
    W p l e R s m args below meth c H locs (h.1 - n0) (szS h.1 - szS n0) Q (F0 m pc ls (st.map (cv β))) := by
  obtain ⟨hx, hb, hml, hown, hts, hG, hK, hsz, hmk, hini⟩ := C
  have hlen1 : len = 1 := Nat.eq_of_beq_eq_true hlen
  subst hlen1
  replace hs : ((match (generalizing := false) st with
    | .long y :: .long x :: r => some (pc + 1, lv, .long (x * y) :: r, h)
    | _ => none)) = some (pc', lv', st', h2) := hs
  split at hs
  next y x r => cases hs; exact lv_lmul hx hb hd (K _ _ _ hl hP hS)
  next => cases hs
set_option maxHeartbeats 1000000 in
theorem zs_land  {p : Program} {l : Launch} {e : Env} {R : Room} {s : State} {m : MethodId} {args : Array Value} {below : List Frame} {meth : Method} {c : Code} {D : va_G} {cT : CT} {β : Nat → Nat} {base : Nat} {me : ME} {Ts : List Cond} {n0 : Nat} {scr : Option (Nat × (Nat → Int32))} (C : Ctx p s m args meth c D cT base me Ts n0) (hsc : ScrOK scr β s base) (hβ : ∀ i, i < 4096 → β i = base + i) {pc len : Nat} {lv lv' : LV} {st st' : List Value} {h h2 : Hp} {pc' : Nat} (hs : zStep scr me.1 me.2.2.2.1 pc (isIni me) (.land) len lv st h = some (pc', lv', st', h2)) (hd : decode me.2.2.1 pc = .ok (.land, len)) (hlen : lenOK (.land) len = true) (hroom : rOKb me (pc, .land, len) = true) (hR : (me.2.2.2.2.2.2.1 ≤ R.frames ∧ me.2.2.2.2.2.2.2 ≤ R.locals) ∧ h2.1 - n0 ≤ R.cells ∧ szS h2.1 - szS n0 ≤ R.slots) (hn0 : n0 ≤ h.1) (h83 : h.1 ≤ 83) {H : Heap} {locs : List Loc} {ls : Array Slot} {Q : State → Prop} (hl : lv_has ls me.2.2.2.1 (cvL β lv)) (hP : va_P D vwCl (wsOf β cT h) H) (hS : va_S (fun q => base ≤ q) s.heap H locs)
    (K : ∀ (H' : Heap) (locs' : List Loc) (ls' : Array Slot), lv_has ls' me.2.2.2.1 (cvL β lv') → va_P D vwCl (wsOf β cT h2) H' → va_S (fun q => base ≤ q) s.heap H' locs' → W p l e R s m args below meth c H' locs' (h2.1 - n0) (szS h2.1 - szS n0) Q (F0 m pc' ls' (st'.map (cv β)))) :
    W p l e R s m args below meth c H locs (h.1 - n0) (szS h.1 - szS n0) Q (F0 m pc ls (st.map (cv β))) := by
  obtain ⟨hx, hb, hml, hown, hts, hG, hK, hsz, hmk, hini⟩ := C
  have hlen1 : len = 1 := Nat.eq_of_beq_eq_true hlen
  subst hlen1
  replace hs : ((match (generalizing := false) st with
    | .long y :: .long x :: r => some (pc + 1, lv, .long (x &&& y) :: r, h)
    | _ => none)) = some (pc', lv', st', h2) := hs
  split at hs
  next y x r => cases hs; exact lv_land hx hb hd (K _ _ _ hl hP hS)
  next => cases hs
set_option maxHeartbeats 1000000 in
theorem zs_lor  {p : Program} {l : Launch} {e : Env} {R : Room} {s : State} {m : MethodId} {args : Array Value} {below : List Frame} {meth : Method} {c : Code} {D : va_G} {cT : CT} {β : Nat → Nat} {base : Nat} {me : ME} {Ts : List Cond} {n0 : Nat} {scr : Option (Nat × (Nat → Int32))} (C : Ctx p s m args meth c D cT base me Ts n0) (hsc : ScrOK scr β s base) (hβ : ∀ i, i < 4096 → β i = base + i) {pc len : Nat} {lv lv' : LV} {st st' : List Value} {h h2 : Hp} {pc' : Nat} (hs : zStep scr me.1 me.2.2.2.1 pc (isIni me) (.lor) len lv st h = some (pc', lv', st', h2)) (hd : decode me.2.2.1 pc = .ok (.lor, len)) (hlen : lenOK (.lor) len = true) (hroom : rOKb me (pc, .lor, len) = true) (hR : (me.2.2.2.2.2.2.1 ≤ R.frames ∧ me.2.2.2.2.2.2.2 ≤ R.locals) ∧ h2.1 - n0 ≤ R.cells ∧ szS h2.1 - szS n0 ≤ R.slots) (hn0 : n0 ≤ h.1) (h83 : h.1 ≤ 83) {H : Heap} {locs : List Loc} {ls : Array Slot} {Q : State → Prop} (hl : lv_has ls me.2.2.2.1 (cvL β lv)) (hP : va_P D vwCl (wsOf β cT h) H) (hS : va_S (fun q => base ≤ q) s.heap H locs)
    (K : ∀ (H' : Heap) (locs' : List Loc) (ls' : Array Slot), lv_has ls' me.2.2.2.1 (cvL β lv') → va_P D vwCl (wsOf β cT h2) H' → va_S (fun q => base ≤ q) s.heap H' locs' → W p l e R s m args below meth c H' locs' (h2.1 - n0) (szS h2.1 - szS n0) Q (F0 m pc' ls' (st'.map (cv β)))) :
    W p l e R s m args below meth c H locs (h.1 - n0) (szS h.1 - szS n0) Q (F0 m pc ls (st.map (cv β))) := by
  obtain ⟨hx, hb, hml, hown, hts, hG, hK, hsz, hmk, hini⟩ := C
  have hlen1 : len = 1 := Nat.eq_of_beq_eq_true hlen
  subst hlen1
  replace hs : ((match (generalizing := false) st with
    | .long y :: .long x :: r => some (pc + 1, lv, .long (x ||| y) :: r, h)
    | _ => none)) = some (pc', lv', st', h2) := hs
  split at hs
  next y x r => cases hs; exact lv_lor hx hb hd (K _ _ _ hl hP hS)
  next => cases hs
set_option maxHeartbeats 1000000 in
theorem zs_iushr  {p : Program} {l : Launch} {e : Env} {R : Room} {s : State} {m : MethodId} {args : Array Value} {below : List Frame} {meth : Method} {c : Code} {D : va_G} {cT : CT} {β : Nat → Nat} {base : Nat} {me : ME} {Ts : List Cond} {n0 : Nat} {scr : Option (Nat × (Nat → Int32))} (C : Ctx p s m args meth c D cT base me Ts n0) (hsc : ScrOK scr β s base) (hβ : ∀ i, i < 4096 → β i = base + i) {pc len : Nat} {lv lv' : LV} {st st' : List Value} {h h2 : Hp} {pc' : Nat} (hs : zStep scr me.1 me.2.2.2.1 pc (isIni me) (.iushr) len lv st h = some (pc', lv', st', h2)) (hd : decode me.2.2.1 pc = .ok (.iushr, len)) (hlen : lenOK (.iushr) len = true) (hroom : rOKb me (pc, .iushr, len) = true) (hR : (me.2.2.2.2.2.2.1 ≤ R.frames ∧ me.2.2.2.2.2.2.2 ≤ R.locals) ∧ h2.1 - n0 ≤ R.cells ∧ szS h2.1 - szS n0 ≤ R.slots) (hn0 : n0 ≤ h.1) (h83 : h.1 ≤ 83) {H : Heap} {locs : List Loc} {ls : Array Slot} {Q : State → Prop} (hl : lv_has ls me.2.2.2.1 (cvL β lv)) (hP : va_P D vwCl (wsOf β cT h) H) (hS : va_S (fun q => base ≤ q) s.heap H locs)
    (K : ∀ (H' : Heap) (locs' : List Loc) (ls' : Array Slot), lv_has ls' me.2.2.2.1 (cvL β lv') → va_P D vwCl (wsOf β cT h2) H' → va_S (fun q => base ≤ q) s.heap H' locs' → W p l e R s m args below meth c H' locs' (h2.1 - n0) (szS h2.1 - szS n0) Q (F0 m pc' ls' (st'.map (cv β)))) :
    W p l e R s m args below meth c H locs (h.1 - n0) (szS h.1 - szS n0) Q (F0 m pc ls (st.map (cv β))) := by
  obtain ⟨hx, hb, hml, hown, hts, hG, hK, hsz, hmk, hini⟩ := C
  have hlen1 : len = 1 := Nat.eq_of_beq_eq_true hlen
  subst hlen1
  replace hs : ((match (generalizing := false) st with
    | .int y :: .int x :: r => some (pc + 1, lv, .int (x.toUInt32 >>> (y.toUInt32 &&& Int32.toUInt32 31)).toInt32 :: r, h)
    | _ => none)) = some (pc', lv', st', h2) := hs
  split at hs
  next y x r => cases hs; exact lv_iushr hx hb hd rfl (K _ _ _ hl hP hS)
  next => cases hs
set_option maxHeartbeats 1000000 in
theorem zs_lshl  {p : Program} {l : Launch} {e : Env} {R : Room} {s : State} {m : MethodId} {args : Array Value} {below : List Frame} {meth : Method} {c : Code} {D : va_G} {cT : CT} {β : Nat → Nat} {base : Nat} {me : ME} {Ts : List Cond} {n0 : Nat} {scr : Option (Nat × (Nat → Int32))} (C : Ctx p s m args meth c D cT base me Ts n0) (hsc : ScrOK scr β s base) (hβ : ∀ i, i < 4096 → β i = base + i) {pc len : Nat} {lv lv' : LV} {st st' : List Value} {h h2 : Hp} {pc' : Nat} (hs : zStep scr me.1 me.2.2.2.1 pc (isIni me) (.lshl) len lv st h = some (pc', lv', st', h2)) (hd : decode me.2.2.1 pc = .ok (.lshl, len)) (hlen : lenOK (.lshl) len = true) (hroom : rOKb me (pc, .lshl, len) = true) (hR : (me.2.2.2.2.2.2.1 ≤ R.frames ∧ me.2.2.2.2.2.2.2 ≤ R.locals) ∧ h2.1 - n0 ≤ R.cells ∧ szS h2.1 - szS n0 ≤ R.slots) (hn0 : n0 ≤ h.1) (h83 : h.1 ≤ 83) {H : Heap} {locs : List Loc} {ls : Array Slot} {Q : State → Prop} (hl : lv_has ls me.2.2.2.1 (cvL β lv)) (hP : va_P D vwCl (wsOf β cT h) H) (hS : va_S (fun q => base ≤ q) s.heap H locs)
    (K : ∀ (H' : Heap) (locs' : List Loc) (ls' : Array Slot), lv_has ls' me.2.2.2.1 (cvL β lv') → va_P D vwCl (wsOf β cT h2) H' → va_S (fun q => base ≤ q) s.heap H' locs' → W p l e R s m args below meth c H' locs' (h2.1 - n0) (szS h2.1 - szS n0) Q (F0 m pc' ls' (st'.map (cv β)))) :
    W p l e R s m args below meth c H locs (h.1 - n0) (szS h.1 - szS n0) Q (F0 m pc ls (st.map (cv β))) := by
  obtain ⟨hx, hb, hml, hown, hts, hG, hK, hsz, hmk, hini⟩ := C
  have hlen1 : len = 1 := Nat.eq_of_beq_eq_true hlen
  subst hlen1
  replace hs : ((match (generalizing := false) st with
    | .int y :: .long x :: r => some (pc + 1, lv, .long (x <<< (y.toInt64 &&& 63)) :: r, h)
    | _ => none)) = some (pc', lv', st', h2) := hs
  split at hs
  next y x r => cases hs; exact lv_lshl hx hb hd rfl (K _ _ _ hl hP hS)
  next => cases hs
set_option maxHeartbeats 1000000 in
theorem zs_lshr  {p : Program} {l : Launch} {e : Env} {R : Room} {s : State} {m : MethodId} {args : Array Value} {below : List Frame} {meth : Method} {c : Code} {D : va_G} {cT : CT} {β : Nat → Nat} {base : Nat} {me : ME} {Ts : List Cond} {n0 : Nat} {scr : Option (Nat × (Nat → Int32))} (C : Ctx p s m args meth c D cT base me Ts n0) (hsc : ScrOK scr β s base) (hβ : ∀ i, i < 4096 → β i = base + i) {pc len : Nat} {lv lv' : LV} {st st' : List Value} {h h2 : Hp} {pc' : Nat} (hs : zStep scr me.1 me.2.2.2.1 pc (isIni me) (.lshr) len lv st h = some (pc', lv', st', h2)) (hd : decode me.2.2.1 pc = .ok (.lshr, len)) (hlen : lenOK (.lshr) len = true) (hroom : rOKb me (pc, .lshr, len) = true) (hR : (me.2.2.2.2.2.2.1 ≤ R.frames ∧ me.2.2.2.2.2.2.2 ≤ R.locals) ∧ h2.1 - n0 ≤ R.cells ∧ szS h2.1 - szS n0 ≤ R.slots) (hn0 : n0 ≤ h.1) (h83 : h.1 ≤ 83) {H : Heap} {locs : List Loc} {ls : Array Slot} {Q : State → Prop} (hl : lv_has ls me.2.2.2.1 (cvL β lv)) (hP : va_P D vwCl (wsOf β cT h) H) (hS : va_S (fun q => base ≤ q) s.heap H locs)
    (K : ∀ (H' : Heap) (locs' : List Loc) (ls' : Array Slot), lv_has ls' me.2.2.2.1 (cvL β lv') → va_P D vwCl (wsOf β cT h2) H' → va_S (fun q => base ≤ q) s.heap H' locs' → W p l e R s m args below meth c H' locs' (h2.1 - n0) (szS h2.1 - szS n0) Q (F0 m pc' ls' (st'.map (cv β)))) :
    W p l e R s m args below meth c H locs (h.1 - n0) (szS h.1 - szS n0) Q (F0 m pc ls (st.map (cv β))) := by
  obtain ⟨hx, hb, hml, hown, hts, hG, hK, hsz, hmk, hini⟩ := C
  have hlen1 : len = 1 := Nat.eq_of_beq_eq_true hlen
  subst hlen1
  replace hs : ((match (generalizing := false) st with
    | .int y :: .long x :: r => some (pc + 1, lv, .long (x >>> (y.toInt64 &&& 63)) :: r, h)
    | _ => none)) = some (pc', lv', st', h2) := hs
  split at hs
  next y x r => cases hs; exact lv_lshr hx hb hd rfl (K _ _ _ hl hP hS)
  next => cases hs
set_option maxHeartbeats 1000000 in
theorem zs_lcmp  {p : Program} {l : Launch} {e : Env} {R : Room} {s : State} {m : MethodId} {args : Array Value} {below : List Frame} {meth : Method} {c : Code} {D : va_G} {cT : CT} {β : Nat → Nat} {base : Nat} {me : ME} {Ts : List Cond} {n0 : Nat} {scr : Option (Nat × (Nat → Int32))} (C : Ctx p s m args meth c D cT base me Ts n0) (hsc : ScrOK scr β s base) (hβ : ∀ i, i < 4096 → β i = base + i) {pc len : Nat} {lv lv' : LV} {st st' : List Value} {h h2 : Hp} {pc' : Nat} (hs : zStep scr me.1 me.2.2.2.1 pc (isIni me) (.lcmp) len lv st h = some (pc', lv', st', h2)) (hd : decode me.2.2.1 pc = .ok (.lcmp, len)) (hlen : lenOK (.lcmp) len = true) (hroom : rOKb me (pc, .lcmp, len) = true) (hR : (me.2.2.2.2.2.2.1 ≤ R.frames ∧ me.2.2.2.2.2.2.2 ≤ R.locals) ∧ h2.1 - n0 ≤ R.cells ∧ szS h2.1 - szS n0 ≤ R.slots) (hn0 : n0 ≤ h.1) (h83 : h.1 ≤ 83) {H : Heap} {locs : List Loc} {ls : Array Slot} {Q : State → Prop} (hl : lv_has ls me.2.2.2.1 (cvL β lv)) (hP : va_P D vwCl (wsOf β cT h) H) (hS : va_S (fun q => base ≤ q) s.heap H locs)
    (K : ∀ (H' : Heap) (locs' : List Loc) (ls' : Array Slot), lv_has ls' me.2.2.2.1 (cvL β lv') → va_P D vwCl (wsOf β cT h2) H' → va_S (fun q => base ≤ q) s.heap H' locs' → W p l e R s m args below meth c H' locs' (h2.1 - n0) (szS h2.1 - szS n0) Q (F0 m pc' ls' (st'.map (cv β)))) :
    W p l e R s m args below meth c H locs (h.1 - n0) (szS h.1 - szS n0) Q (F0 m pc ls (st.map (cv β))) := by
  obtain ⟨hx, hb, hml, hown, hts, hG, hK, hsz, hmk, hini⟩ := C
  have hlen1 : len = 1 := Nat.eq_of_beq_eq_true hlen
  subst hlen1
  replace hs : ((match (generalizing := false) st with
    | .long y :: .long x :: r => some (pc + 1, lv, .int (lg_cmp x y) :: r, h)
    | _ => none)) = some (pc', lv', st', h2) := hs
  split at hs
  next y x r => cases hs; exact W.lcmp hx hb hd (K _ _ _ hl hP hS)
  next => cases hs
set_option maxHeartbeats 1000000 in
theorem zs_ineg  {p : Program} {l : Launch} {e : Env} {R : Room} {s : State} {m : MethodId} {args : Array Value} {below : List Frame} {meth : Method} {c : Code} {D : va_G} {cT : CT} {β : Nat → Nat} {base : Nat} {me : ME} {Ts : List Cond} {n0 : Nat} {scr : Option (Nat × (Nat → Int32))} (C : Ctx p s m args meth c D cT base me Ts n0) (hsc : ScrOK scr β s base) (hβ : ∀ i, i < 4096 → β i = base + i) {pc len : Nat} {lv lv' : LV} {st st' : List Value} {h h2 : Hp} {pc' : Nat} (hs : zStep scr me.1 me.2.2.2.1 pc (isIni me) (.ineg) len lv st h = some (pc', lv', st', h2)) (hd : decode me.2.2.1 pc = .ok (.ineg, len)) (hlen : lenOK (.ineg) len = true) (hroom : rOKb me (pc, .ineg, len) = true) (hR : (me.2.2.2.2.2.2.1 ≤ R.frames ∧ me.2.2.2.2.2.2.2 ≤ R.locals) ∧ h2.1 - n0 ≤ R.cells ∧ szS h2.1 - szS n0 ≤ R.slots) (hn0 : n0 ≤ h.1) (h83 : h.1 ≤ 83) {H : Heap} {locs : List Loc} {ls : Array Slot} {Q : State → Prop} (hl : lv_has ls me.2.2.2.1 (cvL β lv)) (hP : va_P D vwCl (wsOf β cT h) H) (hS : va_S (fun q => base ≤ q) s.heap H locs)
    (K : ∀ (H' : Heap) (locs' : List Loc) (ls' : Array Slot), lv_has ls' me.2.2.2.1 (cvL β lv') → va_P D vwCl (wsOf β cT h2) H' → va_S (fun q => base ≤ q) s.heap H' locs' → W p l e R s m args below meth c H' locs' (h2.1 - n0) (szS h2.1 - szS n0) Q (F0 m pc' ls' (st'.map (cv β)))) :
    W p l e R s m args below meth c H locs (h.1 - n0) (szS h.1 - szS n0) Q (F0 m pc ls (st.map (cv β))) := by
  obtain ⟨hx, hb, hml, hown, hts, hG, hK, hsz, hmk, hini⟩ := C
  have hlen1 : len = 1 := Nat.eq_of_beq_eq_true hlen
  subst hlen1
  replace hs : ((match (generalizing := false) st with
    | .int x :: r => some (pc + 1, lv, .int (-x) :: r, h)
    | _ => none)) = some (pc', lv', st', h2) := hs
  split at hs
  next x r => cases hs; exact lv_ineg hx hb hd (K _ _ _ hl hP hS)
  next => cases hs
set_option maxHeartbeats 1000000 in
theorem zs_i2l  {p : Program} {l : Launch} {e : Env} {R : Room} {s : State} {m : MethodId} {args : Array Value} {below : List Frame} {meth : Method} {c : Code} {D : va_G} {cT : CT} {β : Nat → Nat} {base : Nat} {me : ME} {Ts : List Cond} {n0 : Nat} {scr : Option (Nat × (Nat → Int32))} (C : Ctx p s m args meth c D cT base me Ts n0) (hsc : ScrOK scr β s base) (hβ : ∀ i, i < 4096 → β i = base + i) {pc len : Nat} {lv lv' : LV} {st st' : List Value} {h h2 : Hp} {pc' : Nat} (hs : zStep scr me.1 me.2.2.2.1 pc (isIni me) (.i2l) len lv st h = some (pc', lv', st', h2)) (hd : decode me.2.2.1 pc = .ok (.i2l, len)) (hlen : lenOK (.i2l) len = true) (hroom : rOKb me (pc, .i2l, len) = true) (hR : (me.2.2.2.2.2.2.1 ≤ R.frames ∧ me.2.2.2.2.2.2.2 ≤ R.locals) ∧ h2.1 - n0 ≤ R.cells ∧ szS h2.1 - szS n0 ≤ R.slots) (hn0 : n0 ≤ h.1) (h83 : h.1 ≤ 83) {H : Heap} {locs : List Loc} {ls : Array Slot} {Q : State → Prop} (hl : lv_has ls me.2.2.2.1 (cvL β lv)) (hP : va_P D vwCl (wsOf β cT h) H) (hS : va_S (fun q => base ≤ q) s.heap H locs)
    (K : ∀ (H' : Heap) (locs' : List Loc) (ls' : Array Slot), lv_has ls' me.2.2.2.1 (cvL β lv') → va_P D vwCl (wsOf β cT h2) H' → va_S (fun q => base ≤ q) s.heap H' locs' → W p l e R s m args below meth c H' locs' (h2.1 - n0) (szS h2.1 - szS n0) Q (F0 m pc' ls' (st'.map (cv β)))) :
    W p l e R s m args below meth c H locs (h.1 - n0) (szS h.1 - szS n0) Q (F0 m pc ls (st.map (cv β))) := by
  obtain ⟨hx, hb, hml, hown, hts, hG, hK, hsz, hmk, hini⟩ := C
  have hlen1 : len = 1 := Nat.eq_of_beq_eq_true hlen
  subst hlen1
  replace hs : ((match (generalizing := false) st with
    | .int x :: r => some (pc + 1, lv, .long x.toInt64 :: r, h)
    | _ => none)) = some (pc', lv', st', h2) := hs
  split at hs
  next x r => cases hs; exact lv_i2l hx hb hd rfl (K _ _ _ hl hP hS)
  next => cases hs
set_option maxHeartbeats 1000000 in
theorem zs_i2b  {p : Program} {l : Launch} {e : Env} {R : Room} {s : State} {m : MethodId} {args : Array Value} {below : List Frame} {meth : Method} {c : Code} {D : va_G} {cT : CT} {β : Nat → Nat} {base : Nat} {me : ME} {Ts : List Cond} {n0 : Nat} {scr : Option (Nat × (Nat → Int32))} (C : Ctx p s m args meth c D cT base me Ts n0) (hsc : ScrOK scr β s base) (hβ : ∀ i, i < 4096 → β i = base + i) {pc len : Nat} {lv lv' : LV} {st st' : List Value} {h h2 : Hp} {pc' : Nat} (hs : zStep scr me.1 me.2.2.2.1 pc (isIni me) (.i2b) len lv st h = some (pc', lv', st', h2)) (hd : decode me.2.2.1 pc = .ok (.i2b, len)) (hlen : lenOK (.i2b) len = true) (hroom : rOKb me (pc, .i2b, len) = true) (hR : (me.2.2.2.2.2.2.1 ≤ R.frames ∧ me.2.2.2.2.2.2.2 ≤ R.locals) ∧ h2.1 - n0 ≤ R.cells ∧ szS h2.1 - szS n0 ≤ R.slots) (hn0 : n0 ≤ h.1) (h83 : h.1 ≤ 83) {H : Heap} {locs : List Loc} {ls : Array Slot} {Q : State → Prop} (hl : lv_has ls me.2.2.2.1 (cvL β lv)) (hP : va_P D vwCl (wsOf β cT h) H) (hS : va_S (fun q => base ≤ q) s.heap H locs)
    (K : ∀ (H' : Heap) (locs' : List Loc) (ls' : Array Slot), lv_has ls' me.2.2.2.1 (cvL β lv') → va_P D vwCl (wsOf β cT h2) H' → va_S (fun q => base ≤ q) s.heap H' locs' → W p l e R s m args below meth c H' locs' (h2.1 - n0) (szS h2.1 - szS n0) Q (F0 m pc' ls' (st'.map (cv β)))) :
    W p l e R s m args below meth c H locs (h.1 - n0) (szS h.1 - szS n0) Q (F0 m pc ls (st.map (cv β))) := by
  obtain ⟨hx, hb, hml, hown, hts, hG, hK, hsz, hmk, hini⟩ := C
  have hlen1 : len = 1 := Nat.eq_of_beq_eq_true hlen
  subst hlen1
  replace hs : ((match (generalizing := false) st with
    | .int x :: r => some (pc + 1, lv, .int x.toInt8.toInt32 :: r, h)
    | _ => none)) = some (pc', lv', st', h2) := hs
  split at hs
  next x r => cases hs; exact lv_i2b hx hb hd rfl (K _ _ _ hl hP hS)
  next => cases hs
set_option maxHeartbeats 1000000 in
theorem zs_l2i  {p : Program} {l : Launch} {e : Env} {R : Room} {s : State} {m : MethodId} {args : Array Value} {below : List Frame} {meth : Method} {c : Code} {D : va_G} {cT : CT} {β : Nat → Nat} {base : Nat} {me : ME} {Ts : List Cond} {n0 : Nat} {scr : Option (Nat × (Nat → Int32))} (C : Ctx p s m args meth c D cT base me Ts n0) (hsc : ScrOK scr β s base) (hβ : ∀ i, i < 4096 → β i = base + i) {pc len : Nat} {lv lv' : LV} {st st' : List Value} {h h2 : Hp} {pc' : Nat} (hs : zStep scr me.1 me.2.2.2.1 pc (isIni me) (.l2i) len lv st h = some (pc', lv', st', h2)) (hd : decode me.2.2.1 pc = .ok (.l2i, len)) (hlen : lenOK (.l2i) len = true) (hroom : rOKb me (pc, .l2i, len) = true) (hR : (me.2.2.2.2.2.2.1 ≤ R.frames ∧ me.2.2.2.2.2.2.2 ≤ R.locals) ∧ h2.1 - n0 ≤ R.cells ∧ szS h2.1 - szS n0 ≤ R.slots) (hn0 : n0 ≤ h.1) (h83 : h.1 ≤ 83) {H : Heap} {locs : List Loc} {ls : Array Slot} {Q : State → Prop} (hl : lv_has ls me.2.2.2.1 (cvL β lv)) (hP : va_P D vwCl (wsOf β cT h) H) (hS : va_S (fun q => base ≤ q) s.heap H locs)
    (K : ∀ (H' : Heap) (locs' : List Loc) (ls' : Array Slot), lv_has ls' me.2.2.2.1 (cvL β lv') → va_P D vwCl (wsOf β cT h2) H' → va_S (fun q => base ≤ q) s.heap H' locs' → W p l e R s m args below meth c H' locs' (h2.1 - n0) (szS h2.1 - szS n0) Q (F0 m pc' ls' (st'.map (cv β)))) :
    W p l e R s m args below meth c H locs (h.1 - n0) (szS h.1 - szS n0) Q (F0 m pc ls (st.map (cv β))) := by
  obtain ⟨hx, hb, hml, hown, hts, hG, hK, hsz, hmk, hini⟩ := C
  have hlen1 : len = 1 := Nat.eq_of_beq_eq_true hlen
  subst hlen1
  replace hs : ((match (generalizing := false) st with
    | .long x :: r => some (pc + 1, lv, .int x.toInt32 :: r, h)
    | _ => none)) = some (pc', lv', st', h2) := hs
  split at hs
  next x r => cases hs; exact lv_l2i hx hb hd rfl (K _ _ _ hl hP hS)
  next => cases hs
set_option maxHeartbeats 1000000 in
theorem zs_idiv  {p : Program} {l : Launch} {e : Env} {R : Room} {s : State} {m : MethodId} {args : Array Value} {below : List Frame} {meth : Method} {c : Code} {D : va_G} {cT : CT} {β : Nat → Nat} {base : Nat} {me : ME} {Ts : List Cond} {n0 : Nat} {scr : Option (Nat × (Nat → Int32))} (C : Ctx p s m args meth c D cT base me Ts n0) (hsc : ScrOK scr β s base) (hβ : ∀ i, i < 4096 → β i = base + i) {pc len : Nat} {lv lv' : LV} {st st' : List Value} {h h2 : Hp} {pc' : Nat} (hs : zStep scr me.1 me.2.2.2.1 pc (isIni me) (.idiv) len lv st h = some (pc', lv', st', h2)) (hd : decode me.2.2.1 pc = .ok (.idiv, len)) (hlen : lenOK (.idiv) len = true) (hroom : rOKb me (pc, .idiv, len) = true) (hR : (me.2.2.2.2.2.2.1 ≤ R.frames ∧ me.2.2.2.2.2.2.2 ≤ R.locals) ∧ h2.1 - n0 ≤ R.cells ∧ szS h2.1 - szS n0 ≤ R.slots) (hn0 : n0 ≤ h.1) (h83 : h.1 ≤ 83) {H : Heap} {locs : List Loc} {ls : Array Slot} {Q : State → Prop} (hl : lv_has ls me.2.2.2.1 (cvL β lv)) (hP : va_P D vwCl (wsOf β cT h) H) (hS : va_S (fun q => base ≤ q) s.heap H locs)
    (K : ∀ (H' : Heap) (locs' : List Loc) (ls' : Array Slot), lv_has ls' me.2.2.2.1 (cvL β lv') → va_P D vwCl (wsOf β cT h2) H' → va_S (fun q => base ≤ q) s.heap H' locs' → W p l e R s m args below meth c H' locs' (h2.1 - n0) (szS h2.1 - szS n0) Q (F0 m pc' ls' (st'.map (cv β)))) :
    W p l e R s m args below meth c H locs (h.1 - n0) (szS h.1 - szS n0) Q (F0 m pc ls (st.map (cv β))) := by
  obtain ⟨hx, hb, hml, hown, hts, hG, hK, hsz, hmk, hini⟩ := C
  have hlen1 : len = 1 := Nat.eq_of_beq_eq_true hlen
  subst hlen1
  replace hs : ((match (generalizing := false) st with
    | .int y :: .int x :: r => if y = 0 then none else some (pc + 1, lv, .int (x / y) :: r, h)
    | _ => none)) = some (pc', lv', st', h2) := hs
  split at hs
  next y x r =>
    split at hs
    next => cases hs
    next hne => cases hs; exact lv_idiv hx hb hd hne (K _ _ _ hl hP hS)
  next => cases hs
set_option maxHeartbeats 1000000 in
theorem zs_irem  {p : Program} {l : Launch} {e : Env} {R : Room} {s : State} {m : MethodId} {args : Array Value} {below : List Frame} {meth : Method} {c : Code} {D : va_G} {cT : CT} {β : Nat → Nat} {base : Nat} {me : ME} {Ts : List Cond} {n0 : Nat} {scr : Option (Nat × (Nat → Int32))} (C : Ctx p s m args meth c D cT base me Ts n0) (hsc : ScrOK scr β s base) (hβ : ∀ i, i < 4096 → β i = base + i) {pc len : Nat} {lv lv' : LV} {st st' : List Value} {h h2 : Hp} {pc' : Nat} (hs : zStep scr me.1 me.2.2.2.1 pc (isIni me) (.irem) len lv st h = some (pc', lv', st', h2)) (hd : decode me.2.2.1 pc = .ok (.irem, len)) (hlen : lenOK (.irem) len = true) (hroom : rOKb me (pc, .irem, len) = true) (hR : (me.2.2.2.2.2.2.1 ≤ R.frames ∧ me.2.2.2.2.2.2.2 ≤ R.locals) ∧ h2.1 - n0 ≤ R.cells ∧ szS h2.1 - szS n0 ≤ R.slots) (hn0 : n0 ≤ h.1) (h83 : h.1 ≤ 83) {H : Heap} {locs : List Loc} {ls : Array Slot} {Q : State → Prop} (hl : lv_has ls me.2.2.2.1 (cvL β lv)) (hP : va_P D vwCl (wsOf β cT h) H) (hS : va_S (fun q => base ≤ q) s.heap H locs)
    (K : ∀ (H' : Heap) (locs' : List Loc) (ls' : Array Slot), lv_has ls' me.2.2.2.1 (cvL β lv') → va_P D vwCl (wsOf β cT h2) H' → va_S (fun q => base ≤ q) s.heap H' locs' → W p l e R s m args below meth c H' locs' (h2.1 - n0) (szS h2.1 - szS n0) Q (F0 m pc' ls' (st'.map (cv β)))) :
    W p l e R s m args below meth c H locs (h.1 - n0) (szS h.1 - szS n0) Q (F0 m pc ls (st.map (cv β))) := by
  obtain ⟨hx, hb, hml, hown, hts, hG, hK, hsz, hmk, hini⟩ := C
  have hlen1 : len = 1 := Nat.eq_of_beq_eq_true hlen
  subst hlen1
  replace hs : ((match (generalizing := false) st with
    | .int y :: .int x :: r => if y = 0 then none else some (pc + 1, lv, .int (x - x / y * y) :: r, h)
    | _ => none)) = some (pc', lv', st', h2) := hs
  split at hs
  next y x r =>
    split at hs
    next => cases hs
    next hne => cases hs; exact lv_irem hx hb hd hne (K _ _ _ hl hP hS)
  next => cases hs
set_option maxHeartbeats 1000000 in
theorem zs_ldiv  {p : Program} {l : Launch} {e : Env} {R : Room} {s : State} {m : MethodId} {args : Array Value} {below : List Frame} {meth : Method} {c : Code} {D : va_G} {cT : CT} {β : Nat → Nat} {base : Nat} {me : ME} {Ts : List Cond} {n0 : Nat} {scr : Option (Nat × (Nat → Int32))} (C : Ctx p s m args meth c D cT base me Ts n0) (hsc : ScrOK scr β s base) (hβ : ∀ i, i < 4096 → β i = base + i) {pc len : Nat} {lv lv' : LV} {st st' : List Value} {h h2 : Hp} {pc' : Nat} (hs : zStep scr me.1 me.2.2.2.1 pc (isIni me) (.ldiv) len lv st h = some (pc', lv', st', h2)) (hd : decode me.2.2.1 pc = .ok (.ldiv, len)) (hlen : lenOK (.ldiv) len = true) (hroom : rOKb me (pc, .ldiv, len) = true) (hR : (me.2.2.2.2.2.2.1 ≤ R.frames ∧ me.2.2.2.2.2.2.2 ≤ R.locals) ∧ h2.1 - n0 ≤ R.cells ∧ szS h2.1 - szS n0 ≤ R.slots) (hn0 : n0 ≤ h.1) (h83 : h.1 ≤ 83) {H : Heap} {locs : List Loc} {ls : Array Slot} {Q : State → Prop} (hl : lv_has ls me.2.2.2.1 (cvL β lv)) (hP : va_P D vwCl (wsOf β cT h) H) (hS : va_S (fun q => base ≤ q) s.heap H locs)
    (K : ∀ (H' : Heap) (locs' : List Loc) (ls' : Array Slot), lv_has ls' me.2.2.2.1 (cvL β lv') → va_P D vwCl (wsOf β cT h2) H' → va_S (fun q => base ≤ q) s.heap H' locs' → W p l e R s m args below meth c H' locs' (h2.1 - n0) (szS h2.1 - szS n0) Q (F0 m pc' ls' (st'.map (cv β)))) :
    W p l e R s m args below meth c H locs (h.1 - n0) (szS h.1 - szS n0) Q (F0 m pc ls (st.map (cv β))) := by
  obtain ⟨hx, hb, hml, hown, hts, hG, hK, hsz, hmk, hini⟩ := C
  have hlen1 : len = 1 := Nat.eq_of_beq_eq_true hlen
  subst hlen1
  replace hs : ((match (generalizing := false) st with
    | .long y :: .long x :: r => if y = 0 then none else some (pc + 1, lv, .long (x / y) :: r, h)
    | _ => none)) = some (pc', lv', st', h2) := hs
  split at hs
  next y x r =>
    split at hs
    next => cases hs
    next hne => cases hs; exact lv_ldiv hx hb hd hne (K _ _ _ hl hP hS)
  next => cases hs
set_option maxHeartbeats 1000000 in
theorem zs_lrem  {p : Program} {l : Launch} {e : Env} {R : Room} {s : State} {m : MethodId} {args : Array Value} {below : List Frame} {meth : Method} {c : Code} {D : va_G} {cT : CT} {β : Nat → Nat} {base : Nat} {me : ME} {Ts : List Cond} {n0 : Nat} {scr : Option (Nat × (Nat → Int32))} (C : Ctx p s m args meth c D cT base me Ts n0) (hsc : ScrOK scr β s base) (hβ : ∀ i, i < 4096 → β i = base + i) {pc len : Nat} {lv lv' : LV} {st st' : List Value} {h h2 : Hp} {pc' : Nat} (hs : zStep scr me.1 me.2.2.2.1 pc (isIni me) (.lrem) len lv st h = some (pc', lv', st', h2)) (hd : decode me.2.2.1 pc = .ok (.lrem, len)) (hlen : lenOK (.lrem) len = true) (hroom : rOKb me (pc, .lrem, len) = true) (hR : (me.2.2.2.2.2.2.1 ≤ R.frames ∧ me.2.2.2.2.2.2.2 ≤ R.locals) ∧ h2.1 - n0 ≤ R.cells ∧ szS h2.1 - szS n0 ≤ R.slots) (hn0 : n0 ≤ h.1) (h83 : h.1 ≤ 83) {H : Heap} {locs : List Loc} {ls : Array Slot} {Q : State → Prop} (hl : lv_has ls me.2.2.2.1 (cvL β lv)) (hP : va_P D vwCl (wsOf β cT h) H) (hS : va_S (fun q => base ≤ q) s.heap H locs)
    (K : ∀ (H' : Heap) (locs' : List Loc) (ls' : Array Slot), lv_has ls' me.2.2.2.1 (cvL β lv') → va_P D vwCl (wsOf β cT h2) H' → va_S (fun q => base ≤ q) s.heap H' locs' → W p l e R s m args below meth c H' locs' (h2.1 - n0) (szS h2.1 - szS n0) Q (F0 m pc' ls' (st'.map (cv β)))) :
    W p l e R s m args below meth c H locs (h.1 - n0) (szS h.1 - szS n0) Q (F0 m pc ls (st.map (cv β))) := by
  obtain ⟨hx, hb, hml, hown, hts, hG, hK, hsz, hmk, hini⟩ := C
  have hlen1 : len = 1 := Nat.eq_of_beq_eq_true hlen
  subst hlen1
  replace hs : ((match (generalizing := false) st with
    | .long y :: .long x :: r => if y = 0 then none else some (pc + 1, lv, .long (x - x / y * y) :: r, h)
    | _ => none)) = some (pc', lv', st', h2) := hs
  split at hs
  next y x r =>
    split at hs
    next => cases hs
    next hne => cases hs; exact lv_lrem hx hb hd hne (K _ _ _ hl hP hS)
  next => cases hs
set_option maxHeartbeats 1000000 in
theorem zs_goto (off : Int) {p : Program} {l : Launch} {e : Env} {R : Room} {s : State} {m : MethodId} {args : Array Value} {below : List Frame} {meth : Method} {c : Code} {D : va_G} {cT : CT} {β : Nat → Nat} {base : Nat} {me : ME} {Ts : List Cond} {n0 : Nat} {scr : Option (Nat × (Nat → Int32))} (C : Ctx p s m args meth c D cT base me Ts n0) (hsc : ScrOK scr β s base) (hβ : ∀ i, i < 4096 → β i = base + i) {pc len : Nat} {lv lv' : LV} {st st' : List Value} {h h2 : Hp} {pc' : Nat} (hs : zStep scr me.1 me.2.2.2.1 pc (isIni me) (.goto off) len lv st h = some (pc', lv', st', h2)) (hd : decode me.2.2.1 pc = .ok (.goto off, len)) (hlen : lenOK (.goto off) len = true) (hroom : rOKb me (pc, .goto off, len) = true) (hR : (me.2.2.2.2.2.2.1 ≤ R.frames ∧ me.2.2.2.2.2.2.2 ≤ R.locals) ∧ h2.1 - n0 ≤ R.cells ∧ szS h2.1 - szS n0 ≤ R.slots) (hn0 : n0 ≤ h.1) (h83 : h.1 ≤ 83) {H : Heap} {locs : List Loc} {ls : Array Slot} {Q : State → Prop} (hl : lv_has ls me.2.2.2.1 (cvL β lv)) (hP : va_P D vwCl (wsOf β cT h) H) (hS : va_S (fun q => base ≤ q) s.heap H locs)
    (K : ∀ (H' : Heap) (locs' : List Loc) (ls' : Array Slot), lv_has ls' me.2.2.2.1 (cvL β lv') → va_P D vwCl (wsOf β cT h2) H' → va_S (fun q => base ≤ q) s.heap H' locs' → W p l e R s m args below meth c H' locs' (h2.1 - n0) (szS h2.1 - szS n0) Q (F0 m pc' ls' (st'.map (cv β)))) :
    W p l e R s m args below meth c H locs (h.1 - n0) (szS h.1 - szS n0) Q (F0 m pc ls (st.map (cv β))) := by
  obtain ⟨hx, hb, hml, hown, hts, hG, hK, hsz, hmk, hini⟩ := C
  have hlen1 : len = 3 := Nat.eq_of_beq_eq_true hlen
  subst hlen1
  replace hs : ((match (generalizing := false) jmp pc off with
    | some t => some (t, lv, st, h)
    | none => none)) = some (pc', lv', st', h2) := hs
  split at hs
  next t ht => cases hs; exact lv_goto hx hb hd (jmp_spec ht) (K _ _ _ hl hP hS)
  next => cases hs
set_option maxHeartbeats 1000000 in
theorem zs_if_icmp (c0 : ClassFile.Cond) (off : Int) {p : Program} {l : Launch} {e : Env} {R : Room} {s : State} {m : MethodId} {args : Array Value} {below : List Frame} {meth : Method} {c : Code} {D : va_G} {cT : CT} {β : Nat → Nat} {base : Nat} {me : ME} {Ts : List Cond} {n0 : Nat} {scr : Option (Nat × (Nat → Int32))} (C : Ctx p s m args meth c D cT base me Ts n0) (hsc : ScrOK scr β s base) (hβ : ∀ i, i < 4096 → β i = base + i) {pc len : Nat} {lv lv' : LV} {st st' : List Value} {h h2 : Hp} {pc' : Nat} (hs : zStep scr me.1 me.2.2.2.1 pc (isIni me) (.if_icmp c0 off) len lv st h = some (pc', lv', st', h2)) (hd : decode me.2.2.1 pc = .ok (.if_icmp c0 off, len)) (hlen : lenOK (.if_icmp c0 off) len = true) (hroom : rOKb me (pc, .if_icmp c0 off, len) = true) (hR : (me.2.2.2.2.2.2.1 ≤ R.frames ∧ me.2.2.2.2.2.2.2 ≤ R.locals) ∧ h2.1 - n0 ≤ R.cells ∧ szS h2.1 - szS n0 ≤ R.slots) (hn0 : n0 ≤ h.1) (h83 : h.1 ≤ 83) {H : Heap} {locs : List Loc} {ls : Array Slot} {Q : State → Prop} (hl : lv_has ls me.2.2.2.1 (cvL β lv)) (hP : va_P D vwCl (wsOf β cT h) H) (hS : va_S (fun q => base ≤ q) s.heap H locs)
    (K : ∀ (H' : Heap) (locs' : List Loc) (ls' : Array Slot), lv_has ls' me.2.2.2.1 (cvL β lv') → va_P D vwCl (wsOf β cT h2) H' → va_S (fun q => base ≤ q) s.heap H' locs' → W p l e R s m args below meth c H' locs' (h2.1 - n0) (szS h2.1 - szS n0) Q (F0 m pc' ls' (st'.map (cv β)))) :
    W p l e R s m args below meth c H locs (h.1 - n0) (szS h.1 - szS n0) Q (F0 m pc ls (st.map (cv β))) := by
  obtain ⟨hx, hb, hml, hown, hts, hG, hK, hsz, hmk, hini⟩ := C
  have hlen1 : len = 3 := Nat.eq_of_beq_eq_true hlen
  subst hlen1
  replace hs : ((match (generalizing := false) st with
    | .int y :: .int x :: r => (match (generalizing := false) jmp pc off with
      | some t => if cnd c0 x y = true then some (t, lv, r, h) else some (pc + 3, lv, r, h)
      | none => none)
    | _ => none)) = some (pc', lv', st', h2) := hs
  split at hs
  next y x r =>
    split at hs
    next t ht =>
      cases c0 with
      | eq =>
        refine lv_icmp_eq (tgt := t) hx hb hd (jmp_spec ht) (fun hc => ?_) (fun hc => ?_)
        · rw [if_pos (by simpa [cnd] using hc)] at hs; cases hs; exact K _ _ _ hl hP hS
        · rw [if_neg (by simpa [cnd] using hc)] at hs; cases hs; exact K _ _ _ hl hP hS
      | ne =>
        refine lv_icmp_ne (tgt := t) hx hb hd (jmp_spec ht) (fun hc => ?_) (fun hc => ?_)
        · rw [if_pos (by simpa [cnd] using hc)] at hs; cases hs; exact K _ _ _ hl hP hS
        · rw [if_neg (by simpa [cnd] using hc)] at hs; cases hs; exact K _ _ _ hl hP hS
      | lt =>
        refine lv_icmp_lt (tgt := t) hx hb hd (jmp_spec ht) (fun hc => ?_) (fun hc => ?_)
        · rw [if_pos (by simpa [cnd] using hc)] at hs; cases hs; exact K _ _ _ hl hP hS
        · rw [if_neg (by simpa [cnd] using hc)] at hs; cases hs; exact K _ _ _ hl hP hS
      | ge =>
        refine lv_icmp_ge (tgt := t) hx hb hd (jmp_spec ht) (fun hc => ?_) (fun hc => ?_)
        · rw [if_pos (by simpa [cnd] using hc)] at hs; cases hs; exact K _ _ _ hl hP hS
        · rw [if_neg (by simpa [cnd] using hc)] at hs; cases hs; exact K _ _ _ hl hP hS
      | gt =>
        refine lv_icmp_gt (tgt := t) hx hb hd (jmp_spec ht) (fun hc => ?_) (fun hc => ?_)
        · rw [if_pos (by simpa [cnd] using hc)] at hs; cases hs; exact K _ _ _ hl hP hS
        · rw [if_neg (by simpa [cnd] using hc)] at hs; cases hs; exact K _ _ _ hl hP hS
      | le =>
        refine lv_icmp_le (tgt := t) hx hb hd (jmp_spec ht) (fun hc => ?_) (fun hc => ?_)
        · rw [if_pos (by simpa [cnd] using hc)] at hs; cases hs; exact K _ _ _ hl hP hS
        · rw [if_neg (by simpa [cnd] using hc)] at hs; cases hs; exact K _ _ _ hl hP hS
    next => cases hs
  next => cases hs
set_option maxHeartbeats 1000000 in
theorem zs_ifCond (c0 : ClassFile.Cond) (off : Int) {p : Program} {l : Launch} {e : Env} {R : Room} {s : State} {m : MethodId} {args : Array Value} {below : List Frame} {meth : Method} {c : Code} {D : va_G} {cT : CT} {β : Nat → Nat} {base : Nat} {me : ME} {Ts : List Cond} {n0 : Nat} {scr : Option (Nat × (Nat → Int32))} (C : Ctx p s m args meth c D cT base me Ts n0) (hsc : ScrOK scr β s base) (hβ : ∀ i, i < 4096 → β i = base + i) {pc len : Nat} {lv lv' : LV} {st st' : List Value} {h h2 : Hp} {pc' : Nat} (hs : zStep scr me.1 me.2.2.2.1 pc (isIni me) (.ifCond c0 off) len lv st h = some (pc', lv', st', h2)) (hd : decode me.2.2.1 pc = .ok (.ifCond c0 off, len)) (hlen : lenOK (.ifCond c0 off) len = true) (hroom : rOKb me (pc, .ifCond c0 off, len) = true) (hR : (me.2.2.2.2.2.2.1 ≤ R.frames ∧ me.2.2.2.2.2.2.2 ≤ R.locals) ∧ h2.1 - n0 ≤ R.cells ∧ szS h2.1 - szS n0 ≤ R.slots) (hn0 : n0 ≤ h.1) (h83 : h.1 ≤ 83) {H : Heap} {locs : List Loc} {ls : Array Slot} {Q : State → Prop} (hl : lv_has ls me.2.2.2.1 (cvL β lv)) (hP : va_P D vwCl (wsOf β cT h) H) (hS : va_S (fun q => base ≤ q) s.heap H locs)
    (K : ∀ (H' : Heap) (locs' : List Loc) (ls' : Array Slot), lv_has ls' me.2.2.2.1 (cvL β lv') → va_P D vwCl (wsOf β cT h2) H' → va_S (fun q => base ≤ q) s.heap H' locs' → W p l e R s m args below meth c H' locs' (h2.1 - n0) (szS h2.1 - szS n0) Q (F0 m pc' ls' (st'.map (cv β)))) :
    W p l e R s m args below meth c H locs (h.1 - n0) (szS h.1 - szS n0) Q (F0 m pc ls (st.map (cv β))) := by
  obtain ⟨hx, hb, hml, hown, hts, hG, hK, hsz, hmk, hini⟩ := C
  have hlen1 : len = 3 := Nat.eq_of_beq_eq_true hlen
  subst hlen1
  replace hs : ((match (generalizing := false) st with
    | .int x :: r => (match (generalizing := false) jmp pc off with
      | some t => if cnd c0 x 0 = true then some (t, lv, r, h) else some (pc + 3, lv, r, h)
      | none => none)
    | _ => none)) = some (pc', lv', st', h2) := hs
  split at hs
  next x r =>
    split at hs
    next t ht =>
      cases c0 with
      | eq =>
        refine lv_if_eq (tgt := t) hx hb hd (jmp_spec ht) (fun hc => ?_) (fun hc => ?_)
        · rw [if_pos (by simpa [cnd] using hc)] at hs; cases hs; exact K _ _ _ hl hP hS
        · rw [if_neg (by simpa [cnd] using hc)] at hs; cases hs; exact K _ _ _ hl hP hS
      | ne =>
        refine lv_if_ne (tgt := t) hx hb hd (jmp_spec ht) (fun hc => ?_) (fun hc => ?_)
        · rw [if_pos (by simpa [cnd] using hc)] at hs; cases hs; exact K _ _ _ hl hP hS
        · rw [if_neg (by simpa [cnd] using hc)] at hs; cases hs; exact K _ _ _ hl hP hS
      | lt =>
        refine lv_if_lt (tgt := t) hx hb hd (jmp_spec ht) (fun hc => ?_) (fun hc => ?_)
        · rw [if_pos (by simpa [cnd] using hc)] at hs; cases hs; exact K _ _ _ hl hP hS
        · rw [if_neg (by simpa [cnd] using hc)] at hs; cases hs; exact K _ _ _ hl hP hS
      | ge =>
        refine lv_if_ge (tgt := t) hx hb hd (jmp_spec ht) (fun hc => ?_) (fun hc => ?_)
        · rw [if_pos (by simpa [cnd] using hc)] at hs; cases hs; exact K _ _ _ hl hP hS
        · rw [if_neg (by simpa [cnd] using hc)] at hs; cases hs; exact K _ _ _ hl hP hS
      | gt =>
        refine lv_if_gt (tgt := t) hx hb hd (jmp_spec ht) (fun hc => ?_) (fun hc => ?_)
        · rw [if_pos (by simpa [cnd] using hc)] at hs; cases hs; exact K _ _ _ hl hP hS
        · rw [if_neg (by simpa [cnd] using hc)] at hs; cases hs; exact K _ _ _ hl hP hS
      | le =>
        refine lv_if_le (tgt := t) hx hb hd (jmp_spec ht) (fun hc => ?_) (fun hc => ?_)
        · rw [if_pos (by simpa [cnd] using hc)] at hs; cases hs; exact K _ _ _ hl hP hS
        · rw [if_neg (by simpa [cnd] using hc)] at hs; cases hs; exact K _ _ _ hl hP hS
    next => cases hs
  next => cases hs
set_option maxHeartbeats 1000000 in
theorem zs_tableswitch (d lo hi : Int) (offs : Array Int) {p : Program} {l : Launch} {e : Env} {R : Room} {s : State} {m : MethodId} {args : Array Value} {below : List Frame} {meth : Method} {c : Code} {D : va_G} {cT : CT} {β : Nat → Nat} {base : Nat} {me : ME} {Ts : List Cond} {n0 : Nat} {scr : Option (Nat × (Nat → Int32))} (C : Ctx p s m args meth c D cT base me Ts n0) (hsc : ScrOK scr β s base) (hβ : ∀ i, i < 4096 → β i = base + i) {pc len : Nat} {lv lv' : LV} {st st' : List Value} {h h2 : Hp} {pc' : Nat} (hs : zStep scr me.1 me.2.2.2.1 pc (isIni me) (.tableswitch d lo hi offs) len lv st h = some (pc', lv', st', h2)) (hd : decode me.2.2.1 pc = .ok (.tableswitch d lo hi offs, len)) (hlen : lenOK (.tableswitch d lo hi offs) len = true) (hroom : rOKb me (pc, .tableswitch d lo hi offs, len) = true) (hR : (me.2.2.2.2.2.2.1 ≤ R.frames ∧ me.2.2.2.2.2.2.2 ≤ R.locals) ∧ h2.1 - n0 ≤ R.cells ∧ szS h2.1 - szS n0 ≤ R.slots) (hn0 : n0 ≤ h.1) (h83 : h.1 ≤ 83) {H : Heap} {locs : List Loc} {ls : Array Slot} {Q : State → Prop} (hl : lv_has ls me.2.2.2.1 (cvL β lv)) (hP : va_P D vwCl (wsOf β cT h) H) (hS : va_S (fun q => base ≤ q) s.heap H locs)
    (K : ∀ (H' : Heap) (locs' : List Loc) (ls' : Array Slot), lv_has ls' me.2.2.2.1 (cvL β lv') → va_P D vwCl (wsOf β cT h2) H' → va_S (fun q => base ≤ q) s.heap H' locs' → W p l e R s m args below meth c H' locs' (h2.1 - n0) (szS h2.1 - szS n0) Q (F0 m pc' ls' (st'.map (cv β)))) :
    W p l e R s m args below meth c H locs (h.1 - n0) (szS h.1 - szS n0) Q (F0 m pc ls (st.map (cv β))) := by
  obtain ⟨hx, hb, hml, hown, hts, hG, hK, hsz, hmk, hini⟩ := C
  replace hs : ((match (generalizing := false) st with
    | .int x :: r => if x.toInt < lo ∨ hi < x.toInt then (match (generalizing := false) jmp pc d with
        | some t => some (t, lv, r, h)
        | none => none) else (match (generalizing := false) offs[(x.toInt - lo).toNat]? with
        | some off => (match (generalizing := false) jmp pc off with
          | some t => some (t, lv, r, h)
          | none => none)
        | none => none)
    | _ => none)) = some (pc', lv', st', h2) := hs
  split at hs
  next x r =>
    split at hs
    next hx1 =>
      split at hs
      next t ht => cases hs; exact lv_tableOut hx hb hd hx1 (jmp_spec ht) (K _ _ _ hl hP hS)
      next => cases hs
    next hx1 =>
      split at hs
      next off ho =>
        split at hs
        next t ht => cases hs; exact lv_tableIn hx hb hd (fun q => hx1 (Or.inl q)) (fun q => hx1 (Or.inr q)) ho (jmp_spec ht) (K _ _ _ hl hP hS)
        next => cases hs
      next => cases hs
  next => cases hs
set_option maxHeartbeats 1000000 in
theorem zs_lookupswitch (d : Int) (ps : Array (Int × Int)) {p : Program} {l : Launch} {e : Env} {R : Room} {s : State} {m : MethodId} {args : Array Value} {below : List Frame} {meth : Method} {c : Code} {D : va_G} {cT : CT} {β : Nat → Nat} {base : Nat} {me : ME} {Ts : List Cond} {n0 : Nat} {scr : Option (Nat × (Nat → Int32))} (C : Ctx p s m args meth c D cT base me Ts n0) (hsc : ScrOK scr β s base) (hβ : ∀ i, i < 4096 → β i = base + i) {pc len : Nat} {lv lv' : LV} {st st' : List Value} {h h2 : Hp} {pc' : Nat} (hs : zStep scr me.1 me.2.2.2.1 pc (isIni me) (.lookupswitch d ps) len lv st h = some (pc', lv', st', h2)) (hd : decode me.2.2.1 pc = .ok (.lookupswitch d ps, len)) (hlen : lenOK (.lookupswitch d ps) len = true) (hroom : rOKb me (pc, .lookupswitch d ps, len) = true) (hR : (me.2.2.2.2.2.2.1 ≤ R.frames ∧ me.2.2.2.2.2.2.2 ≤ R.locals) ∧ h2.1 - n0 ≤ R.cells ∧ szS h2.1 - szS n0 ≤ R.slots) (hn0 : n0 ≤ h.1) (h83 : h.1 ≤ 83) {H : Heap} {locs : List Loc} {ls : Array Slot} {Q : State → Prop} (hl : lv_has ls me.2.2.2.1 (cvL β lv)) (hP : va_P D vwCl (wsOf β cT h) H) (hS : va_S (fun q => base ≤ q) s.heap H locs)
    (K : ∀ (H' : Heap) (locs' : List Loc) (ls' : Array Slot), lv_has ls' me.2.2.2.1 (cvL β lv') → va_P D vwCl (wsOf β cT h2) H' → va_S (fun q => base ≤ q) s.heap H' locs' → W p l e R s m args below meth c H' locs' (h2.1 - n0) (szS h2.1 - szS n0) Q (F0 m pc' ls' (st'.map (cv β)))) :
    W p l e R s m args below meth c H locs (h.1 - n0) (szS h.1 - szS n0) Q (F0 m pc ls (st.map (cv β))) := by
  obtain ⟨hx, hb, hml, hown, hts, hG, hK, hsz, hmk, hini⟩ := C
  replace hs : ((match (generalizing := false) st with
    | .int x :: r => bif (ps.toList.zip (ps.toList.drop 1)).all (fun (a, next) => a.1 < next.1) then (match (generalizing := false) jmp pc (Op.lookupswitch.offset ps.toList d x.toInt) with
        | some t => some (t, lv, r, h)
        | none => none) else none
    | _ => none)) = some (pc', lv', st', h2) := hs
  split at hs
  next x r =>
    cases hb1 : (ps.toList.zip (ps.toList.drop 1)).all (fun (a, next) => a.1 < next.1) with
    | false => rw [hb1] at hs; cases hs
    | true =>
      rw [hb1] at hs
      replace hs : (match (generalizing := false) jmp pc (Op.lookupswitch.offset ps.toList d x.toInt) with
          | some t => some (t, lv, r, h)
          | none => none) = some (pc', lv', st', h2) := hs
      split at hs
      next t ht => cases hs; exact lv_lookup hx hb hd hb1 rfl (jmp_spec ht) (K _ _ _ hl hP hS)
      next => cases hs
  next => cases hs
set_option maxHeartbeats 1000000 in
theorem zs_getfield (ix : Nat) {p : Program} {l : Launch} {e : Env} {R : Room} {s : State} {m : MethodId} {args : Array Value} {below : List Frame} {meth : Method} {c : Code} {D : va_G} {cT : CT} {β : Nat → Nat} {base : Nat} {me : ME} {Ts : List Cond} {n0 : Nat} {scr : Option (Nat × (Nat → Int32))} (C : Ctx p s m args meth c D cT base me Ts n0) (hsc : ScrOK scr β s base) (hβ : ∀ i, i < 4096 → β i = base + i) {pc len : Nat} {lv lv' : LV} {st st' : List Value} {h h2 : Hp} {pc' : Nat} (hs : zStep scr me.1 me.2.2.2.1 pc (isIni me) (.getfield ix) len lv st h = some (pc', lv', st', h2)) (hd : decode me.2.2.1 pc = .ok (.getfield ix, len)) (hlen : lenOK (.getfield ix) len = true) (hroom : rOKb me (pc, .getfield ix, len) = true) (hR : (me.2.2.2.2.2.2.1 ≤ R.frames ∧ me.2.2.2.2.2.2.2 ≤ R.locals) ∧ h2.1 - n0 ≤ R.cells ∧ szS h2.1 - szS n0 ≤ R.slots) (hn0 : n0 ≤ h.1) (h83 : h.1 ≤ 83) {H : Heap} {locs : List Loc} {ls : Array Slot} {Q : State → Prop} (hl : lv_has ls me.2.2.2.1 (cvL β lv)) (hP : va_P D vwCl (wsOf β cT h) H) (hS : va_S (fun q => base ≤ q) s.heap H locs)
    (K : ∀ (H' : Heap) (locs' : List Loc) (ls' : Array Slot), lv_has ls' me.2.2.2.1 (cvL β lv') → va_P D vwCl (wsOf β cT h2) H' → va_S (fun q => base ≤ q) s.heap H' locs' → W p l e R s m args below meth c H' locs' (h2.1 - n0) (szS h2.1 - szS n0) Q (F0 m pc' ls' (st'.map (cv β)))) :
    W p l e R s m args below meth c H locs (h.1 - n0) (szS h.1 - szS n0) Q (F0 m pc ls (st.map (cv β))) := by
  obtain ⟨hx, hb, hml, hown, hts, hG, hK, hsz, hmk, hini⟩ := C
  have hlen1 : len = 3 := Nat.eq_of_beq_eq_true hlen
  subst hlen1
  replace hs : ((match (generalizing := false) st with
    | .ref i :: r => (match (generalizing := false) lkp (poolOf me.1) ix with
      | some (0, ci, k, _) => bif isO h i ci && Nat.blt k (nF ci) then some (pc + 3, lv, (bif isR ci k then rfV (h.2.2 i k) else .int (h.2.1 i k)) :: r, h) else none
      | some (1, ci, k, _) => bif isO h i ci && Nat.blt k (nF ci) then some (pc + 3, lv, (bif isR ci k then rfV (h.2.2 i k) else .int (h.2.1 i k)) :: r, h) else none
      | _ => none)
    | _ => none)) = some (pc', lv', st', h2) := hs
  split at hs
  next i r =>
    split at hs
    next ci k v hp =>
      cases hb1 : isO h i ci && Nat.blt k (nF ci) with
      | false => rw [hb1] at hs; cases hs
      | true =>
        rw [hb1] at hs
        cases hs
        rw [Bool.and_eq_true] at hb1
        obtain ⟨hi, hsh⟩ := isO_spec hb1.1
        have hk : k < nF ci := by simpa using hb1.2
        obtain ⟨Cn, T, N, hc, hkN, hw⟩ := pool_fld hp
        obtain ⟨ty, hin, hN, hCn, hty, hnm, hf⟩ := cls_ok hc
        exact va_get (D := D) (ci := ci) (C := Cn) (T := T) (N := N) hx hb hts (fun w hw => hG w (hin w hw)) hown hK.1 hP i (by rw [wsOf_at hi, cell_obj hsh]) hc k hkN (hts _ (hG _ hw)) (fun _ h9 => h9) (flds_at hk) hd (K _ _ _ hl hP hS)
    
    next ci k v hp =>
      cases hb1 : isO h i ci && Nat.blt k (nF ci) with
      | false => rw [hb1] at hs; cases hs
      | true =>
        rw [hb1] at hs
        cases hs
        rw [Bool.and_eq_true] at hb1
        obtain ⟨hi, hsh⟩ := isO_spec hb1.1
        have hk : k < nF ci := by simpa using hb1.2
        obtain ⟨Cn, T, N, hc, hkN, hw⟩ := pool_fldN hp
        obtain ⟨ty, hin, hN, hCn, hty, hnm, hf⟩ := cls_ok hc
        exact va_getN (D := D) (ci := ci) (C := Cn) (T := T) (N := N) hx hb hts (fun w hw => hG w (hin w hw)) hown hK.1 hP i (by rw [wsOf_at hi, cell_obj hsh]) hc k hkN (va_Nw.use rfl (hK.2.1 _ hw)) (fun _ h9 => h9) (flds_at hk) hd (K _ _ _ hl hP hS)
    
    next => cases hs
  next => cases hs
set_option maxHeartbeats 1000000 in
theorem zs_putfield (ix : Nat) {p : Program} {l : Launch} {e : Env} {R : Room} {s : State} {m : MethodId} {args : Array Value} {below : List Frame} {meth : Method} {c : Code} {D : va_G} {cT : CT} {β : Nat → Nat} {base : Nat} {me : ME} {Ts : List Cond} {n0 : Nat} {scr : Option (Nat × (Nat → Int32))} (C : Ctx p s m args meth c D cT base me Ts n0) (hsc : ScrOK scr β s base) (hβ : ∀ i, i < 4096 → β i = base + i) {pc len : Nat} {lv lv' : LV} {st st' : List Value} {h h2 : Hp} {pc' : Nat} (hs : zStep scr me.1 me.2.2.2.1 pc (isIni me) (.putfield ix) len lv st h = some (pc', lv', st', h2)) (hd : decode me.2.2.1 pc = .ok (.putfield ix, len)) (hlen : lenOK (.putfield ix) len = true) (hroom : rOKb me (pc, .putfield ix, len) = true) (hR : (me.2.2.2.2.2.2.1 ≤ R.frames ∧ me.2.2.2.2.2.2.2 ≤ R.locals) ∧ h2.1 - n0 ≤ R.cells ∧ szS h2.1 - szS n0 ≤ R.slots) (hn0 : n0 ≤ h.1) (h83 : h.1 ≤ 83) {H : Heap} {locs : List Loc} {ls : Array Slot} {Q : State → Prop} (hl : lv_has ls me.2.2.2.1 (cvL β lv)) (hP : va_P D vwCl (wsOf β cT h) H) (hS : va_S (fun q => base ≤ q) s.heap H locs)
    (K : ∀ (H' : Heap) (locs' : List Loc) (ls' : Array Slot), lv_has ls' me.2.2.2.1 (cvL β lv') → va_P D vwCl (wsOf β cT h2) H' → va_S (fun q => base ≤ q) s.heap H' locs' → W p l e R s m args below meth c H' locs' (h2.1 - n0) (szS h2.1 - szS n0) Q (F0 m pc' ls' (st'.map (cv β)))) :
    W p l e R s m args below meth c H locs (h.1 - n0) (szS h.1 - szS n0) Q (F0 m pc ls (st.map (cv β))) := by
  obtain ⟨hx, hb, hml, hown, hts, hG, hK, hsz, hmk, hini⟩ := C
  have hlen1 : len = 3 := Nat.eq_of_beq_eq_true hlen
  subst hlen1
  replace hs : ((match (generalizing := false) st with
    | .int x :: .ref i :: r => (match (generalizing := false) lkp (poolOf me.1) ix with
      | some (0, ci, k, _) => bif isO h i ci && Nat.blt k (nF ci) && !isR ci k && !finF ci k then some (pc + 3, lv, r, (h.1, up2 h.2.1 i k x, h.2.2)) else none
      | some (1, ci, k, _) => bif isO h i ci && Nat.blt k (nF ci) && !isR ci k && !finF ci k then some (pc + 3, lv, r, (h.1, up2 h.2.1 i k x, h.2.2)) else none
      | _ => none)
    | .ref x :: .ref i :: r => (match (generalizing := false) lkp (poolOf me.1) ix with
      | some (0, ci, k, _) => bif isO h i ci && Nat.blt k (nF ci) && isR ci k && (!finF ci k || (isIni me && Nat.beq me.1 ci)) then some (pc + 3, lv, r, (h.1, h.2.1, up2 h.2.2 i k (some x))) else none
      | _ => none)
    | _ => none)) = some (pc', lv', st', h2) := hs
  split at hs
  next x i r =>
    split at hs
    next ci k v hp =>
      cases hb1 : isO h i ci && Nat.blt k (nF ci) && !isR ci k && !finF ci k with
      | false => rw [hb1] at hs; cases hs
      | true =>
        rw [hb1] at hs
        cases hs
        rw [Bool.and_eq_true, Bool.and_eq_true, Bool.and_eq_true] at hb1
        obtain ⟨⟨⟨b1, b2⟩, b3⟩, b4⟩ := hb1
        obtain ⟨hi, hsh⟩ := isO_spec b1
        have hk : k < nF ci := by simpa using b2
        have hr : isR ci k = false := by simpa using b3
        obtain ⟨Cn, T, N, hc, hkN, hw⟩ := pool_fld hp
        obtain ⟨ty, hin, hN, hCn, hty, hnm, hf⟩ := cls_ok hc
        obtain ⟨f1, f2, f3, f4⟩ := hf k hkN
        refine va_put (D := D) (ci := ci) (C := Cn) (T := T) (N := N) (ty := .int) (v := .int x) hx hb hts (fun w hw => hG w (hin w hw)) ty hty hnm hown hK.1 hP (wsOf_D (fun i hi => hβ i (by omega))) hS i (by rw [wsOf_at hi, cell_obj hsh]) hc k hkN (hts _ (hG _ hw)) (fun _ h9 => h9) (by rw [f2]; simpa using b4) (by rw [hty k hkN, f3 hr]) rfl rfl (by rw [flds_len]; exact hk) hd (fun H1 locs1 hP1 hD1 hS1 => ?_)
        rw [flds_setI hr, ← cell_obj (cT := cT) hsh, wsOf_set (h := h) (i := i) (h' := (h.1, up2 h.2.1 i k x, h.2.2)) rfl (fun j hj => cell_same (up2_ne hj) rfl)] at hP1
        exact K _ _ _ hl hP1 hS1
    next ci k v hp =>
      cases hb1 : isO h i ci && Nat.blt k (nF ci) && !isR ci k && !finF ci k with
      | false => rw [hb1] at hs; cases hs
      | true =>
        rw [hb1] at hs
        cases hs
        rw [Bool.and_eq_true, Bool.and_eq_true, Bool.and_eq_true] at hb1
        obtain ⟨⟨⟨b1, b2⟩, b3⟩, b4⟩ := hb1
        obtain ⟨hi, hsh⟩ := isO_spec b1
        have hk : k < nF ci := by simpa using b2
        have hr : isR ci k = false := by simpa using b3
        obtain ⟨Cn, T, N, hc, hkN, hw⟩ := pool_fldN hp
        obtain ⟨ty, hin, hN, hCn, hty, hnm, hf⟩ := cls_ok hc
        obtain ⟨f1, f2, f3, f4⟩ := hf k hkN
        refine va_putN (D := D) (ci := ci) (C := Cn) (T := T) (N := N) (ty := .int) (v := .int x) hx hb hts (fun w hw => hG w (hin w hw)) ty hty hnm hown hK.1 hP (wsOf_D (fun i hi => hβ i (by omega))) hS i (by rw [wsOf_at hi, cell_obj hsh]) hc k hkN (va_Nw.use rfl (hK.2.1 _ hw)) (fun _ h9 => h9) (by rw [f2]; simpa using b4) (by rw [hty k hkN, f3 hr]) rfl rfl (by rw [flds_len]; exact hk) hd (fun H1 locs1 hP1 hD1 hS1 => ?_)
        rw [flds_setI hr, ← cell_obj (cT := cT) hsh, wsOf_set (h := h) (i := i) (h' := (h.1, up2 h.2.1 i k x, h.2.2)) rfl (fun j hj => cell_same (up2_ne hj) rfl)] at hP1
        exact K _ _ _ hl hP1 hS1
    next => cases hs
  next x i r =>
    split at hs
    next ci k v hp =>
      cases hb1 : isO h i ci && Nat.blt k (nF ci) && isR ci k && (!finF ci k || (isIni me && Nat.beq me.1 ci)) with
      | false => rw [hb1] at hs; cases hs
      | true =>
        rw [hb1] at hs
        cases hs
        rw [Bool.and_eq_true, Bool.and_eq_true, Bool.and_eq_true] at hb1
        obtain ⟨⟨⟨b1, b2⟩, hr⟩, b4⟩ := hb1
        obtain ⟨hi, hsh⟩ := isO_spec b1
        have hk : k < nF ci := by simpa using b2
        obtain ⟨Cn, T, N, hc, hkN, hw⟩ := pool_fld hp
        obtain ⟨ty, hin, hN, hCn, hty, hnm, hf⟩ := cls_ok hc
        obtain ⟨f1, f2, f3, f4⟩ := hf k hkN
        have hnf : narrow (ty k) (.ref (β x)) = .ref (β x) ∧ fits (ty k) (.ref (β x)) = true := by
          rcases f4 hr with q | q | ⟨c1, q | q⟩ <;> rw [q] <;> exact ⟨rfl, rfl⟩
        have fin : ∀ (H1 : Heap) (locs1 : List Loc), va_P D vwCl ((wsOf β cT h).set i (β i, .inr (ci, (fldsOf β h i ci).set k (.ref (β x))))) H1 → va_S (fun q => base ≤ q) s.heap H1 locs1 → W p l e R s m args below meth c H1 locs1 (h.1 - n0) (szS h.1 - szS n0) Q (F0 m (pc + 3) ls (st'.map (cv β))) := by
          intro H1 locs1 hP1 hS1
          rw [flds_setR hr, ← cell_obj (cT := cT) hsh, wsOf_set (h := h) (i := i) (h' := (h.1, h.2.1, up2 h.2.2 i k (some x))) rfl (fun j hj => cell_same rfl (up2_ne hj))] at hP1
          exact K _ _ _ hl hP1 hS1
        cases hfin : finF ci k with
        | false => exact va_put (D := D) (ci := ci) (C := Cn) (T := T) (N := N) (ty := ty k) hx hb hts (fun w hw => hG w (hin w hw)) ty hty hnm hown hK.1 hP (wsOf_D (fun i hi => hβ i (by omega))) hS i (by rw [wsOf_at hi, cell_obj hsh]) hc k hkN (hts _ (hG _ hw)) (fun _ h9 => h9) (by rw [f2]; exact hfin) (hty k hkN) hnf.1 hnf.2 (by rw [flds_len]; exact hk) hd (fun H1 locs1 hP1 hD1 hS1 => fin H1 locs1 hP1 hS1)
        | true =>
          rw [hfin] at b4
          replace b4 : (isIni me && Nat.beq me.1 ci) = true := b4
          rw [Bool.and_eq_true] at b4
          exact va_putF (D := D) (ci := ci) (C := Cn) (T := T) (N := N) (ty := ty k) hx hb hts (fun w hw => hG w (hin w hw)) ty hty hnm hown hK.1 hP (wsOf_D (fun i hi => hβ i (by omega))) hS i (by rw [wsOf_at hi, cell_obj hsh]) hc k hkN (hts _ (hG _ hw)) (fun _ h9 => h9) (by rw [f2]; exact hfin) (hini b4.1) (by rw [f1, hCn, Nat.eq_of_beq_eq_true b4.2]) (hty k hkN) hnf.1 hnf.2 (by rw [flds_len]; exact hk) hd (fun H1 locs1 hP1 hD1 hS1 => fin H1 locs1 hP1 hS1)
    next => cases hs
  next => cases hs
set_option maxHeartbeats 1000000 in
theorem zs_iaload  {p : Program} {l : Launch} {e : Env} {R : Room} {s : State} {m : MethodId} {args : Array Value} {below : List Frame} {meth : Method} {c : Code} {D : va_G} {cT : CT} {β : Nat → Nat} {base : Nat} {me : ME} {Ts : List Cond} {n0 : Nat} {scr : Option (Nat × (Nat → Int32))} (C : Ctx p s m args meth c D cT base me Ts n0) (hsc : ScrOK scr β s base) (hβ : ∀ i, i < 4096 → β i = base + i) {pc len : Nat} {lv lv' : LV} {st st' : List Value} {h h2 : Hp} {pc' : Nat} (hs : zStep scr me.1 me.2.2.2.1 pc (isIni me) (.iaload) len lv st h = some (pc', lv', st', h2)) (hd : decode me.2.2.1 pc = .ok (.iaload, len)) (hlen : lenOK (.iaload) len = true) (hroom : rOKb me (pc, .iaload, len) = true) (hR : (me.2.2.2.2.2.2.1 ≤ R.frames ∧ me.2.2.2.2.2.2.2 ≤ R.locals) ∧ h2.1 - n0 ≤ R.cells ∧ szS h2.1 - szS n0 ≤ R.slots) (hn0 : n0 ≤ h.1) (h83 : h.1 ≤ 83) {H : Heap} {locs : List Loc} {ls : Array Slot} {Q : State → Prop} (hl : lv_has ls me.2.2.2.1 (cvL β lv)) (hP : va_P D vwCl (wsOf β cT h) H) (hS : va_S (fun q => base ≤ q) s.heap H locs)
    (K : ∀ (H' : Heap) (locs' : List Loc) (ls' : Array Slot), lv_has ls' me.2.2.2.1 (cvL β lv') → va_P D vwCl (wsOf β cT h2) H' → va_S (fun q => base ≤ q) s.heap H' locs' → W p l e R s m args below meth c H' locs' (h2.1 - n0) (szS h2.1 - szS n0) Q (F0 m pc' ls' (st'.map (cv β)))) :
    W p l e R s m args below meth c H locs (h.1 - n0) (szS h.1 - szS n0) Q (F0 m pc ls (st.map (cv β))) := by
  obtain ⟨hx, hb, hml, hown, hts, hG, hK, hsz, hmk, hini⟩ := C
  have hlen1 : len = 1 := Nat.eq_of_beq_eq_true hlen
  subst hlen1
  replace hs : ((match (generalizing := false) st with
    | .int j :: .ref i :: r => bif Nat.beq i sId then (match (generalizing := false) scr with
      | some (L, xs) => bif inB j L then some (pc + 1, lv, .int (xs j.toNatClampNeg) :: r, h) else none
      | none => none) else (match (generalizing := false) arrL h i 0 with
      | some n => bif inB j n then some (pc + 1, lv, .int (h.2.1 i j.toNatClampNeg) :: r, h) else none
      | none => none)
    | _ => none)) = some (pc', lv', st', h2) := hs
  split at hs
  next j i r =>
    cases hb0 : Nat.beq i sId with
    | true =>
      rw [hb0] at hs
      replace hs : (match (generalizing := false) scr with
        | some (L, xs) => bif inB j L then some (pc + 1, lv, .int (xs j.toNatClampNeg) :: r, h) else none
        | none => none) = some (pc', lv', st', h2) := hs
      split at hs
      next L xs =>
        cases hb1 : inB j L with
        | false => rw [hb1] at hs; cases hs
        | true =>
          rw [hb1] at hs
          cases hs
          obtain ⟨x1, x2, x3⟩ := hsc L xs rfl
          rw [Nat.eq_of_beq_eq_true hb0]
          exact va_sld (A := fun q => base ≤ q) hx hb x1 x2 (Nat.not_le.mpr x3) hS (inB_spec hb1) hd (K _ _ _ hl hP hS)
      next => cases hs
    | false =>
      rw [hb0] at hs
      replace hs : (match (generalizing := false) arrL h i 0 with
        | some n => bif inB j n then some (pc + 1, lv, .int (h.2.1 i j.toNatClampNeg) :: r, h) else none
        | none => none) = some (pc', lv', st', h2) := hs
      split at hs
      next n ha =>
        cases hb1 : inB j n with
        | false => rw [hb1] at hs; cases hs
        | true =>
          rw [hb1] at hs
          cases hs
          obtain ⟨hi, hsh⟩ := arrL_spec ha
          exact va_iald hx hb hK.1 hP i 0 (by rw [wsOf_at hi, cell_a0 hsh]) rfl (inB_spec hb1) hd (K _ _ _ hl hP hS)
    
      next => cases hs
  next => cases hs
set_option maxHeartbeats 1000000 in
theorem zs_baload  {p : Program} {l : Launch} {e : Env} {R : Room} {s : State} {m : MethodId} {args : Array Value} {below : List Frame} {meth : Method} {c : Code} {D : va_G} {cT : CT} {β : Nat → Nat} {base : Nat} {me : ME} {Ts : List Cond} {n0 : Nat} {scr : Option (Nat × (Nat → Int32))} (C : Ctx p s m args meth c D cT base me Ts n0) (hsc : ScrOK scr β s base) (hβ : ∀ i, i < 4096 → β i = base + i) {pc len : Nat} {lv lv' : LV} {st st' : List Value} {h h2 : Hp} {pc' : Nat} (hs : zStep scr me.1 me.2.2.2.1 pc (isIni me) (.baload) len lv st h = some (pc', lv', st', h2)) (hd : decode me.2.2.1 pc = .ok (.baload, len)) (hlen : lenOK (.baload) len = true) (hroom : rOKb me (pc, .baload, len) = true) (hR : (me.2.2.2.2.2.2.1 ≤ R.frames ∧ me.2.2.2.2.2.2.2 ≤ R.locals) ∧ h2.1 - n0 ≤ R.cells ∧ szS h2.1 - szS n0 ≤ R.slots) (hn0 : n0 ≤ h.1) (h83 : h.1 ≤ 83) {H : Heap} {locs : List Loc} {ls : Array Slot} {Q : State → Prop} (hl : lv_has ls me.2.2.2.1 (cvL β lv)) (hP : va_P D vwCl (wsOf β cT h) H) (hS : va_S (fun q => base ≤ q) s.heap H locs)
    (K : ∀ (H' : Heap) (locs' : List Loc) (ls' : Array Slot), lv_has ls' me.2.2.2.1 (cvL β lv') → va_P D vwCl (wsOf β cT h2) H' → va_S (fun q => base ≤ q) s.heap H' locs' → W p l e R s m args below meth c H' locs' (h2.1 - n0) (szS h2.1 - szS n0) Q (F0 m pc' ls' (st'.map (cv β)))) :
    W p l e R s m args below meth c H locs (h.1 - n0) (szS h.1 - szS n0) Q (F0 m pc ls (st.map (cv β))) := by
  obtain ⟨hx, hb, hml, hown, hts, hG, hK, hsz, hmk, hini⟩ := C
  have hlen1 : len = 1 := Nat.eq_of_beq_eq_true hlen
  subst hlen1
  replace hs : ((match (generalizing := false) st with
    | .int j :: .ref i :: r => (match (generalizing := false) arrL h i 1 with
      | some n => bif inB j n then some (pc + 1, lv, .int (h.2.1 i j.toNatClampNeg) :: r, h) else none
      | none => none)
    | _ => none)) = some (pc', lv', st', h2) := hs
  split at hs
  next j i r =>
    split at hs
    next n ha =>
      cases hb1 : inB j n with
      | false => rw [hb1] at hs; cases hs
      | true =>
        rw [hb1] at hs
        cases hs
        obtain ⟨hi, hsh⟩ := arrL_spec ha
        exact va_bald hx hb hK.1 hP i 1 (by rw [wsOf_at hi, cell_a1 hsh]) rfl (inB_spec hb1) hd (K _ _ _ hl hP hS)
    next => cases hs
  next => cases hs
set_option maxHeartbeats 1000000 in
theorem zs_aaload  {p : Program} {l : Launch} {e : Env} {R : Room} {s : State} {m : MethodId} {args : Array Value} {below : List Frame} {meth : Method} {c : Code} {D : va_G} {cT : CT} {β : Nat → Nat} {base : Nat} {me : ME} {Ts : List Cond} {n0 : Nat} {scr : Option (Nat × (Nat → Int32))} (C : Ctx p s m args meth c D cT base me Ts n0) (hsc : ScrOK scr β s base) (hβ : ∀ i, i < 4096 → β i = base + i) {pc len : Nat} {lv lv' : LV} {st st' : List Value} {h h2 : Hp} {pc' : Nat} (hs : zStep scr me.1 me.2.2.2.1 pc (isIni me) (.aaload) len lv st h = some (pc', lv', st', h2)) (hd : decode me.2.2.1 pc = .ok (.aaload, len)) (hlen : lenOK (.aaload) len = true) (hroom : rOKb me (pc, .aaload, len) = true) (hR : (me.2.2.2.2.2.2.1 ≤ R.frames ∧ me.2.2.2.2.2.2.2 ≤ R.locals) ∧ h2.1 - n0 ≤ R.cells ∧ szS h2.1 - szS n0 ≤ R.slots) (hn0 : n0 ≤ h.1) (h83 : h.1 ≤ 83) {H : Heap} {locs : List Loc} {ls : Array Slot} {Q : State → Prop} (hl : lv_has ls me.2.2.2.1 (cvL β lv)) (hP : va_P D vwCl (wsOf β cT h) H) (hS : va_S (fun q => base ≤ q) s.heap H locs)
    (K : ∀ (H' : Heap) (locs' : List Loc) (ls' : Array Slot), lv_has ls' me.2.2.2.1 (cvL β lv') → va_P D vwCl (wsOf β cT h2) H' → va_S (fun q => base ≤ q) s.heap H' locs' → W p l e R s m args below meth c H' locs' (h2.1 - n0) (szS h2.1 - szS n0) Q (F0 m pc' ls' (st'.map (cv β)))) :
    W p l e R s m args below meth c H locs (h.1 - n0) (szS h.1 - szS n0) Q (F0 m pc ls (st.map (cv β))) := by
  obtain ⟨hx, hb, hml, hown, hts, hG, hK, hsz, hmk, hini⟩ := C
  have hlen1 : len = 1 := Nat.eq_of_beq_eq_true hlen
  subst hlen1
  replace hs : ((match (generalizing := false) st with
    | .int j :: .ref i :: r => (match (generalizing := false) arrL h i 2 with
      | some n => bif inB j n then some (pc + 1, lv, rfV (h.2.2 i j.toNatClampNeg) :: r, h) else none
      | none => none)
    | _ => none)) = some (pc', lv', st', h2) := hs
  split at hs
  next j i r =>
    split at hs
    next n ha =>
      cases hb1 : inB j n with
      | false => rw [hb1] at hs; cases hs
      | true =>
        rw [hb1] at hs
        cases hs
        obtain ⟨hi, hsh⟩ := arrL_spec ha
        refine va_aldq hx hb hK.1 hP i 2 (by rw [wsOf_at hi, cell_a2 hsh]) rfl (inB_spec hb1) hd ?_
        have k1 := K _ _ _ hl hP hS
        rw [List.map_cons, cv_rf] at k1
        exact k1
    next => cases hs
  next => cases hs
set_option maxHeartbeats 1000000 in
theorem zs_iastore  {p : Program} {l : Launch} {e : Env} {R : Room} {s : State} {m : MethodId} {args : Array Value} {below : List Frame} {meth : Method} {c : Code} {D : va_G} {cT : CT} {β : Nat → Nat} {base : Nat} {me : ME} {Ts : List Cond} {n0 : Nat} {scr : Option (Nat × (Nat → Int32))} (C : Ctx p s m args meth c D cT base me Ts n0) (hsc : ScrOK scr β s base) (hβ : ∀ i, i < 4096 → β i = base + i) {pc len : Nat} {lv lv' : LV} {st st' : List Value} {h h2 : Hp} {pc' : Nat} (hs : zStep scr me.1 me.2.2.2.1 pc (isIni me) (.iastore) len lv st h = some (pc', lv', st', h2)) (hd : decode me.2.2.1 pc = .ok (.iastore, len)) (hlen : lenOK (.iastore) len = true) (hroom : rOKb me (pc, .iastore, len) = true) (hR : (me.2.2.2.2.2.2.1 ≤ R.frames ∧ me.2.2.2.2.2.2.2 ≤ R.locals) ∧ h2.1 - n0 ≤ R.cells ∧ szS h2.1 - szS n0 ≤ R.slots) (hn0 : n0 ≤ h.1) (h83 : h.1 ≤ 83) {H : Heap} {locs : List Loc} {ls : Array Slot} {Q : State → Prop} (hl : lv_has ls me.2.2.2.1 (cvL β lv)) (hP : va_P D vwCl (wsOf β cT h) H) (hS : va_S (fun q => base ≤ q) s.heap H locs)
    (K : ∀ (H' : Heap) (locs' : List Loc) (ls' : Array Slot), lv_has ls' me.2.2.2.1 (cvL β lv') → va_P D vwCl (wsOf β cT h2) H' → va_S (fun q => base ≤ q) s.heap H' locs' → W p l e R s m args below meth c H' locs' (h2.1 - n0) (szS h2.1 - szS n0) Q (F0 m pc' ls' (st'.map (cv β)))) :
    W p l e R s m args below meth c H locs (h.1 - n0) (szS h.1 - szS n0) Q (F0 m pc ls (st.map (cv β))) := by
  obtain ⟨hx, hb, hml, hown, hts, hG, hK, hsz, hmk, hini⟩ := C
  have hlen1 : len = 1 := Nat.eq_of_beq_eq_true hlen
  subst hlen1
  replace hs : ((match (generalizing := false) st with
    | .int x :: .int j :: .ref i :: r => (match (generalizing := false) arrL h i 0 with
      | some n => bif inB j n then some (pc + 1, lv, r, (h.1, up2 h.2.1 i j.toNatClampNeg x, h.2.2)) else none
      | none => none)
    | _ => none)) = some (pc', lv', st', h2) := hs
  split at hs
  next x j i r =>
    split at hs
    next n ha =>
      cases hb1 : inB j n with
      | false => rw [hb1] at hs; cases hs
      | true =>
        rw [hb1] at hs
        cases hs
        obtain ⟨hi, hsh⟩ := arrL_spec ha
        refine va_iast hx hb hK.1 hP (wsOf_D (fun i hi => hβ i (by omega))) hS i 0 (by rw [wsOf_at hi, cell_a0 hsh]) rfl (inB_spec hb1) hd (fun H1 locs1 hP1 hD1 hS1 => ?_)
        rw [← up2_eq, ← cell_a0 (β := β) (cT := cT) (h := (h.1, up2 h.2.1 i j.toNatClampNeg x, h.2.2)) hsh, wsOf_set (h := h) (h' := (h.1, up2 h.2.1 i j.toNatClampNeg x, h.2.2)) (i := i) rfl (fun j hj => cell_same (up2_ne hj) rfl)] at hP1
        exact K _ _ _ hl hP1 hS1
    next => cases hs
  next => cases hs
set_option maxHeartbeats 1000000 in
theorem zs_bastore  {p : Program} {l : Launch} {e : Env} {R : Room} {s : State} {m : MethodId} {args : Array Value} {below : List Frame} {meth : Method} {c : Code} {D : va_G} {cT : CT} {β : Nat → Nat} {base : Nat} {me : ME} {Ts : List Cond} {n0 : Nat} {scr : Option (Nat × (Nat → Int32))} (C : Ctx p s m args meth c D cT base me Ts n0) (hsc : ScrOK scr β s base) (hβ : ∀ i, i < 4096 → β i = base + i) {pc len : Nat} {lv lv' : LV} {st st' : List Value} {h h2 : Hp} {pc' : Nat} (hs : zStep scr me.1 me.2.2.2.1 pc (isIni me) (.bastore) len lv st h = some (pc', lv', st', h2)) (hd : decode me.2.2.1 pc = .ok (.bastore, len)) (hlen : lenOK (.bastore) len = true) (hroom : rOKb me (pc, .bastore, len) = true) (hR : (me.2.2.2.2.2.2.1 ≤ R.frames ∧ me.2.2.2.2.2.2.2 ≤ R.locals) ∧ h2.1 - n0 ≤ R.cells ∧ szS h2.1 - szS n0 ≤ R.slots) (hn0 : n0 ≤ h.1) (h83 : h.1 ≤ 83) {H : Heap} {locs : List Loc} {ls : Array Slot} {Q : State → Prop} (hl : lv_has ls me.2.2.2.1 (cvL β lv)) (hP : va_P D vwCl (wsOf β cT h) H) (hS : va_S (fun q => base ≤ q) s.heap H locs)
    (K : ∀ (H' : Heap) (locs' : List Loc) (ls' : Array Slot), lv_has ls' me.2.2.2.1 (cvL β lv') → va_P D vwCl (wsOf β cT h2) H' → va_S (fun q => base ≤ q) s.heap H' locs' → W p l e R s m args below meth c H' locs' (h2.1 - n0) (szS h2.1 - szS n0) Q (F0 m pc' ls' (st'.map (cv β)))) :
    W p l e R s m args below meth c H locs (h.1 - n0) (szS h.1 - szS n0) Q (F0 m pc ls (st.map (cv β))) := by
  obtain ⟨hx, hb, hml, hown, hts, hG, hK, hsz, hmk, hini⟩ := C
  have hlen1 : len = 1 := Nat.eq_of_beq_eq_true hlen
  subst hlen1
  replace hs : ((match (generalizing := false) st with
    | .int x :: .int j :: .ref i :: r => (match (generalizing := false) arrL h i 1 with
      | some n => bif inB j n then some (pc + 1, lv, r, (h.1, up2 h.2.1 i j.toNatClampNeg (vp_nar .byte x), h.2.2)) else none
      | none => none)
    | _ => none)) = some (pc', lv', st', h2) := hs
  split at hs
  next x j i r =>
    split at hs
    next n ha =>
      cases hb1 : inB j n with
      | false => rw [hb1] at hs; cases hs
      | true =>
        rw [hb1] at hs
        cases hs
        obtain ⟨hi, hsh⟩ := arrL_spec ha
        refine va_bast hx hb hK.1 hP (wsOf_D (fun i hi => hβ i (by omega))) hS i 1 (by rw [wsOf_at hi, cell_a1 hsh]) rfl (inB_spec hb1) hd (fun H1 locs1 hP1 hD1 hS1 => ?_)
        rw [← up2_eq, ← cell_a1 (β := β) (cT := cT) (h := (h.1, up2 h.2.1 i j.toNatClampNeg (vp_nar .byte x), h.2.2)) hsh, wsOf_set (h := h) (h' := (h.1, up2 h.2.1 i j.toNatClampNeg (vp_nar .byte x), h.2.2)) (i := i) rfl (fun j hj => cell_same (up2_ne hj) rfl)] at hP1
        exact K _ _ _ hl hP1 hS1
    next => cases hs
  next => cases hs
set_option maxHeartbeats 1000000 in
theorem zs_aastore  {p : Program} {l : Launch} {e : Env} {R : Room} {s : State} {m : MethodId} {args : Array Value} {below : List Frame} {meth : Method} {c : Code} {D : va_G} {cT : CT} {β : Nat → Nat} {base : Nat} {me : ME} {Ts : List Cond} {n0 : Nat} {scr : Option (Nat × (Nat → Int32))} (C : Ctx p s m args meth c D cT base me Ts n0) (hsc : ScrOK scr β s base) (hβ : ∀ i, i < 4096 → β i = base + i) {pc len : Nat} {lv lv' : LV} {st st' : List Value} {h h2 : Hp} {pc' : Nat} (hs : zStep scr me.1 me.2.2.2.1 pc (isIni me) (.aastore) len lv st h = some (pc', lv', st', h2)) (hd : decode me.2.2.1 pc = .ok (.aastore, len)) (hlen : lenOK (.aastore) len = true) (hroom : rOKb me (pc, .aastore, len) = true) (hR : (me.2.2.2.2.2.2.1 ≤ R.frames ∧ me.2.2.2.2.2.2.2 ≤ R.locals) ∧ h2.1 - n0 ≤ R.cells ∧ szS h2.1 - szS n0 ≤ R.slots) (hn0 : n0 ≤ h.1) (h83 : h.1 ≤ 83) {H : Heap} {locs : List Loc} {ls : Array Slot} {Q : State → Prop} (hl : lv_has ls me.2.2.2.1 (cvL β lv)) (hP : va_P D vwCl (wsOf β cT h) H) (hS : va_S (fun q => base ≤ q) s.heap H locs)
    (K : ∀ (H' : Heap) (locs' : List Loc) (ls' : Array Slot), lv_has ls' me.2.2.2.1 (cvL β lv') → va_P D vwCl (wsOf β cT h2) H' → va_S (fun q => base ≤ q) s.heap H' locs' → W p l e R s m args below meth c H' locs' (h2.1 - n0) (szS h2.1 - szS n0) Q (F0 m pc' ls' (st'.map (cv β)))) :
    W p l e R s m args below meth c H locs (h.1 - n0) (szS h.1 - szS n0) Q (F0 m pc ls (st.map (cv β))) := by
  obtain ⟨hx, hb, hml, hown, hts, hG, hK, hsz, hmk, hini⟩ := C
  have hlen1 : len = 1 := Nat.eq_of_beq_eq_true hlen
  subst hlen1
  replace hs : ((match (generalizing := false) st with
    | .ref x :: .int j :: .ref i :: r => (match (generalizing := false) arrL h i 2 with
      | some n => bif inB j n && isO h x 5 then some (pc + 1, lv, r, (h.1, h.2.1, up2 h.2.2 i j.toNatClampNeg (some x))) else none
      | none => none)
    | _ => none)) = some (pc', lv', st', h2) := hs
  split at hs
  next x j i r =>
    split at hs
    next n ha =>
      cases hb1 : inB j n && isO h x 5 with
      | false => rw [hb1] at hs; cases hs
      | true =>
        rw [hb1] at hs
        cases hs
        obtain ⟨hi, hsh⟩ := arrL_spec ha
        rw [Bool.and_eq_true] at hb1
        obtain ⟨hxi, hxs⟩ := isO_spec hb1.2
        refine va_astq (r := (RX5, TX5, 3)) hx hb hK.1 hP (wsOf_D (fun i hi => hβ i (by omega))) hS i 2 x 5 (by rw [wsOf_at hi, cell_a2 hsh]) rfl (by rw [wsOf_at hxi, cell_obj hxs]) rfl (inB_spec hb1.1) hd (fun H1 locs1 hP1 hD1 hS1 => ?_)
        have e1 : va_up (fun j => (h.2.2 i j).map β) j.toNatClampNeg (some (β x)) = fun q => ((h.1, h.2.1, up2 h.2.2 i j.toNatClampNeg (some x)) : Hp).2.2 i q |>.map β := by
          funext q
          by_cases hq : q = j.toNatClampNeg
          · subst hq; simp [va_up, up2]
          · simp [va_up, up2, hq]
        rw [e1, ← cell_a2 (β := β) (cT := cT) (h := (h.1, h.2.1, up2 h.2.2 i j.toNatClampNeg (some x))) hsh, wsOf_set (h := h) (h' := (h.1, h.2.1, up2 h.2.2 i j.toNatClampNeg (some x))) (i := i) rfl (fun j hj => cell_same rfl (up2_ne hj))] at hP1
        exact K _ _ _ hl hP1 hS1
    next => cases hs
  next => cases hs
set_option maxHeartbeats 1000000 in
theorem zs_arraylength  {p : Program} {l : Launch} {e : Env} {R : Room} {s : State} {m : MethodId} {args : Array Value} {below : List Frame} {meth : Method} {c : Code} {D : va_G} {cT : CT} {β : Nat → Nat} {base : Nat} {me : ME} {Ts : List Cond} {n0 : Nat} {scr : Option (Nat × (Nat → Int32))} (C : Ctx p s m args meth c D cT base me Ts n0) (hsc : ScrOK scr β s base) (hβ : ∀ i, i < 4096 → β i = base + i) {pc len : Nat} {lv lv' : LV} {st st' : List Value} {h h2 : Hp} {pc' : Nat} (hs : zStep scr me.1 me.2.2.2.1 pc (isIni me) (.arraylength) len lv st h = some (pc', lv', st', h2)) (hd : decode me.2.2.1 pc = .ok (.arraylength, len)) (hlen : lenOK (.arraylength) len = true) (hroom : rOKb me (pc, .arraylength, len) = true) (hR : (me.2.2.2.2.2.2.1 ≤ R.frames ∧ me.2.2.2.2.2.2.2 ≤ R.locals) ∧ h2.1 - n0 ≤ R.cells ∧ szS h2.1 - szS n0 ≤ R.slots) (hn0 : n0 ≤ h.1) (h83 : h.1 ≤ 83) {H : Heap} {locs : List Loc} {ls : Array Slot} {Q : State → Prop} (hl : lv_has ls me.2.2.2.1 (cvL β lv)) (hP : va_P D vwCl (wsOf β cT h) H) (hS : va_S (fun q => base ≤ q) s.heap H locs)
    (K : ∀ (H' : Heap) (locs' : List Loc) (ls' : Array Slot), lv_has ls' me.2.2.2.1 (cvL β lv') → va_P D vwCl (wsOf β cT h2) H' → va_S (fun q => base ≤ q) s.heap H' locs' → W p l e R s m args below meth c H' locs' (h2.1 - n0) (szS h2.1 - szS n0) Q (F0 m pc' ls' (st'.map (cv β)))) :
    W p l e R s m args below meth c H locs (h.1 - n0) (szS h.1 - szS n0) Q (F0 m pc ls (st.map (cv β))) := by
  obtain ⟨hx, hb, hml, hown, hts, hG, hK, hsz, hmk, hini⟩ := C
  have hlen1 : len = 1 := Nat.eq_of_beq_eq_true hlen
  subst hlen1
  replace hs : ((match (generalizing := false) st with
    | .ref i :: r => bif Nat.beq i sId then (match (generalizing := false) scr with
      | some (L, _) => some (pc + 1, lv, .int (Int32.ofNat L) :: r, h)
      | none => none) else (match (generalizing := false) arrL h i 0 with
      | some n => some (pc + 1, lv, .int (Int32.ofNat n) :: r, h)
      | none => none)
    | _ => none)) = some (pc', lv', st', h2) := hs
  split at hs
  next i r =>
    cases hb0 : Nat.beq i sId with
    | true =>
      rw [hb0] at hs
      replace hs : (match (generalizing := false) scr with
        | some (L, _) => some (pc + 1, lv, .int (Int32.ofNat L) :: r, h)
        | none => none) = some (pc', lv', st', h2) := hs
      split at hs
      next L xs =>
        cases hs
        obtain ⟨x1, x2, x3⟩ := hsc L xs rfl
        rw [Nat.eq_of_beq_eq_true hb0]
        exact va_slen (A := fun q => base ≤ q) hx hb x1 x2 (Nat.not_le.mpr x3) hS hd (K _ _ _ hl hP hS)
      next => cases hs
    | false =>
      rw [hb0] at hs
      replace hs : (match (generalizing := false) arrL h i 0 with
        | some n => some (pc + 1, lv, .int (Int32.ofNat n) :: r, h)
        | none => none) = some (pc', lv', st', h2) := hs
      split at hs
      next n ha =>
        cases hs
        obtain ⟨hi, hsh⟩ := arrL_spec ha
        exact va_alen (x := (n, .inl (h.2.1 i))) (ty := .int) hx hb hK.1 hP i 0 (by rw [wsOf_at hi, cell_a0 hsh]) rfl rfl hd (K _ _ _ hl hP hS)
      next => cases hs
  next => cases hs
set_option maxHeartbeats 1000000 in
theorem zs_invokespecial (ix : Nat) {p : Program} {l : Launch} {e : Env} {R : Room} {s : State} {m : MethodId} {args : Array Value} {below : List Frame} {meth : Method} {c : Code} {D : va_G} {cT : CT} {β : Nat → Nat} {base : Nat} {me : ME} {Ts : List Cond} {n0 : Nat} {scr : Option (Nat × (Nat → Int32))} (C : Ctx p s m args meth c D cT base me Ts n0) (hsc : ScrOK scr β s base) (hβ : ∀ i, i < 4096 → β i = base + i) {pc len : Nat} {lv lv' : LV} {st st' : List Value} {h h2 : Hp} {pc' : Nat} (hs : zStep scr me.1 me.2.2.2.1 pc (isIni me) (.invokespecial ix) len lv st h = some (pc', lv', st', h2)) (hd : decode me.2.2.1 pc = .ok (.invokespecial ix, len)) (hlen : lenOK (.invokespecial ix) len = true) (hroom : rOKb me (pc, .invokespecial ix, len) = true) (hR : (me.2.2.2.2.2.2.1 ≤ R.frames ∧ me.2.2.2.2.2.2.2 ≤ R.locals) ∧ h2.1 - n0 ≤ R.cells ∧ szS h2.1 - szS n0 ≤ R.slots) (hn0 : n0 ≤ h.1) (h83 : h.1 ≤ 83) {H : Heap} {locs : List Loc} {ls : Array Slot} {Q : State → Prop} (hl : lv_has ls me.2.2.2.1 (cvL β lv)) (hP : va_P D vwCl (wsOf β cT h) H) (hS : va_S (fun q => base ≤ q) s.heap H locs)
    (K : ∀ (H' : Heap) (locs' : List Loc) (ls' : Array Slot), lv_has ls' me.2.2.2.1 (cvL β lv') → va_P D vwCl (wsOf β cT h2) H' → va_S (fun q => base ≤ q) s.heap H' locs' → W p l e R s m args below meth c H' locs' (h2.1 - n0) (szS h2.1 - szS n0) Q (F0 m pc' ls' (st'.map (cv β)))) :
    W p l e R s m args below meth c H locs (h.1 - n0) (szS h.1 - szS n0) Q (F0 m pc ls (st.map (cv β))) := by
  obtain ⟨hx, hb, hml, hown, hts, hG, hK, hsz, hmk, hini⟩ := C
  have hlen1 : len = 3 := Nat.eq_of_beq_eq_true hlen
  subst hlen1
  replace hs : ((match (generalizing := false) st with
    | .ref _ :: r => (match (generalizing := false) lkp (poolOf me.1) ix with
      | some (7, _, _, _) => bif Nat.ble (catS r) 8 then some (pc + 3, lv, r, h) else none
      | _ => none)
    | _ => none)) = some (pc', lv', st', h2) := hs
  split at hs
  next a r =>
    split at hs
    next a1 b1 v1 hp =>
      cases hb1 : Nat.ble (catS r) 8 with
      | false => rw [hb1] at hs; cases hs
      | true =>
        rw [hb1] at hs
        cases hs
        obtain ⟨w1, w2, w3⟩ := pool_O hp
        have hrm : 1 ≤ me.2.2.2.2.2.2.1 ∧ 20 ≤ me.2.2.2.2.2.2.2 := by
          replace hroom : rOKb.rOK2 me ix = true := hroom
          unfold rOKb.rOK2 at hroom
          rw [hp] at hroom
          simpa using hroom
        have hcs : ((st'.map (cv β)).map fun v => v.category).sum ≤ 8 := by
          have : catS st' ≤ 8 := by simpa using hb1
          simpa [catS, Function.comp_def, cv_cat] using this
        refine W.objInit (a := β a) (rest := st'.map (cv β)) hx hb hown (hts _ (hG _ w1)) (hts _ (hG _ w2)) (hts _ (hG _ w3)) rfl (by rw [hml]; exact hl.1) rfl hd (by omega) (by show 2 * 0 + _ + 12 ≤ R.locals; omega) ?_
        exact K _ _ _ hl hP hS
    next => cases hs
  next => cases hs
set_option maxHeartbeats 1000000 in
theorem zs_invokestatic (ix : Nat) {p : Program} {l : Launch} {e : Env} {R : Room} {s : State} {m : MethodId} {args : Array Value} {below : List Frame} {meth : Method} {c : Code} {D : va_G} {cT : CT} {β : Nat → Nat} {base : Nat} {me : ME} {Ts : List Cond} {n0 : Nat} {scr : Option (Nat × (Nat → Int32))} (C : Ctx p s m args meth c D cT base me Ts n0) (hsc : ScrOK scr β s base) (hβ : ∀ i, i < 4096 → β i = base + i) {pc len : Nat} {lv lv' : LV} {st st' : List Value} {h h2 : Hp} {pc' : Nat} (hs : zStep scr me.1 me.2.2.2.1 pc (isIni me) (.invokestatic ix) len lv st h = some (pc', lv', st', h2)) (hd : decode me.2.2.1 pc = .ok (.invokestatic ix, len)) (hlen : lenOK (.invokestatic ix) len = true) (hroom : rOKb me (pc, .invokestatic ix, len) = true) (hR : (me.2.2.2.2.2.2.1 ≤ R.frames ∧ me.2.2.2.2.2.2.2 ≤ R.locals) ∧ h2.1 - n0 ≤ R.cells ∧ szS h2.1 - szS n0 ≤ R.slots) (hn0 : n0 ≤ h.1) (h83 : h.1 ≤ 83) {H : Heap} {locs : List Loc} {ls : Array Slot} {Q : State → Prop} (hl : lv_has ls me.2.2.2.1 (cvL β lv)) (hP : va_P D vwCl (wsOf β cT h) H) (hS : va_S (fun q => base ≤ q) s.heap H locs)
    (K : ∀ (H' : Heap) (locs' : List Loc) (ls' : Array Slot), lv_has ls' me.2.2.2.1 (cvL β lv') → va_P D vwCl (wsOf β cT h2) H' → va_S (fun q => base ≤ q) s.heap H' locs' → W p l e R s m args below meth c H' locs' (h2.1 - n0) (szS h2.1 - szS n0) Q (F0 m pc' ls' (st'.map (cv β)))) :
    W p l e R s m args below meth c H locs (h.1 - n0) (szS h.1 - szS n0) Q (F0 m pc ls (st.map (cv β))) := by
  obtain ⟨hx, hb, hml, hown, hts, hG, hK, hsz, hmk, hini⟩ := C
  have hlen1 : len = 3 := Nat.eq_of_beq_eq_true hlen
  subst hlen1
  replace hs : ((match (generalizing := false) lkp (poolOf me.1) ix with
    | some (8, _, _, _) => (match (generalizing := false) st with
      | .int n :: .int dp :: .ref d :: .int sp :: .ref a :: r => (match (generalizing := false) arrL h a 0 with
        | some n0 => (match (generalizing := false) arrL h d 0 with
          | some n1 => bif decide (0 ≤ n.toInt) && decide (0 ≤ dp.toInt) && decide (0 ≤ sp.toInt) && Nat.ble (sp.toNatClampNeg + n.toNatClampNeg) n0 && Nat.ble (dp.toNatClampNeg + n.toNatClampNeg) n1 && Nat.ble (catS r) 8 then
              some (pc + 3, lv, r, (h.1, (fun x => if x = d then va_cpy (h.2.1 a) (h.2.1 d) sp.toNatClampNeg dp.toNatClampNeg n.toNatClampNeg else h.2.1 x), h.2.2)) else none
          | none => none)
        | none => none)
      | _ => none)
    | some (13, _, _, _) => (match (generalizing := false) st with
      | .int y :: .int x :: r => bif Nat.ble (catS r) 8 then some (pc + 3, lv, .int (if x < y then y else x) :: r, h) else none
      | _ => none)
    | some (14, _, _, _) => (match (generalizing := false) st with
      | .int y :: .int x :: r => bif Nat.ble (catS r) 8 then some (pc + 3, lv, .int (if y < x then y else x) :: r, h) else none
      | _ => none)
    | _ => none)) = some (pc', lv', st', h2) := hs
  split at hs
  next a1 b1 v1 hp =>
    split at hs
    next n dp d sp a r =>
      split at hs
      next na ha =>
        split at hs
        next nd hda =>
          cases hb1 : decide (0 ≤ n.toInt) && decide (0 ≤ dp.toInt) && decide (0 ≤ sp.toInt) && Nat.ble (sp.toNatClampNeg + n.toNatClampNeg) na && Nat.ble (dp.toNatClampNeg + n.toNatClampNeg) nd && Nat.ble (catS r) 8 with
          | false => rw [hb1] at hs; cases hs
          | true =>
            rw [hb1] at hs
            cases hs
            simp only [Bool.and_eq_true, decide_eq_true_eq, Nat.ble_eq] at hb1
            obtain ⟨⟨⟨⟨⟨q1, q2⟩, q3⟩, q4⟩, q5⟩, q6⟩ := hb1
            obtain ⟨w1, w2, w3, w4⟩ := pool_A hp
            obtain ⟨hi, hsh⟩ := arrL_spec ha
            obtain ⟨hdi, hdsh⟩ := arrL_spec hda
            have hrm : 1 ≤ me.2.2.2.2.2.2.1 ∧ 40 ≤ me.2.2.2.2.2.2.2 := by
              replace hroom : rOKb.rOK2 me ix = true := hroom
              unfold rOKb.rOK2 at hroom
              rw [hp] at hroom
              simpa using hroom
            have hcs : ((st'.map (cv β)).map fun v => v.category).sum ≤ 8 := by
              simpa [catS, Function.comp_def, cv_cat] using q6
            refine va_copyi (ty := .int) hx hb (by rw [hml]; exact hl.1.symm) hown (hts _ (hG _ w1)) (hts _ (hG _ w2)) (hts _ (hG _ w3)) (hts _ (hG _ w4)) hK.1 hP (wsOf_D (fun i hi => hβ i (by omega))) hS a d 0 0 (by rw [wsOf_at hi, cell_a0 hsh]) (by rw [wsOf_at hdi, cell_a0 hdsh]) rfl rfl rfl (nonneg_of q3) (nonneg_of q2) (nonneg_of q1) q4 q5 (fun _ _ => rfl) (by omega) (by
              have : nativeFrameWords "java/lang/System" "arraycopy" 5 = 7 := by decide +kernel
              rw [this]; omega) hd (fun H1 locs1 hP1 hD1 hS1 => ?_)
            have e0 := wsOf_set (β := β) (cT := cT) (h := h) (h' := (h.1, (fun x => if x = d then va_cpy (h.2.1 a) (h.2.1 d) sp.toNatClampNeg dp.toNatClampNeg n.toNatClampNeg else h.2.1 x), h.2.2)) (i := d) rfl (fun j hj => cell_same (if_neg hj) rfl)
            rw [cell_a0 hdsh, show ((h.1, (fun x => if x = d then va_cpy (h.2.1 a) (h.2.1 d) sp.toNatClampNeg dp.toNatClampNeg n.toNatClampNeg else h.2.1 x), h.2.2) : Hp).2.1 d = va_cpy (h.2.1 a) (h.2.1 d) sp.toNatClampNeg dp.toNatClampNeg n.toNatClampNeg from if_pos rfl] at e0
            rw [e0] at hP1
            exact K _ _ _ hl hP1 hS1
        next => cases hs
      next => cases hs
    next => cases hs
  next a1 b1 v1 hp =>
    split at hs
    next y x r =>
      cases hb1 : Nat.ble (catS r) 8 with
      | false => rw [hb1] at hs; cases hs
      | true =>
        rw [hb1] at hs
        cases hs
        obtain ⟨w1, w2, w3, w4⟩ := pool_max hp
        have hrm : 1 ≤ me.2.2.2.2.2.2.1 ∧ 40 ≤ me.2.2.2.2.2.2.2 := by
          replace hroom : rOKb.rOK2 me ix = true := hroom
          unfold rOKb.rOK2 at hroom
          rw [hp] at hroom
          simpa using hroom
        have hcs : ((r.map (cv β)).map fun v => v.category).sum ≤ 8 := by
          have : catS r ≤ 8 := by simpa using hb1
          simpa [catS, Function.comp_def, cv_cat] using this
        exact va_mmax hx hb (by rw [hml]; exact hl.1.symm) hown (hts _ (hG _ w1)) (hts _ (hG _ w2)) (hts _ (hG _ w3)) (hts _ (hG _ w4)) (by omega) (by omega) hR.2.1 hR.2.2 hd (K _ _ _ hl hP hS)
    next => cases hs
  next a1 b1 v1 hp =>
    split at hs
    next y x r =>
      cases hb1 : Nat.ble (catS r) 8 with
      | false => rw [hb1] at hs; cases hs
      | true =>
        rw [hb1] at hs
        cases hs
        obtain ⟨w1, w2, w3, w4⟩ := pool_min hp
        have hrm : 1 ≤ me.2.2.2.2.2.2.1 ∧ 40 ≤ me.2.2.2.2.2.2.2 := by
          replace hroom : rOKb.rOK2 me ix = true := hroom
          unfold rOKb.rOK2 at hroom
          rw [hp] at hroom
          simpa using hroom
        have hcs : ((r.map (cv β)).map fun v => v.category).sum ≤ 8 := by
          have : catS r ≤ 8 := by simpa using hb1
          simpa [catS, Function.comp_def, cv_cat] using this
        exact va_mmin hx hb (by rw [hml]; exact hl.1.symm) hown (hts _ (hG _ w1)) (hts _ (hG _ w2)) (hts _ (hG _ w3)) (hts _ (hG _ w4)) (by omega) (by omega) hR.2.1 hR.2.2 hd (K _ _ _ hl hP hS)
    next => cases hs
  next => cases hs
end
section
/-! New cells. -/
theorem arrC_int : Cond.arrayClass .int ∈ gTbl := inT_mem (i := 1051) (by decide +kernel)
theorem arrC_byte : Cond.arrayClass .byte ∈ gTbl := inT_mem (i := 1037) (by decide +kernel)
theorem new_addr {D : va_G} {cT : CT} {β : Nat → Nat} {base q : Nat} {h : Hp} {x : va_E} {H1 : Heap} (hβ : ∀ i, i < 4096 → β i = base + i) (h83 : h.1 ≤ 83) (hP1 : va_P D vwCl (wsOf β cT h ++ [(q, x)]) H1) (hD1 : va_D (fun q => base ≤ q) (wsOf β cT h ++ [(q, x)])) (hz : H1.size ≤ base + h.1 + 1) : q = β h.1 := by
  have hl : (wsOf β cT h).length = h.1 := by simp [wsOf]
  have e1 : (wsOf β cT h ++ [(q, x)])[h.1]? = some (q, x) := by
    rw [List.getElem?_append_right (by omega), hl]
    simp
  have hlt : q < H1.size := (hP1 h.1 (q, x) e1).lt
  have hge : base ≤ q := hD1.2 h.1 (q, x) e1
  have hne : ∀ i, i < h.1 → q ≠ base + i := by
    intro i hi e
    have e2 : (wsOf β cT h ++ [(q, x)])[i]? = some (β i, cellOf β cT h i) := by
      rw [List.getElem?_append_left (by omega), wsOf_at hi]
    have := hD1.1 i h.1 _ _ e2 e1 (by show β i = q; rw [hβ i (by omega), e])
    omega
  have : ¬ q < base + h.1 := by
    intro hq
    exact hne (q - base) (by omega) (by omega)
  rw [hβ h.1 (by omega)]
  omega
def h0new (h : Hp) : Hp := (h.1 + 1, (fun a => if a = h.1 then (fun _ => 0) else h.2.1 a), (fun a => if a = h.1 then (fun _ => none) else h.2.2 a))
theorem h0_same {β : Nat → Nat} {cT : CT} {h : Hp} : ∀ j, j < h.1 → cellOf β cT (h0new h) j = cellOf β cT h j := fun j hj => cell_same (if_neg (Nat.ne_of_lt hj)) (if_neg (Nat.ne_of_lt hj))
theorem h0_i {h : Hp} : (h0new h).2.1 h.1 = fun _ => 0 := if_pos rfl
theorem h0_r {h : Hp} : (h0new h).2.2 h.1 = fun _ => none := if_pos rfl
set_option maxHeartbeats 1000000 in
theorem zs_new (ix : Nat) {p : Program} {l : Launch} {e : Env} {R : Room} {s : State} {m : MethodId} {args : Array Value} {below : List Frame} {meth : Method} {c : Code} {D : va_G} {cT : CT} {β : Nat → Nat} {base : Nat} {me : ME} {Ts : List Cond} {n0 : Nat} {scr : Option (Nat × (Nat → Int32))} (C : Ctx p s m args meth c D cT base me Ts n0) (hsc : ScrOK scr β s base) (hβ : ∀ i, i < 4096 → β i = base + i) {pc len : Nat} {lv lv' : LV} {st st' : List Value} {h h2 : Hp} {pc' : Nat} (hs : zStep scr me.1 me.2.2.2.1 pc (isIni me) (.new ix) len lv st h = some (pc', lv', st', h2)) (hd : decode me.2.2.1 pc = .ok (.new ix, len)) (hlen : lenOK (.new ix) len = true) (hroom : rOKb me (pc, .new ix, len) = true) (hR : (me.2.2.2.2.2.2.1 ≤ R.frames ∧ me.2.2.2.2.2.2.2 ≤ R.locals) ∧ h2.1 - n0 ≤ R.cells ∧ szS h2.1 - szS n0 ≤ R.slots) (hn0 : n0 ≤ h.1) (h83 : h.1 ≤ 83) {H : Heap} {locs : List Loc} {ls : Array Slot} {Q : State → Prop} (hl : lv_has ls me.2.2.2.1 (cvL β lv)) (hP : va_P D vwCl (wsOf β cT h) H) (hS : va_S (fun q => base ≤ q) s.heap H locs)
    (K : ∀ (H' : Heap) (locs' : List Loc) (ls' : Array Slot), lv_has ls' me.2.2.2.1 (cvL β lv') → va_P D vwCl (wsOf β cT h2) H' → va_S (fun q => base ≤ q) s.heap H' locs' → W p l e R s m args below meth c H' locs' (h2.1 - n0) (szS h2.1 - szS n0) Q (F0 m pc' ls' (st'.map (cv β)))) :
    W p l e R s m args below meth c H locs (h.1 - n0) (szS h.1 - szS n0) Q (F0 m pc ls (st.map (cv β))) := by
  obtain ⟨hx, hb, hml, hown, hts, hG, hK, hsz, hmk, hini⟩ := C
  have hlen1 : len = 3 := Nat.eq_of_beq_eq_true hlen
  subst hlen1
  replace hs : ((match (generalizing := false) lkp (poolOf me.1) ix with
    | some (11, ci, _, _) => (match (generalizing := false) shp[h.1]? with
      | some (.inl c) => bif Nat.beq c ci then some (pc + 3, lv, .ref h.1 :: st, (h.1 + 1, (fun a => if a = h.1 then (fun _ => 0) else h.2.1 a), (fun a => if a = h.1 then (fun _ => none) else h.2.2 a))) else none
      | _ => none)
    | _ => none)) = some (pc', lv', st', h2) := hs
  split at hs
  next ci b0 v0 hp =>
    split at hs
    next c1 hc1 =>
      cases hb1 : Nat.beq c1 ci with
      | false => rw [hb1] at hs; cases hs
      | true =>
        rw [hb1] at hs
        cases hs
        have hcc : c1 = ci := Nat.eq_of_beq_eq_true hb1
        subst hcc
        obtain ⟨Cn, T, N, hc, w1, w2, w3⟩ := pool_N hp
        obtain ⟨ty, hin, hN, hCn, hty, hnm, hf⟩ := cls_ok hc
        have hs1 : szS (h.1 + 1) = szS h.1 + N := by rw [szS_succ hc1, hN]; rfl
        have hs2 := szS_mono hn0
        obtain ⟨-, hR1, hR2⟩ := hR
        replace hR1 : h.1 + 1 - n0 ≤ R.cells := hR1
        replace hR2 : szS (h.1 + 1) - szS n0 ≤ R.slots := hR2
        refine va_new (ci := c1) (fs := fldsOf β (h0new h) h.1 c1) (C := Cn) (T := T) (N := N) hx hb hts (fun w hw => hG w (hin w hw)) ty hty hown (hts _ (hG _ w1)) (hts _ (hG _ w2)) (hts _ (hG _ w3)) hK.1 hP (wsOf_D (fun i hi => hβ i (by omega))) hS (fun q hq => by show base ≤ q; omega) hc (fun j hj => ?_) (by omega) (by omega) hd (fun q H1 hP1 hD1 hS1 => ?_)
        · have hj2 : j < nF c1 := by omega
          obtain ⟨f1, f2, f3, f4⟩ := hf j hj
          unfold vp_V
          rw [List.getD_eq_getElem?_getD, flds_at hj2, h0_i, h0_r]
          cases hr : isR c1 j with
          | true => rcases f4 hr with q | q | ⟨c1, q | q⟩ <;> rw [q] <;> rfl
          | false => rw [f3 hr]; rfl
        · refine W_size (fun hz => ?_)
          have hq := new_addr hβ h83 hP1 hD1 (by omega)
          subst hq
          rw [← cell_obj (cT := cT) hc1, wsOf_push (h' := h0new h) rfl h0_same] at hP1
          have k1 := K H1 locs ls hl hP1 hS1
          rw [show h.1 - n0 + 1 = h.1 + 1 - n0 by omega, show szS h.1 - szS n0 + N = szS (h.1 + 1) - szS n0 by omega]
          exact k1
    next => cases hs
  next => cases hs
set_option maxHeartbeats 1000000 in
theorem zs_newarray (ty : ArrayType) {p : Program} {l : Launch} {e : Env} {R : Room} {s : State} {m : MethodId} {args : Array Value} {below : List Frame} {meth : Method} {c : Code} {D : va_G} {cT : CT} {β : Nat → Nat} {base : Nat} {me : ME} {Ts : List Cond} {n0 : Nat} {scr : Option (Nat × (Nat → Int32))} (C : Ctx p s m args meth c D cT base me Ts n0) (hsc : ScrOK scr β s base) (hβ : ∀ i, i < 4096 → β i = base + i) {pc len : Nat} {lv lv' : LV} {st st' : List Value} {h h2 : Hp} {pc' : Nat} (hs : zStep scr me.1 me.2.2.2.1 pc (isIni me) (.newarray ty) len lv st h = some (pc', lv', st', h2)) (hd : decode me.2.2.1 pc = .ok (.newarray ty, len)) (hlen : lenOK (.newarray ty) len = true) (hroom : rOKb me (pc, .newarray ty, len) = true) (hR : (me.2.2.2.2.2.2.1 ≤ R.frames ∧ me.2.2.2.2.2.2.2 ≤ R.locals) ∧ h2.1 - n0 ≤ R.cells ∧ szS h2.1 - szS n0 ≤ R.slots) (hn0 : n0 ≤ h.1) (h83 : h.1 ≤ 83) {H : Heap} {locs : List Loc} {ls : Array Slot} {Q : State → Prop} (hl : lv_has ls me.2.2.2.1 (cvL β lv)) (hP : va_P D vwCl (wsOf β cT h) H) (hS : va_S (fun q => base ≤ q) s.heap H locs)
    (K : ∀ (H' : Heap) (locs' : List Loc) (ls' : Array Slot), lv_has ls' me.2.2.2.1 (cvL β lv') → va_P D vwCl (wsOf β cT h2) H' → va_S (fun q => base ≤ q) s.heap H' locs' → W p l e R s m args below meth c H' locs' (h2.1 - n0) (szS h2.1 - szS n0) Q (F0 m pc' ls' (st'.map (cv β)))) :
    W p l e R s m args below meth c H locs (h.1 - n0) (szS h.1 - szS n0) Q (F0 m pc ls (st.map (cv β))) := by
  obtain ⟨hx, hb, hml, hown, hts, hG, hK, hsz, hmk, hini⟩ := C
  have hlen1 : len = 2 := Nat.eq_of_beq_eq_true hlen
  subst hlen1
  replace hs : ((match (generalizing := false) st with
    | .int n :: r => (match (generalizing := false) shp[h.1]? with
      | some (.inr (t, N)) => bif ((Nat.beq t 0 && decide (ty = .int)) || (Nat.beq t 1 && decide (ty = .byte))) && decide (0 ≤ n.toInt) && Nat.beq n.toNatClampNeg N then some (pc + 2, lv, .ref h.1 :: r, (h.1 + 1, (fun a => if a = h.1 then (fun _ => 0) else h.2.1 a), (fun a => if a = h.1 then (fun _ => none) else h.2.2 a))) else none
      | _ => none)
    | _ => none)) = some (pc', lv', st', h2) := hs
  split at hs
  next n r =>
    split at hs
    next t N hc1 =>
      cases hb1 : ((Nat.beq t 0 && decide (ty = .int)) || (Nat.beq t 1 && decide (ty = .byte))) && decide (0 ≤ n.toInt) && Nat.beq n.toNatClampNeg N with
      | false => rw [hb1] at hs; cases hs
      | true =>
        rw [hb1] at hs
        cases hs
        rw [Bool.and_eq_true, Bool.and_eq_true] at hb1
        obtain ⟨⟨q1, q2⟩, q3⟩ := hb1
        replace q2 : 0 ≤ n.toInt := by simpa using q2
        have hN : n.toNatClampNeg = N := Nat.eq_of_beq_eq_true q3
        have hN4 := (arr_of_shp hc1).2
        have hs1 : szS (h.1 + 1) = szS h.1 + N := by rw [szS_succ hc1]; rfl
        have hs2 := szS_mono hn0
        obtain ⟨-, hR1, hR2⟩ := hR
        replace hR1 : h.1 + 1 - n0 ≤ R.cells := hR1
        replace hR2 : szS (h.1 + 1) - szS n0 ≤ R.slots := hR2
        rw [Bool.or_eq_true] at q1
        rcases q1 with q1 | q1
        · rw [Bool.and_eq_true] at q1
          have ht : t = 0 := Nat.eq_of_beq_eq_true q1.1
          have hty : ty = .int := by simpa using q1.2
          subst ht; subst hty
          refine va_newa (atype := .int) (ty := .int) (a0 := (N, .inl (fun _ => 0))) hx hb (hts _ (hG _ arrC_int)) rfl hK.1 hP (wsOf_D (fun i hi => hβ i (by omega))) hS (fun q hq => by show base ≤ q; omega) (fun cA => rfl) (nonneg_of q2) hN (by show N * 4 ≤ 536870912; omega) (by omega) (by omega) hd (fun q cA H1 hK1 hP1 hD1 hS1 => ?_)
          refine W_size (fun hz => ?_)
          have hq := new_addr hβ h83 hP1 hD1 (by omega)
          subst hq
          have e1 : s.vm.findClass ("[" ++ (FieldType.int).toString) = some cA := (hK1.2 3 (cA, .int) rfl).2
          have e2 : s.vm.findClass ("[" ++ (FieldType.int).toString) = some cT.1 := (hK.1.2 0 (cT.1, .int) rfl).2
          have e3 : cA = cT.1 := Option.some.inj (e1.symm.trans e2)
          subst e3
          rw [show (Sum.inl (fun _ => 0) : (Nat → Int32) ⊕ (Nat → Int64) ⊕ (Nat → UInt32) ⊕ (Nat → UInt64) ⊕ (Nat → Option Nat)) = .inl ((h0new h).2.1 h.1) by rw [h0_i], ← cell_a0 (β := β) (cT := cT) (h := h0new h) hc1, wsOf_push (h' := h0new h) rfl h0_same] at hP1
          have k1 := K H1 locs ls hl hP1 hS1
          rw [show h.1 - n0 + 1 = h.1 + 1 - n0 by omega, show szS h.1 - szS n0 + N = szS (h.1 + 1) - szS n0 by omega]
          exact k1
        · rw [Bool.and_eq_true] at q1
          have ht : t = 1 := Nat.eq_of_beq_eq_true q1.1
          have hty : ty = .byte := by simpa using q1.2
          subst ht; subst hty
          refine va_newa (atype := .byte) (ty := .byte) (a0 := (N, .inl (fun _ => 0))) hx hb (hts _ (hG _ arrC_byte)) rfl hK.1 hP (wsOf_D (fun i hi => hβ i (by omega))) hS (fun q hq => by show base ≤ q; omega) (fun cA => rfl) (nonneg_of q2) hN (by show N * 1 ≤ 536870912; omega) (by omega) (by omega) hd (fun q cA H1 hK1 hP1 hD1 hS1 => ?_)
          refine W_size (fun hz => ?_)
          have hq := new_addr hβ h83 hP1 hD1 (by omega)
          subst hq
          have e1 : s.vm.findClass ("[" ++ (FieldType.byte).toString) = some cA := (hK1.2 3 (cA, .byte) rfl).2
          have e2 : s.vm.findClass ("[" ++ (FieldType.byte).toString) = some cT.2.1 := (hK.1.2 1 (cT.2.1, .byte) rfl).2
          have e3 : cA = cT.2.1 := Option.some.inj (e1.symm.trans e2)
          subst e3
          rw [show (Sum.inl (fun _ => 0) : (Nat → Int32) ⊕ (Nat → Int64) ⊕ (Nat → UInt32) ⊕ (Nat → UInt64) ⊕ (Nat → Option Nat)) = .inl ((h0new h).2.1 h.1) by rw [h0_i], ← cell_a1 (β := β) (cT := cT) (h := h0new h) hc1, wsOf_push (h' := h0new h) rfl h0_same] at hP1
          have k1 := K H1 locs ls hl hP1 hS1
          rw [show h.1 - n0 + 1 = h.1 + 1 - n0 by omega, show szS h.1 - szS n0 + N = szS (h.1 + 1) - szS n0 by omega]
          exact k1
    next => cases hs
  next => cases hs
set_option maxHeartbeats 1000000 in
theorem zs_anewarray (ix : Nat) {p : Program} {l : Launch} {e : Env} {R : Room} {s : State} {m : MethodId} {args : Array Value} {below : List Frame} {meth : Method} {c : Code} {D : va_G} {cT : CT} {β : Nat → Nat} {base : Nat} {me : ME} {Ts : List Cond} {n0 : Nat} {scr : Option (Nat × (Nat → Int32))} (C : Ctx p s m args meth c D cT base me Ts n0) (hsc : ScrOK scr β s base) (hβ : ∀ i, i < 4096 → β i = base + i) {pc len : Nat} {lv lv' : LV} {st st' : List Value} {h h2 : Hp} {pc' : Nat} (hs : zStep scr me.1 me.2.2.2.1 pc (isIni me) (.anewarray ix) len lv st h = some (pc', lv', st', h2)) (hd : decode me.2.2.1 pc = .ok (.anewarray ix, len)) (hlen : lenOK (.anewarray ix) len = true) (hroom : rOKb me (pc, .anewarray ix, len) = true) (hR : (me.2.2.2.2.2.2.1 ≤ R.frames ∧ me.2.2.2.2.2.2.2 ≤ R.locals) ∧ h2.1 - n0 ≤ R.cells ∧ szS h2.1 - szS n0 ≤ R.slots) (hn0 : n0 ≤ h.1) (h83 : h.1 ≤ 83) {H : Heap} {locs : List Loc} {ls : Array Slot} {Q : State → Prop} (hl : lv_has ls me.2.2.2.1 (cvL β lv)) (hP : va_P D vwCl (wsOf β cT h) H) (hS : va_S (fun q => base ≤ q) s.heap H locs)
    (K : ∀ (H' : Heap) (locs' : List Loc) (ls' : Array Slot), lv_has ls' me.2.2.2.1 (cvL β lv') → va_P D vwCl (wsOf β cT h2) H' → va_S (fun q => base ≤ q) s.heap H' locs' → W p l e R s m args below meth c H' locs' (h2.1 - n0) (szS h2.1 - szS n0) Q (F0 m pc' ls' (st'.map (cv β)))) :
    W p l e R s m args below meth c H locs (h.1 - n0) (szS h.1 - szS n0) Q (F0 m pc ls (st.map (cv β))) := by
  obtain ⟨hx, hb, hml, hown, hts, hG, hK, hsz, hmk, hini⟩ := C
  have hlen1 : len = 3 := Nat.eq_of_beq_eq_true hlen
  subst hlen1
  replace hs : ((match (generalizing := false) st with
    | .int n :: r => (match (generalizing := false) lkp (poolOf me.1) ix with
      | some (11, 5, _, _) => (match (generalizing := false) shp[h.1]? with
        | some (.inr (t, N)) => bif Nat.beq t 2 && decide (0 ≤ n.toInt) && Nat.beq n.toNatClampNeg N then some (pc + 3, lv, .ref h.1 :: r, (h.1 + 1, (fun a => if a = h.1 then (fun _ => 0) else h.2.1 a), (fun a => if a = h.1 then (fun _ => none) else h.2.2 a))) else none
        | _ => none)
      | _ => none)
    | _ => none)) = some (pc', lv', st', h2) := hs
  split at hs
  next n r =>
    split at hs
    next b0 v0 hp =>
      split at hs
      next t N hc1 =>
        cases hb1 : Nat.beq t 2 && decide (0 ≤ n.toInt) && Nat.beq n.toNatClampNeg N with
        | false => rw [hb1] at hs; cases hs
        | true =>
          rw [hb1] at hs
          cases hs
          rw [Bool.and_eq_true, Bool.and_eq_true] at hb1
          obtain ⟨⟨q1, q2⟩, q3⟩ := hb1
          replace q2 : 0 ≤ n.toInt := by simpa using q2
          have ht : t = 2 := Nat.eq_of_beq_eq_true q1
          subst ht
          have hN : n.toNatClampNeg = N := Nat.eq_of_beq_eq_true q3
          have hN4 := (arr_of_shp hc1).2
          have hs1 : szS (h.1 + 1) = szS h.1 + N := by rw [szS_succ hc1]; rfl
          have hs2 := szS_mono hn0
          obtain ⟨-, hR1, hR2⟩ := hR
          replace hR1 : h.1 + 1 - n0 ≤ R.cells := hR1
          replace hR2 : szS (h.1 + 1) - szS n0 ≤ R.slots := hR2
          obtain ⟨Cn, T, N1, hc, w1, w2, w3⟩ := pool_N hp
          cases hc
          refine va_newq (C := RX5) hx hb hown (hts _ (hG _ w1)) hK.2.2 hK.1 hP (wsOf_D (fun i hi => hβ i (by omega))) hS (fun q hq => by show base ≤ q; omega) (nonneg_of q2) hN (by omega) (by omega) (by omega) hd (fun q cA H1 hK1 hP1 hD1 hS1 => ?_)
          refine W_size (fun hz => ?_)
          have hq := new_addr hβ h83 hP1 hD1 (by omega)
          subst hq
          obtain ⟨kA, comp, -, -, -, e1⟩ := (hK1.2 3 (cA, .object RX5) rfl).2
          obtain ⟨kA2, comp2, -, -, -, e2⟩ := (hK.1.2 2 (cT.2.2, .object RX5) rfl).2
          have e3 : cA = cT.2.2 := Option.some.inj (e1.symm.trans e2)
          subst e3
          rw [show (fun _ => none : Nat → Option Nat) = fun j => ((h0new h).2.2 h.1 j).map β by rw [h0_r]; rfl, ← cell_a2 (β := β) (cT := cT) (h := h0new h) hc1, wsOf_push (h' := h0new h) rfl h0_same] at hP1
          have k1 := K H1 locs ls hl hP1 hS1
          rw [show h.1 - n0 + 1 = h.1 + 1 - n0 by omega, show szS h.1 - szS n0 + N = szS (h.1 + 1) - szS n0 by omega]
          exact k1
      next => cases hs
    next => cases hs
  next => cases hs
set_option maxHeartbeats 4000000 in
/-- a step of zStep is a step of the machine -/
theorem zStep_W {ins : Instr} {p : Program} {l : Launch} {e : Env} {R : Room} {s : State} {m : MethodId} {args : Array Value} {below : List Frame} {meth : Method} {c : Code} {D : va_G} {cT : CT} {β : Nat → Nat} {base : Nat} {me : ME} {Ts : List Cond} {n0 : Nat} {scr : Option (Nat × (Nat → Int32))} (C : Ctx p s m args meth c D cT base me Ts n0) (hsc : ScrOK scr β s base) (hβ : ∀ i, i < 4096 → β i = base + i) {pc len : Nat} {lv lv' : LV} {st st' : List Value} {h h2 : Hp} {pc' : Nat} (hs : zStep scr me.1 me.2.2.2.1 pc (isIni me) (ins) len lv st h = some (pc', lv', st', h2)) (hd : decode me.2.2.1 pc = .ok (ins, len)) (hlen : lenOK (ins) len = true) (hroom : rOKb me (pc, ins, len) = true) (hR : (me.2.2.2.2.2.2.1 ≤ R.frames ∧ me.2.2.2.2.2.2.2 ≤ R.locals) ∧ h2.1 - n0 ≤ R.cells ∧ szS h2.1 - szS n0 ≤ R.slots) (hn0 : n0 ≤ h.1) (h83 : h.1 ≤ 83) {H : Heap} {locs : List Loc} {ls : Array Slot} {Q : State → Prop} (hl : lv_has ls me.2.2.2.1 (cvL β lv)) (hP : va_P D vwCl (wsOf β cT h) H) (hS : va_S (fun q => base ≤ q) s.heap H locs)
    (K : ∀ (H' : Heap) (locs' : List Loc) (ls' : Array Slot), lv_has ls' me.2.2.2.1 (cvL β lv') → va_P D vwCl (wsOf β cT h2) H' → va_S (fun q => base ≤ q) s.heap H' locs' → W p l e R s m args below meth c H' locs' (h2.1 - n0) (szS h2.1 - szS n0) Q (F0 m pc' ls' (st'.map (cv β)))) :
    W p l e R s m args below meth c H locs (h.1 - n0) (szS h.1 - szS n0) Q (F0 m pc ls (st.map (cv β))) := by
  cases ins with
  | iconst i => exact zs_iconst i C hsc hβ hs hd hlen hroom hR hn0 h83 hl hP hS K
  | bipush i => exact zs_bipush i C hsc hβ hs hd hlen hroom hR hn0 h83 hl hP hS K
  | sipush i => exact zs_sipush i C hsc hβ hs hd hlen hroom hR hn0 h83 hl hP hS K
  | lconst i => exact zs_lconst i C hsc hβ hs hd hlen hroom hR hn0 h83 hl hP hS K
  | ldc ix => exact zs_ldc ix C hsc hβ hs hd hlen hroom hR hn0 h83 hl hP hS K
  | ldc_w ix => exact zs_ldc_w ix C hsc hβ hs hd hlen hroom hR hn0 h83 hl hP hS K
  | ldc2_w ix => exact zs_ldc2_w ix C hsc hβ hs hd hlen hroom hR hn0 h83 hl hP hS K
  | iload_n i => exact zs_iload_n i C hsc hβ hs hd hlen hroom hR hn0 h83 hl hP hS K
  | iload i => exact zs_iload i C hsc hβ hs hd hlen hroom hR hn0 h83 hl hP hS K
  | lload_n i => exact zs_lload_n i C hsc hβ hs hd hlen hroom hR hn0 h83 hl hP hS K
  | lload i => exact zs_lload i C hsc hβ hs hd hlen hroom hR hn0 h83 hl hP hS K
  | aload_n i => exact zs_aload_n i C hsc hβ hs hd hlen hroom hR hn0 h83 hl hP hS K
  | aload i => exact zs_aload i C hsc hβ hs hd hlen hroom hR hn0 h83 hl hP hS K
  | istore_n i => exact zs_istore_n i C hsc hβ hs hd hlen hroom hR hn0 h83 hl hP hS K
  | istore i => exact zs_istore i C hsc hβ hs hd hlen hroom hR hn0 h83 hl hP hS K
  | lstore_n i => exact zs_lstore_n i C hsc hβ hs hd hlen hroom hR hn0 h83 hl hP hS K
  | lstore i => exact zs_lstore i C hsc hβ hs hd hlen hroom hR hn0 h83 hl hP hS K
  | astore_n i => exact zs_astore_n i C hsc hβ hs hd hlen hroom hR hn0 h83 hl hP hS K
  | astore i => exact zs_astore i C hsc hβ hs hd hlen hroom hR hn0 h83 hl hP hS K
  | iinc i n => exact zs_iinc i n C hsc hβ hs hd hlen hroom hR hn0 h83 hl hP hS K
  | dup => exact zs_dup  C hsc hβ hs hd hlen hroom hR hn0 h83 hl hP hS K
  | dup2 => exact zs_dup2  C hsc hβ hs hd hlen hroom hR hn0 h83 hl hP hS K
  | pop => exact zs_pop  C hsc hβ hs hd hlen hroom hR hn0 h83 hl hP hS K
  | iadd => exact zs_iadd  C hsc hβ hs hd hlen hroom hR hn0 h83 hl hP hS K
  | isub => exact zs_isub  C hsc hβ hs hd hlen hroom hR hn0 h83 hl hP hS K
  | imul => exact zs_imul  C hsc hβ hs hd hlen hroom hR hn0 h83 hl hP hS K
  | idiv => exact zs_idiv  C hsc hβ hs hd hlen hroom hR hn0 h83 hl hP hS K
  | irem => exact zs_irem  C hsc hβ hs hd hlen hroom hR hn0 h83 hl hP hS K
  | ineg => exact zs_ineg  C hsc hβ hs hd hlen hroom hR hn0 h83 hl hP hS K
  | ishl => exact zs_ishl  C hsc hβ hs hd hlen hroom hR hn0 h83 hl hP hS K
  | ishr => exact zs_ishr  C hsc hβ hs hd hlen hroom hR hn0 h83 hl hP hS K
  | iushr => exact zs_iushr  C hsc hβ hs hd hlen hroom hR hn0 h83 hl hP hS K
  | iand => exact zs_iand  C hsc hβ hs hd hlen hroom hR hn0 h83 hl hP hS K
  | ior => exact zs_ior  C hsc hβ hs hd hlen hroom hR hn0 h83 hl hP hS K
  | ixor => exact zs_ixor  C hsc hβ hs hd hlen hroom hR hn0 h83 hl hP hS K
  | i2l => exact zs_i2l  C hsc hβ hs hd hlen hroom hR hn0 h83 hl hP hS K
  | i2b => exact zs_i2b  C hsc hβ hs hd hlen hroom hR hn0 h83 hl hP hS K
  | l2i => exact zs_l2i  C hsc hβ hs hd hlen hroom hR hn0 h83 hl hP hS K
  | ladd => exact zs_ladd  C hsc hβ hs hd hlen hroom hR hn0 h83 hl hP hS K
  | lsub => exact zs_lsub  C hsc hβ hs hd hlen hroom hR hn0 h83 hl hP hS K
  | lmul => exact zs_lmul  C hsc hβ hs hd hlen hroom hR hn0 h83 hl hP hS K
  | ldiv => exact zs_ldiv  C hsc hβ hs hd hlen hroom hR hn0 h83 hl hP hS K
  | lrem => exact zs_lrem  C hsc hβ hs hd hlen hroom hR hn0 h83 hl hP hS K
  | land => exact zs_land  C hsc hβ hs hd hlen hroom hR hn0 h83 hl hP hS K
  | lor => exact zs_lor  C hsc hβ hs hd hlen hroom hR hn0 h83 hl hP hS K
  | lshl => exact zs_lshl  C hsc hβ hs hd hlen hroom hR hn0 h83 hl hP hS K
  | lshr => exact zs_lshr  C hsc hβ hs hd hlen hroom hR hn0 h83 hl hP hS K
  | lcmp => exact zs_lcmp  C hsc hβ hs hd hlen hroom hR hn0 h83 hl hP hS K
  | goto off => exact zs_goto off C hsc hβ hs hd hlen hroom hR hn0 h83 hl hP hS K
  | if_icmp c0 off => exact zs_if_icmp c0 off C hsc hβ hs hd hlen hroom hR hn0 h83 hl hP hS K
  | ifCond c0 off => exact zs_ifCond c0 off C hsc hβ hs hd hlen hroom hR hn0 h83 hl hP hS K
  | tableswitch d lo hi offs => exact zs_tableswitch d lo hi offs C hsc hβ hs hd hlen hroom hR hn0 h83 hl hP hS K
  | lookupswitch d ps => exact zs_lookupswitch d ps C hsc hβ hs hd hlen hroom hR hn0 h83 hl hP hS K
  | getfield ix => exact zs_getfield ix C hsc hβ hs hd hlen hroom hR hn0 h83 hl hP hS K
  | putfield ix => exact zs_putfield ix C hsc hβ hs hd hlen hroom hR hn0 h83 hl hP hS K
  | iaload => exact zs_iaload  C hsc hβ hs hd hlen hroom hR hn0 h83 hl hP hS K
  | baload => exact zs_baload  C hsc hβ hs hd hlen hroom hR hn0 h83 hl hP hS K
  | aaload => exact zs_aaload  C hsc hβ hs hd hlen hroom hR hn0 h83 hl hP hS K
  | iastore => exact zs_iastore  C hsc hβ hs hd hlen hroom hR hn0 h83 hl hP hS K
  | bastore => exact zs_bastore  C hsc hβ hs hd hlen hroom hR hn0 h83 hl hP hS K
  | aastore => exact zs_aastore  C hsc hβ hs hd hlen hroom hR hn0 h83 hl hP hS K
  | arraylength => exact zs_arraylength  C hsc hβ hs hd hlen hroom hR hn0 h83 hl hP hS K
  | new ix => exact zs_new ix C hsc hβ hs hd hlen hroom hR hn0 h83 hl hP hS K
  | newarray ty => exact zs_newarray ty C hsc hβ hs hd hlen hroom hR hn0 h83 hl hP hS K
  | anewarray ix => exact zs_anewarray ix C hsc hβ hs hd hlen hroom hR hn0 h83 hl hP hS K
  | invokespecial ix => exact zs_invokespecial ix C hsc hβ hs hd hlen hroom hR hn0 h83 hl hP hS K
  | invokestatic ix => exact zs_invokestatic ix C hsc hβ hs hd hlen hroom hR hn0 h83 hl hP hS K
  | _ => exact nomatch (show (none : Option Cfg) = some _ from hs)
end
section
/-! The machine follows zRun: by induction on the fuel, calls and all. -/
theorem mOK_at {me : ME} (h : mOK me) {pc len : Nat} {ins : Instr} (hl : lkp me.2.2.2.2.2.1 pc = some (ins, len)) : decode me.2.2.1 pc = .ok (ins, len) ∧ rOKb me (pc, ins, len) = true ∧ lenOK ins len = true := by
  have h1 := List.all_eq_true.mp h.2 _ (lkp_mem hl)
  simp only [Bool.and_eq_true, decide_eq_true_eq] at h1
  exact ⟨h1.1.1, h1.1.2, h1.2⟩
theorem mOK_name {me : ME} (h : mOK me) : me.2.1.cls = ownN me.1 ∧ plainName me.2.1.cls = true := by
  have h1 := h.1
  unfold nOKb at h1
  rw [Bool.and_eq_true] at h1
  exact ⟨by simpa using h1.1, h1.2⟩
theorem cv_args (β : Nat → Nat) (vs : List Value) : ∀ i, lv_args i (vs.map (cv β)) = cvL β (lv_args i vs) := by
  induction vs with
  | nil => intro i; rfl
  | cons v vs ih =>
    intro i
    simp only [List.map_cons, lv_args, cv_cat, ih]
    rfl
theorem sl_len (β : Nat → Nat) (vs : List Value) : (lg_sl (vs.map (cv β))).length = catS vs := by
  induction vs with
  | nil => rfl
  | cons v vs ih =>
    have e : (lg_sl ((v :: vs).map (cv β))).length = (if (cv β v).category = 2 then 2 else 1) + (lg_sl (vs.map (cv β))).length := by
      simp only [lg_sl, List.map_cons, List.flatMap_cons, List.length_append]
      by_cases hc : (cv β v).category = 2
      · simp [hc]
      · simp [hc]
    rw [e, ih, cv_cat]
    rcases lv_cat v with hc | hc
    · simp [catS, hc]
    · simp [catS, hc]
def QR (β : Nat → Nat) (D : va_G) (cT : CT) (base : Nat) (r : Option Value) (h2 : Hp) : Array Value → State → Outcome → State → Prop := fun _ st oc t => oc = .returned (r.map (cv β)) ∧ va_P D vwCl (wsOf β cT h2) t.heap ∧ va_F (fun q => base ≤ q) st t
theorem z_call {p : Program} {l : Launch} {e : Env} {R : Room} {s : State} {m : MethodId} {args : Array Value} {below : List Frame} {meth : Method} {c : Code} {H : Heap} {locs : List Loc} {cells slots mc ms : Nat} {Q : State → Prop} {β : Nat → Nat} {D : va_G} {cT : CT} {base : Nat} {r : Option Value} {h2 : Hp} {a : Array Value} {free : Addr → Prop} {pc : Nat} {ls : Array Slot} {st0 rest : List Value}
    (hr : va_Run p l e R s m args below meth c H locs cells slots mc ms (F0 m pc ls st0) rest (QR β D cT base r h2 a) free) (hS : va_S (fun q => base ≤ q) s.heap H locs) (hf : ∀ q, free q → base ≤ q)
    (kk : ∀ (H1 : Heap) (locs1 : List Loc), va_P D vwCl (wsOf β cT h2) H1 → va_S (fun q => base ≤ q) s.heap H1 locs1 → W p l e R s m args below meth c H1 locs1 (cells + mc) (slots + ms) Q (F0 m (pc + 3) ls ((r.map (cv β)).toList ++ rest))) :
    W p l e R s m args below meth c H locs cells slots Q (F0 m pc ls st0) := by
  intro T hT X
  obtain ⟨v, st₀, t, T', L, h0, X', hL, e1, e2, ⟨hv, hp, hz, hk⟩, st⟩ := hr T hT X
  cases hv
  rw [h0] at hz hk
  obtain ⟨t2, a1, b1⟩ := kk T'.heap (locs ++ L) (by rw [e1]; exact hp)
    ⟨Nat.le_trans hS.1 (by rw [e1]; exact hz), fun q h1 h2 => by rw [e1, hk q (Nat.lt_of_lt_of_le h1 hS.1) h2]; exact hS.2.1 q h1 h2, fun q hq => by
      rcases List.mem_append.mp hq with h | h
      · exact hS.2.2 q h
      · exact hf _ (hL q h)⟩ T' rfl X'
  exact ⟨t2, st t2 a1, b1⟩
def wsM (me : ME) : List Cond := Cond.code me.2.1 me.2.2.1 me.2.2.2.1 me.2.2.2.2.1 :: gTbl
def rmM (me : ME) (h h2 : Hp) : Room := { frames := me.2.2.2.2.2.2.1, cells := h2.1 - h.1, slots := szS h2.1 - szS h.1, locals := me.2.2.2.2.2.2.2 }
theorem wsM_good {Ts : List Cond} {me : ME} (hG : ∀ w ∈ gTbl, w ∈ Ts) (hc : Cond.code me.2.1 me.2.2.1 me.2.2.2.1 me.2.2.2.2.1 ∈ gTbl) : GoodIn Ts (wsM me) := by
  have key : ∀ w ∈ gTbl, w ∈ Ts ∧ ((w.onTables && w.keeps) = true ∨ ∃ ty, w = .arrayClass ty) := fun w hw => ⟨hG w hw, good_of_word (List.mem_filter.mp hw).2⟩
  intro w hw
  rcases List.mem_cons.mp hw with rfl | hw
  · exact key _ hc
  · exact key _ hw
def PcM (β : Nat → Nat) (D : va_G) (cT : CT) (base : Nat) (as : List Value) (h : Hp) : Array Value → State → Prop := va_Pc (as.map (cv β)) (fun U => U.heap.size = base + h.1 ∧ va_P D vwCl (wsOf β cT h) U.heap ∧ KK D cT U)
theorem PcM_blind {β : Nat → Nat} {D : va_G} {cT : CT} {base : Nat} {as : List Value} {h : Hp} : FrameBlind (PcM β D cT base as h) := by
  intro a U g mk q
  obtain ⟨q0, q1, q2, q3⟩ := q
  exact ⟨q0, q1, q2, q3.calling g mk a⟩
/-- what is to be shown, at a fuel -/
def Body (l : Launch) (D : va_G) (cT : CT) (β : Nat → Nat) (base n : Nat) : Prop :=
  ∀ (p : Program) (e : Env) (R : Room) (s : State) (m : MethodId) (args : Array Value) (below : List Frame) (meth : Method) (c : Code) (scr : Option (Nat × (Nat → Int32))) (me : ME) (Ts : List Cond) (n0 : Nat) (Q : State → Prop) (pc : Nat) (lv : LV) (st : List Value) (h : Hp) (r : Option Value) (h' : Hp) (H : Heap) (locs : List Loc) (ls : Array Slot),
    zRun scr n me pc lv st h = some (r, h') → Ctx p s m args meth c D cT base me Ts n0 → ScrOK scr β s base →
    ((me.2.2.2.2.2.2.1 ≤ R.frames ∧ me.2.2.2.2.2.2.2 ≤ R.locals) ∧ h'.1 - n0 ≤ R.cells ∧ szS h'.1 - szS n0 ≤ R.slots) → n0 ≤ h.1 → h.1 ≤ 83 →
    lv_has ls me.2.2.2.1 (cvL β lv) → va_P D vwCl (wsOf β cT h) H → va_S (fun q => base ≤ q) s.heap H locs →
    (∀ (pc : Nat) (st : List Value) (H : Heap) (locs : List Loc) (ls : Array Slot) (ins : Instr) (len : Nat), decode me.2.2.1 pc = .ok (ins, len) → lenOK ins len = true → zRet me.2.2.2.2.1 ins st = some r → va_P D vwCl (wsOf β cT h') H → va_S (fun q => base ≤ q) s.heap H locs →
      W p l e R s m args below meth c H locs (h'.1 - n0) (szS h'.1 - szS n0) Q (F0 m pc ls (st.map (cv β)))) →
    W p l e R s m args below meth c H locs (h.1 - n0) (szS h.1 - szS n0) Q (F0 m pc ls (st.map (cv β)))
set_option maxHeartbeats 1000000 in
/-- a method's contract out of its body -/
theorem met_of_body {l : Launch} {D : va_G} {cT : CT} {β : Nat → Nat} {base n : Nat} (hB : Body l D cT β base n) {me : ME} (hme : mOK me) {as : List Value} {h h2 : Hp} {r : Option Value} (hrun : zRun none n me 0 (lv_args 0 as) [] h = some (r, h2)) (hcat : catS as ≤ me.2.2.2.1) (h83 : h.1 ≤ 83) :
    Met l me.2.1 (wsM me) (rmM me h h2) (PcM β D cT base as h) (QR β D cT base r h2) (h2.1 - h.1) (szS h2.1 - szS h.1) (fun q => base ≤ q) := by
  refine Met.ofW (cc := me.2.2.1) (maxL := me.2.2.2.1) (ret := me.2.2.2.2.1) (mOK_name hme).2 rfl ?_
  intro p e s m args below meth c s₁ B hml hv
  obtain ⟨rfl, hsz, hP, hK⟩ := hv
  have hl := lv_entry (as.map (cv β)) (n := me.2.2.2.1) (by rw [sl_len]; exact hcat)
  rw [lg_entry_eq]
  generalize (lg_sl (as.map (cv β)) ++ List.replicate (me.2.2.2.1 - (lg_sl (as.map (cv β))).length) Slot.unset).toArray = ls at hl ⊢
  rw [cv_args] at hl
  have hts := atoms_spec (ws := wsM me) B.pre
  have hown : s.vm.findClass (ownN me.1) = some m.cls := by rw [← (mOK_name hme).1]; exact findClass_of_methodNamed B.named
  have hr := B.returns
  have hlk := B.notSynchronized
  have k := hB p e (headSpec (wsM me) (rmM me h h2)).room s m (as.map (cv β)).toArray below meth c none me (wsM me) h.1 (MQ below (QR β D cT base r h2) (as.map (cv β)).toArray s (h2.1 - h.1) (szS h2.1 - szS h.1) (fun q => base ≤ q)) 0 (lv_args 0 as) [] h r h2 s.heap [] ls hrun
    ⟨B.exec, B.bytes, hml, hown, hts, fun w hw => List.mem_cons_of_mem _ hw, hK, hsz, hme, fun hi => by rw [(name_of_methodNamed B.named B.method).1]; simpa [isIni] using hi⟩
    (fun L xs hn => by cases hn) ⟨⟨Nat.le_refl _, Nat.le_refl _⟩, Nat.le_refl _, Nat.le_refl _⟩ (Nat.le_refl _) h83 hl hP va_S.rf ?_
  · rw [Nat.sub_self, Nat.sub_self] at k
    exact k
  · intro pc st H locs ls ins len hd hlen hz hP9 hS9
    cases ins with
    | ireturn =>
      have hlen1 : len = 1 := Nat.eq_of_beq_eq_true hlen
      subst hlen1
      unfold zRet at hz
      dsimp only at hz
      split at hz
      next x =>
        split at hz
        next hrt =>
          cases hz
          exact W.iret (v := x) B.exec B.bytes (by rw [hr, hrt]) (fun t ht hW => ⟨rfl, by rw [ht]; exact hP9, hS9.F ht⟩) hS9.2.2 hd hlk
        next hrt =>
          split at hz
          next hx01 =>
            cases hz
            exact W.zret (v := x) (ty := .boolean) B.exec B.bytes (by rw [hr, hrt]) (by rcases hx01 with rfl | rfl <;> decide +kernel) (fun t ht hW => ⟨rfl, by rw [ht]; exact hP9, hS9.F ht⟩) hS9.2.2 hd hlk
          next => cases hz
        next => cases hz
      next => cases hz
    | areturn =>
      have hlen1 : len = 1 := Nat.eq_of_beq_eq_true hlen
      subst hlen1
      unfold zRet at hz
      dsimp only at hz
      split at hz
      next x =>
        split at hz
        next n0 hrt =>
          cases hz
          exact W.aret (v := .ref (β x)) (rt := .object n0) B.exec B.bytes (by rw [hr, hrt]) (Or.inl ⟨_, rfl⟩) (Or.inr ⟨_, rfl⟩) (fun t ht hW => ⟨rfl, by rw [ht]; exact hP9, hS9.F ht⟩) hS9.2.2 hd hlk
        next n0 hrt =>
          cases hz
          exact W.aret (v := .ref (β x)) (rt := .array n0) B.exec B.bytes (by rw [hr, hrt]) (Or.inr ⟨_, rfl⟩) (Or.inr ⟨_, rfl⟩) (fun t ht hW => ⟨rfl, by rw [ht]; exact hP9, hS9.F ht⟩) hS9.2.2 hd hlk
        next => cases hz
      next => cases hz
    | return_ =>
      have hlen1 : len = 1 := Nat.eq_of_beq_eq_true hlen
      subst hlen1
      unfold zRet at hz
      dsimp only at hz
      split at hz
      next =>
        split at hz
        next hrt =>
          cases hz
          exact W.vret B.exec B.bytes (by rw [hr, hrt]) (fun t ht hW => ⟨rfl, by rw [ht]; exact hP9, hS9.F ht⟩) hS9.2.2 hd hlk
        next => cases hz
      next => cases hz
    | _ => exact nomatch (show (none : Option (Option Value)) = some _ from hz)
end
section
/-! Cells are only made, never lost; a call; the induction. -/
theorem zn_iconst (i : Int) {scr : Option (Nat × (Nat → Int32))} {own nL pc len : Nat} {ini : Bool} {lv lv' : LV} {st st' : List Value} {h h2 : Hp} {pc' : Nat} (hs : zStep scr own nL pc ini (.iconst i) len lv st h = some (pc', lv', st', h2)) : h2.1 = h.1 ∨ (h2.1 = h.1 + 1 ∧ h.1 < 83) := by
  replace hs : (some (pc + 1, lv, .int (Int32.ofInt i) :: st, h)) = some (pc', lv', st', h2) := hs
  cases hs; exact Or.inl rfl
theorem zn_bipush (i : Int) {scr : Option (Nat × (Nat → Int32))} {own nL pc len : Nat} {ini : Bool} {lv lv' : LV} {st st' : List Value} {h h2 : Hp} {pc' : Nat} (hs : zStep scr own nL pc ini (.bipush i) len lv st h = some (pc', lv', st', h2)) : h2.1 = h.1 ∨ (h2.1 = h.1 + 1 ∧ h.1 < 83) := by
  replace hs : (some (pc + 2, lv, .int (Int8.ofInt i).toInt32 :: st, h)) = some (pc', lv', st', h2) := hs
  cases hs; exact Or.inl rfl
theorem zn_sipush (i : Int) {scr : Option (Nat × (Nat → Int32))} {own nL pc len : Nat} {ini : Bool} {lv lv' : LV} {st st' : List Value} {h h2 : Hp} {pc' : Nat} (hs : zStep scr own nL pc ini (.sipush i) len lv st h = some (pc', lv', st', h2)) : h2.1 = h.1 ∨ (h2.1 = h.1 + 1 ∧ h.1 < 83) := by
  replace hs : (some (pc + 3, lv, .int (Int16.ofInt i).toInt32 :: st, h)) = some (pc', lv', st', h2) := hs
  cases hs; exact Or.inl rfl
theorem zn_lconst (i : Fin 2) {scr : Option (Nat × (Nat → Int32))} {own nL pc len : Nat} {ini : Bool} {lv lv' : LV} {st st' : List Value} {h h2 : Hp} {pc' : Nat} (hs : zStep scr own nL pc ini (.lconst i) len lv st h = some (pc', lv', st', h2)) : h2.1 = h.1 ∨ (h2.1 = h.1 + 1 ∧ h.1 < 83) := by
  replace hs : (some (pc + 1, lv, .long (Int64.ofNat (i : Nat)) :: st, h)) = some (pc', lv', st', h2) := hs
  cases hs; exact Or.inl rfl
theorem zn_ldc (ix : Nat) {scr : Option (Nat × (Nat → Int32))} {own nL pc len : Nat} {ini : Bool} {lv lv' : LV} {st st' : List Value} {h h2 : Hp} {pc' : Nat} (hs : zStep scr own nL pc ini (.ldc ix) len lv st h = some (pc', lv', st', h2)) : h2.1 = h.1 ∨ (h2.1 = h.1 + 1 ∧ h.1 < 83) := by
  replace hs : ((match (generalizing := false) lkp (poolOf own) ix with
    | some (9, _, _, v) => some (pc + 2, lv, .int (Int32.ofInt v) :: st, h)
    | _ => none)) = some (pc', lv', st', h2) := hs
  repeat' split at hs
  all_goals first | (cases hs; done) | (cases hs; exact Or.inl rfl) | (cases hs; exact Or.inr ⟨rfl, shp_lt (by assumption)⟩)
theorem zn_ldc_w (ix : Nat) {scr : Option (Nat × (Nat → Int32))} {own nL pc len : Nat} {ini : Bool} {lv lv' : LV} {st st' : List Value} {h h2 : Hp} {pc' : Nat} (hs : zStep scr own nL pc ini (.ldc_w ix) len lv st h = some (pc', lv', st', h2)) : h2.1 = h.1 ∨ (h2.1 = h.1 + 1 ∧ h.1 < 83) := by
  replace hs : ((match (generalizing := false) lkp (poolOf own) ix with
    | some (9, _, _, v) => some (pc + 3, lv, .int (Int32.ofInt v) :: st, h)
    | _ => none)) = some (pc', lv', st', h2) := hs
  repeat' split at hs
  all_goals first | (cases hs; done) | (cases hs; exact Or.inl rfl) | (cases hs; exact Or.inr ⟨rfl, shp_lt (by assumption)⟩)
theorem zn_ldc2_w (ix : Nat) {scr : Option (Nat × (Nat → Int32))} {own nL pc len : Nat} {ini : Bool} {lv lv' : LV} {st st' : List Value} {h h2 : Hp} {pc' : Nat} (hs : zStep scr own nL pc ini (.ldc2_w ix) len lv st h = some (pc', lv', st', h2)) : h2.1 = h.1 ∨ (h2.1 = h.1 + 1 ∧ h.1 < 83) := by
  replace hs : ((match (generalizing := false) lkp (poolOf own) ix with
    | some (10, _, _, v) => some (pc + 3, lv, .long (Int64.ofInt v) :: st, h)
    | _ => none)) = some (pc', lv', st', h2) := hs
  repeat' split at hs
  all_goals first | (cases hs; done) | (cases hs; exact Or.inl rfl) | (cases hs; exact Or.inr ⟨rfl, shp_lt (by assumption)⟩)
theorem zn_iload_n (i : Fin 4) {scr : Option (Nat × (Nat → Int32))} {own nL pc len : Nat} {ini : Bool} {lv lv' : LV} {st st' : List Value} {h h2 : Hp} {pc' : Nat} (hs : zStep scr own nL pc ini (.iload_n i) len lv st h = some (pc', lv', st', h2)) : h2.1 = h.1 ∨ (h2.1 = h.1 + 1 ∧ h.1 < 83) := by
  replace hs : ((match (generalizing := false) ldI lv i with
    | some x => some (pc + 1, lv, .int x :: st, h)
    | none => none)) = some (pc', lv', st', h2) := hs
  repeat' split at hs
  all_goals first | (cases hs; done) | (cases hs; exact Or.inl rfl) | (cases hs; exact Or.inr ⟨rfl, shp_lt (by assumption)⟩)
theorem zn_iload (i : Nat) {scr : Option (Nat × (Nat → Int32))} {own nL pc len : Nat} {ini : Bool} {lv lv' : LV} {st st' : List Value} {h h2 : Hp} {pc' : Nat} (hs : zStep scr own nL pc ini (.iload i) len lv st h = some (pc', lv', st', h2)) : h2.1 = h.1 ∨ (h2.1 = h.1 + 1 ∧ h.1 < 83) := by
  replace hs : ((match (generalizing := false) ldI lv i with
    | some x => some (pc + 2, lv, .int x :: st, h)
    | none => none)) = some (pc', lv', st', h2) := hs
  repeat' split at hs
  all_goals first | (cases hs; done) | (cases hs; exact Or.inl rfl) | (cases hs; exact Or.inr ⟨rfl, shp_lt (by assumption)⟩)
theorem zn_lload_n (i : Fin 4) {scr : Option (Nat × (Nat → Int32))} {own nL pc len : Nat} {ini : Bool} {lv lv' : LV} {st st' : List Value} {h h2 : Hp} {pc' : Nat} (hs : zStep scr own nL pc ini (.lload_n i) len lv st h = some (pc', lv', st', h2)) : h2.1 = h.1 ∨ (h2.1 = h.1 + 1 ∧ h.1 < 83) := by
  replace hs : ((match (generalizing := false) ldL lv i with
    | some x => some (pc + 1, lv, .long x :: st, h)
    | none => none)) = some (pc', lv', st', h2) := hs
  repeat' split at hs
  all_goals first | (cases hs; done) | (cases hs; exact Or.inl rfl) | (cases hs; exact Or.inr ⟨rfl, shp_lt (by assumption)⟩)
theorem zn_lload (i : Nat) {scr : Option (Nat × (Nat → Int32))} {own nL pc len : Nat} {ini : Bool} {lv lv' : LV} {st st' : List Value} {h h2 : Hp} {pc' : Nat} (hs : zStep scr own nL pc ini (.lload i) len lv st h = some (pc', lv', st', h2)) : h2.1 = h.1 ∨ (h2.1 = h.1 + 1 ∧ h.1 < 83) := by
  replace hs : ((match (generalizing := false) ldL lv i with
    | some x => some (pc + 2, lv, .long x :: st, h)
    | none => none)) = some (pc', lv', st', h2) := hs
  repeat' split at hs
  all_goals first | (cases hs; done) | (cases hs; exact Or.inl rfl) | (cases hs; exact Or.inr ⟨rfl, shp_lt (by assumption)⟩)
theorem zn_aload_n (i : Fin 4) {scr : Option (Nat × (Nat → Int32))} {own nL pc len : Nat} {ini : Bool} {lv lv' : LV} {st st' : List Value} {h h2 : Hp} {pc' : Nat} (hs : zStep scr own nL pc ini (.aload_n i) len lv st h = some (pc', lv', st', h2)) : h2.1 = h.1 ∨ (h2.1 = h.1 + 1 ∧ h.1 < 83) := by
  replace hs : ((match (generalizing := false) ldA lv i with
    | some x => some (pc + 1, lv, .ref x :: st, h)
    | none => none)) = some (pc', lv', st', h2) := hs
  repeat' split at hs
  all_goals first | (cases hs; done) | (cases hs; exact Or.inl rfl) | (cases hs; exact Or.inr ⟨rfl, shp_lt (by assumption)⟩)
theorem zn_aload (i : Nat) {scr : Option (Nat × (Nat → Int32))} {own nL pc len : Nat} {ini : Bool} {lv lv' : LV} {st st' : List Value} {h h2 : Hp} {pc' : Nat} (hs : zStep scr own nL pc ini (.aload i) len lv st h = some (pc', lv', st', h2)) : h2.1 = h.1 ∨ (h2.1 = h.1 + 1 ∧ h.1 < 83) := by
  replace hs : ((match (generalizing := false) ldA lv i with
    | some x => some (pc + 2, lv, .ref x :: st, h)
    | none => none)) = some (pc', lv', st', h2) := hs
  repeat' split at hs
  all_goals first | (cases hs; done) | (cases hs; exact Or.inl rfl) | (cases hs; exact Or.inr ⟨rfl, shp_lt (by assumption)⟩)
theorem zn_istore_n (i : Fin 4) {scr : Option (Nat × (Nat → Int32))} {own nL pc len : Nat} {ini : Bool} {lv lv' : LV} {st st' : List Value} {h h2 : Hp} {pc' : Nat} (hs : zStep scr own nL pc ini (.istore_n i) len lv st h = some (pc', lv', st', h2)) : h2.1 = h.1 ∨ (h2.1 = h.1 + 1 ∧ h.1 < 83) := by
  replace hs : ((match (generalizing := false) st with
    | .int x :: r => bif Nat.blt i nL then some (pc + 1, lvPut lv i (.int x), r, h) else none
    | _ => none)) = some (pc', lv', st', h2) := hs
  simp only [Bool.cond_eq_ite] at hs
  repeat' split at hs
  all_goals first | (cases hs; done) | (cases hs; exact Or.inl rfl) | (cases hs; exact Or.inr ⟨rfl, shp_lt (by assumption)⟩)
theorem zn_istore (i : Nat) {scr : Option (Nat × (Nat → Int32))} {own nL pc len : Nat} {ini : Bool} {lv lv' : LV} {st st' : List Value} {h h2 : Hp} {pc' : Nat} (hs : zStep scr own nL pc ini (.istore i) len lv st h = some (pc', lv', st', h2)) : h2.1 = h.1 ∨ (h2.1 = h.1 + 1 ∧ h.1 < 83) := by
  replace hs : ((match (generalizing := false) st with
    | .int x :: r => bif Nat.blt i nL then some (pc + 2, lvPut lv i (.int x), r, h) else none
    | _ => none)) = some (pc', lv', st', h2) := hs
  simp only [Bool.cond_eq_ite] at hs
  repeat' split at hs
  all_goals first | (cases hs; done) | (cases hs; exact Or.inl rfl) | (cases hs; exact Or.inr ⟨rfl, shp_lt (by assumption)⟩)
theorem zn_lstore_n (i : Fin 4) {scr : Option (Nat × (Nat → Int32))} {own nL pc len : Nat} {ini : Bool} {lv lv' : LV} {st st' : List Value} {h h2 : Hp} {pc' : Nat} (hs : zStep scr own nL pc ini (.lstore_n i) len lv st h = some (pc', lv', st', h2)) : h2.1 = h.1 ∨ (h2.1 = h.1 + 1 ∧ h.1 < 83) := by
  replace hs : ((match (generalizing := false) st with
    | .long x :: r => bif Nat.blt (i + 1) nL then some (pc + 1, lvPut2 lv i (.long x), r, h) else none
    | _ => none)) = some (pc', lv', st', h2) := hs
  simp only [Bool.cond_eq_ite] at hs
  repeat' split at hs
  all_goals first | (cases hs; done) | (cases hs; exact Or.inl rfl) | (cases hs; exact Or.inr ⟨rfl, shp_lt (by assumption)⟩)
theorem zn_lstore (i : Nat) {scr : Option (Nat × (Nat → Int32))} {own nL pc len : Nat} {ini : Bool} {lv lv' : LV} {st st' : List Value} {h h2 : Hp} {pc' : Nat} (hs : zStep scr own nL pc ini (.lstore i) len lv st h = some (pc', lv', st', h2)) : h2.1 = h.1 ∨ (h2.1 = h.1 + 1 ∧ h.1 < 83) := by
  replace hs : ((match (generalizing := false) st with
    | .long x :: r => bif Nat.blt (i + 1) nL then some (pc + 2, lvPut2 lv i (.long x), r, h) else none
    | _ => none)) = some (pc', lv', st', h2) := hs
  simp only [Bool.cond_eq_ite] at hs
  repeat' split at hs
  all_goals first | (cases hs; done) | (cases hs; exact Or.inl rfl) | (cases hs; exact Or.inr ⟨rfl, shp_lt (by assumption)⟩)
theorem zn_astore_n (i : Fin 4) {scr : Option (Nat × (Nat → Int32))} {own nL pc len : Nat} {ini : Bool} {lv lv' : LV} {st st' : List Value} {h h2 : Hp} {pc' : Nat} (hs : zStep scr own nL pc ini (.astore_n i) len lv st h = some (pc', lv', st', h2)) : h2.1 = h.1 ∨ (h2.1 = h.1 + 1 ∧ h.1 < 83) := by
  replace hs : ((match (generalizing := false) st with
    | .ref x :: r => bif Nat.blt i nL then some (pc + 1, lvPut lv i (.ref x), r, h) else none
    | _ => none)) = some (pc', lv', st', h2) := hs
  simp only [Bool.cond_eq_ite] at hs
  repeat' split at hs
  all_goals first | (cases hs; done) | (cases hs; exact Or.inl rfl) | (cases hs; exact Or.inr ⟨rfl, shp_lt (by assumption)⟩)
theorem zn_astore (i : Nat) {scr : Option (Nat × (Nat → Int32))} {own nL pc len : Nat} {ini : Bool} {lv lv' : LV} {st st' : List Value} {h h2 : Hp} {pc' : Nat} (hs : zStep scr own nL pc ini (.astore i) len lv st h = some (pc', lv', st', h2)) : h2.1 = h.1 ∨ (h2.1 = h.1 + 1 ∧ h.1 < 83) := by
  replace hs : ((match (generalizing := false) st with
    | .ref x :: r => bif Nat.blt i nL then some (pc + 2, lvPut lv i (.ref x), r, h) else none
    | _ => none)) = some (pc', lv', st', h2) := hs
  simp only [Bool.cond_eq_ite] at hs
  repeat' split at hs
  all_goals first | (cases hs; done) | (cases hs; exact Or.inl rfl) | (cases hs; exact Or.inr ⟨rfl, shp_lt (by assumption)⟩)
theorem zn_iinc (i : Nat) (n : Int) {scr : Option (Nat × (Nat → Int32))} {own nL pc len : Nat} {ini : Bool} {lv lv' : LV} {st st' : List Value} {h h2 : Hp} {pc' : Nat} (hs : zStep scr own nL pc ini (.iinc i n) len lv st h = some (pc', lv', st', h2)) : h2.1 = h.1 ∨ (h2.1 = h.1 + 1 ∧ h.1 < 83) := by
  replace hs : ((match (generalizing := false) ldI lv i with
    | some x => bif Nat.blt i nL then some (pc + 3, lvPut lv i (.int (x + Int32.ofInt n)), st, h) else none
    | none => none)) = some (pc', lv', st', h2) := hs
  simp only [Bool.cond_eq_ite] at hs
  repeat' split at hs
  all_goals first | (cases hs; done) | (cases hs; exact Or.inl rfl) | (cases hs; exact Or.inr ⟨rfl, shp_lt (by assumption)⟩)
theorem zn_dup  {scr : Option (Nat × (Nat → Int32))} {own nL pc len : Nat} {ini : Bool} {lv lv' : LV} {st st' : List Value} {h h2 : Hp} {pc' : Nat} (hs : zStep scr own nL pc ini (.dup) len lv st h = some (pc', lv', st', h2)) : h2.1 = h.1 ∨ (h2.1 = h.1 + 1 ∧ h.1 < 83) := by
  replace hs : ((match (generalizing := false) st with
    | v :: r => bif Nat.beq v.category 1 then some (pc + 1, lv, v :: v :: r, h) else none
    | _ => none)) = some (pc', lv', st', h2) := hs
  simp only [Bool.cond_eq_ite] at hs
  repeat' split at hs
  all_goals first | (cases hs; done) | (cases hs; exact Or.inl rfl) | (cases hs; exact Or.inr ⟨rfl, shp_lt (by assumption)⟩)
theorem zn_dup2  {scr : Option (Nat × (Nat → Int32))} {own nL pc len : Nat} {ini : Bool} {lv lv' : LV} {st st' : List Value} {h h2 : Hp} {pc' : Nat} (hs : zStep scr own nL pc ini (.dup2) len lv st h = some (pc', lv', st', h2)) : h2.1 = h.1 ∨ (h2.1 = h.1 + 1 ∧ h.1 < 83) := by
  replace hs : ((match (generalizing := false) st with
    | v :: w :: r => bif Nat.beq v.category 1 && Nat.beq w.category 1 then some (pc + 1, lv, v :: w :: v :: w :: r, h) else none
    | _ => none)) = some (pc', lv', st', h2) := hs
  simp only [Bool.cond_eq_ite] at hs
  repeat' split at hs
  all_goals first | (cases hs; done) | (cases hs; exact Or.inl rfl) | (cases hs; exact Or.inr ⟨rfl, shp_lt (by assumption)⟩)
theorem zn_pop  {scr : Option (Nat × (Nat → Int32))} {own nL pc len : Nat} {ini : Bool} {lv lv' : LV} {st st' : List Value} {h h2 : Hp} {pc' : Nat} (hs : zStep scr own nL pc ini (.pop) len lv st h = some (pc', lv', st', h2)) : h2.1 = h.1 ∨ (h2.1 = h.1 + 1 ∧ h.1 < 83) := by
  replace hs : ((match (generalizing := false) st with
    | v :: r => bif Nat.beq v.category 1 then some (pc + 1, lv, r, h) else none
    | _ => none)) = some (pc', lv', st', h2) := hs
  simp only [Bool.cond_eq_ite] at hs
  repeat' split at hs
  all_goals first | (cases hs; done) | (cases hs; exact Or.inl rfl) | (cases hs; exact Or.inr ⟨rfl, shp_lt (by assumption)⟩)
theorem zn_iadd  {scr : Option (Nat × (Nat → Int32))} {own nL pc len : Nat} {ini : Bool} {lv lv' : LV} {st st' : List Value} {h h2 : Hp} {pc' : Nat} (hs : zStep scr own nL pc ini (.iadd) len lv st h = some (pc', lv', st', h2)) : h2.1 = h.1 ∨ (h2.1 = h.1 + 1 ∧ h.1 < 83) := by
  replace hs : ((match (generalizing := false) st with
    | .int y :: .int x :: r => some (pc + 1, lv, .int (x + y) :: r, h)
    | _ => none)) = some (pc', lv', st', h2) := hs
  repeat' split at hs
  all_goals first | (cases hs; done) | (cases hs; exact Or.inl rfl) | (cases hs; exact Or.inr ⟨rfl, shp_lt (by assumption)⟩)
theorem zn_isub  {scr : Option (Nat × (Nat → Int32))} {own nL pc len : Nat} {ini : Bool} {lv lv' : LV} {st st' : List Value} {h h2 : Hp} {pc' : Nat} (hs : zStep scr own nL pc ini (.isub) len lv st h = some (pc', lv', st', h2)) : h2.1 = h.1 ∨ (h2.1 = h.1 + 1 ∧ h.1 < 83) := by
  replace hs : ((match (generalizing := false) st with
    | .int y :: .int x :: r => some (pc + 1, lv, .int (x - y) :: r, h)
    | _ => none)) = some (pc', lv', st', h2) := hs
  repeat' split at hs
  all_goals first | (cases hs; done) | (cases hs; exact Or.inl rfl) | (cases hs; exact Or.inr ⟨rfl, shp_lt (by assumption)⟩)
theorem zn_imul  {scr : Option (Nat × (Nat → Int32))} {own nL pc len : Nat} {ini : Bool} {lv lv' : LV} {st st' : List Value} {h h2 : Hp} {pc' : Nat} (hs : zStep scr own nL pc ini (.imul) len lv st h = some (pc', lv', st', h2)) : h2.1 = h.1 ∨ (h2.1 = h.1 + 1 ∧ h.1 < 83) := by
  replace hs : ((match (generalizing := false) st with
    | .int y :: .int x :: r => some (pc + 1, lv, .int (x * y) :: r, h)
    | _ => none)) = some (pc', lv', st', h2) := hs
  repeat' split at hs
  all_goals first | (cases hs; done) | (cases hs; exact Or.inl rfl) | (cases hs; exact Or.inr ⟨rfl, shp_lt (by assumption)⟩)
theorem zn_idiv  {scr : Option (Nat × (Nat → Int32))} {own nL pc len : Nat} {ini : Bool} {lv lv' : LV} {st st' : List Value} {h h2 : Hp} {pc' : Nat} (hs : zStep scr own nL pc ini (.idiv) len lv st h = some (pc', lv', st', h2)) : h2.1 = h.1 ∨ (h2.1 = h.1 + 1 ∧ h.1 < 83) := by
  replace hs : ((match (generalizing := false) st with
    | .int y :: .int x :: r => if y = 0 then none else some (pc + 1, lv, .int (x / y) :: r, h)
    | _ => none)) = some (pc', lv', st', h2) := hs
  repeat' split at hs
  all_goals first | (cases hs; done) | (cases hs; exact Or.inl rfl) | (cases hs; exact Or.inr ⟨rfl, shp_lt (by assumption)⟩)
theorem zn_irem  {scr : Option (Nat × (Nat → Int32))} {own nL pc len : Nat} {ini : Bool} {lv lv' : LV} {st st' : List Value} {h h2 : Hp} {pc' : Nat} (hs : zStep scr own nL pc ini (.irem) len lv st h = some (pc', lv', st', h2)) : h2.1 = h.1 ∨ (h2.1 = h.1 + 1 ∧ h.1 < 83) := by
  replace hs : ((match (generalizing := false) st with
    | .int y :: .int x :: r => if y = 0 then none else some (pc + 1, lv, .int (x - x / y * y) :: r, h)
    | _ => none)) = some (pc', lv', st', h2) := hs
  repeat' split at hs
  all_goals first | (cases hs; done) | (cases hs; exact Or.inl rfl) | (cases hs; exact Or.inr ⟨rfl, shp_lt (by assumption)⟩)
theorem zn_ineg  {scr : Option (Nat × (Nat → Int32))} {own nL pc len : Nat} {ini : Bool} {lv lv' : LV} {st st' : List Value} {h h2 : Hp} {pc' : Nat} (hs : zStep scr own nL pc ini (.ineg) len lv st h = some (pc', lv', st', h2)) : h2.1 = h.1 ∨ (h2.1 = h.1 + 1 ∧ h.1 < 83) := by
  replace hs : ((match (generalizing := false) st with
    | .int x :: r => some (pc + 1, lv, .int (-x) :: r, h)
    | _ => none)) = some (pc', lv', st', h2) := hs
  repeat' split at hs
  all_goals first | (cases hs; done) | (cases hs; exact Or.inl rfl) | (cases hs; exact Or.inr ⟨rfl, shp_lt (by assumption)⟩)
theorem zn_ishl  {scr : Option (Nat × (Nat → Int32))} {own nL pc len : Nat} {ini : Bool} {lv lv' : LV} {st st' : List Value} {h h2 : Hp} {pc' : Nat} (hs : zStep scr own nL pc ini (.ishl) len lv st h = some (pc', lv', st', h2)) : h2.1 = h.1 ∨ (h2.1 = h.1 + 1 ∧ h.1 < 83) := by
  replace hs : ((match (generalizing := false) st with
    | .int y :: .int x :: r => some (pc + 1, lv, .int (x <<< (y &&& 31)) :: r, h)
    | _ => none)) = some (pc', lv', st', h2) := hs
  repeat' split at hs
  all_goals first | (cases hs; done) | (cases hs; exact Or.inl rfl) | (cases hs; exact Or.inr ⟨rfl, shp_lt (by assumption)⟩)
theorem zn_ishr  {scr : Option (Nat × (Nat → Int32))} {own nL pc len : Nat} {ini : Bool} {lv lv' : LV} {st st' : List Value} {h h2 : Hp} {pc' : Nat} (hs : zStep scr own nL pc ini (.ishr) len lv st h = some (pc', lv', st', h2)) : h2.1 = h.1 ∨ (h2.1 = h.1 + 1 ∧ h.1 < 83) := by
  replace hs : ((match (generalizing := false) st with
    | .int y :: .int x :: r => some (pc + 1, lv, .int (x >>> (y &&& 31)) :: r, h)
    | _ => none)) = some (pc', lv', st', h2) := hs
  repeat' split at hs
  all_goals first | (cases hs; done) | (cases hs; exact Or.inl rfl) | (cases hs; exact Or.inr ⟨rfl, shp_lt (by assumption)⟩)
theorem zn_iushr  {scr : Option (Nat × (Nat → Int32))} {own nL pc len : Nat} {ini : Bool} {lv lv' : LV} {st st' : List Value} {h h2 : Hp} {pc' : Nat} (hs : zStep scr own nL pc ini (.iushr) len lv st h = some (pc', lv', st', h2)) : h2.1 = h.1 ∨ (h2.1 = h.1 + 1 ∧ h.1 < 83) := by
  replace hs : ((match (generalizing := false) st with
    | .int y :: .int x :: r => some (pc + 1, lv, .int (x.toUInt32 >>> (y.toUInt32 &&& Int32.toUInt32 31)).toInt32 :: r, h)
    | _ => none)) = some (pc', lv', st', h2) := hs
  repeat' split at hs
  all_goals first | (cases hs; done) | (cases hs; exact Or.inl rfl) | (cases hs; exact Or.inr ⟨rfl, shp_lt (by assumption)⟩)
theorem zn_iand  {scr : Option (Nat × (Nat → Int32))} {own nL pc len : Nat} {ini : Bool} {lv lv' : LV} {st st' : List Value} {h h2 : Hp} {pc' : Nat} (hs : zStep scr own nL pc ini (.iand) len lv st h = some (pc', lv', st', h2)) : h2.1 = h.1 ∨ (h2.1 = h.1 + 1 ∧ h.1 < 83) := by
  replace hs : ((match (generalizing := false) st with
    | .int y :: .int x :: r => some (pc + 1, lv, .int (x &&& y) :: r, h)
    | _ => none)) = some (pc', lv', st', h2) := hs
  repeat' split at hs
  all_goals first | (cases hs; done) | (cases hs; exact Or.inl rfl) | (cases hs; exact Or.inr ⟨rfl, shp_lt (by assumption)⟩)
theorem zn_ior  {scr : Option (Nat × (Nat → Int32))} {own nL pc len : Nat} {ini : Bool} {lv lv' : LV} {st st' : List Value} {h h2 : Hp} {pc' : Nat} (hs : zStep scr own nL pc ini (.ior) len lv st h = some (pc', lv', st', h2)) : h2.1 = h.1 ∨ (h2.1 = h.1 + 1 ∧ h.1 < 83) := by
  replace hs : ((match (generalizing := false) st with
    | .int y :: .int x :: r => some (pc + 1, lv, .int (x ||| y) :: r, h)
    | _ => none)) = some (pc', lv', st', h2) := hs
  repeat' split at hs
  all_goals first | (cases hs; done) | (cases hs; exact Or.inl rfl) | (cases hs; exact Or.inr ⟨rfl, shp_lt (by assumption)⟩)
theorem zn_ixor  {scr : Option (Nat × (Nat → Int32))} {own nL pc len : Nat} {ini : Bool} {lv lv' : LV} {st st' : List Value} {h h2 : Hp} {pc' : Nat} (hs : zStep scr own nL pc ini (.ixor) len lv st h = some (pc', lv', st', h2)) : h2.1 = h.1 ∨ (h2.1 = h.1 + 1 ∧ h.1 < 83) := by
  replace hs : ((match (generalizing := false) st with
    | .int y :: .int x :: r => some (pc + 1, lv, .int (x ^^^ y) :: r, h)
    | _ => none)) = some (pc', lv', st', h2) := hs
  repeat' split at hs
  all_goals first | (cases hs; done) | (cases hs; exact Or.inl rfl) | (cases hs; exact Or.inr ⟨rfl, shp_lt (by assumption)⟩)
theorem zn_i2l  {scr : Option (Nat × (Nat → Int32))} {own nL pc len : Nat} {ini : Bool} {lv lv' : LV} {st st' : List Value} {h h2 : Hp} {pc' : Nat} (hs : zStep scr own nL pc ini (.i2l) len lv st h = some (pc', lv', st', h2)) : h2.1 = h.1 ∨ (h2.1 = h.1 + 1 ∧ h.1 < 83) := by
  replace hs : ((match (generalizing := false) st with
    | .int x :: r => some (pc + 1, lv, .long x.toInt64 :: r, h)
    | _ => none)) = some (pc', lv', st', h2) := hs
  repeat' split at hs
  all_goals first | (cases hs; done) | (cases hs; exact Or.inl rfl) | (cases hs; exact Or.inr ⟨rfl, shp_lt (by assumption)⟩)
theorem zn_i2b  {scr : Option (Nat × (Nat → Int32))} {own nL pc len : Nat} {ini : Bool} {lv lv' : LV} {st st' : List Value} {h h2 : Hp} {pc' : Nat} (hs : zStep scr own nL pc ini (.i2b) len lv st h = some (pc', lv', st', h2)) : h2.1 = h.1 ∨ (h2.1 = h.1 + 1 ∧ h.1 < 83) := by
  replace hs : ((match (generalizing := false) st with
    | .int x :: r => some (pc + 1, lv, .int x.toInt8.toInt32 :: r, h)
    | _ => none)) = some (pc', lv', st', h2) := hs
  repeat' split at hs
  all_goals first | (cases hs; done) | (cases hs; exact Or.inl rfl) | (cases hs; exact Or.inr ⟨rfl, shp_lt (by assumption)⟩)
theorem zn_l2i  {scr : Option (Nat × (Nat → Int32))} {own nL pc len : Nat} {ini : Bool} {lv lv' : LV} {st st' : List Value} {h h2 : Hp} {pc' : Nat} (hs : zStep scr own nL pc ini (.l2i) len lv st h = some (pc', lv', st', h2)) : h2.1 = h.1 ∨ (h2.1 = h.1 + 1 ∧ h.1 < 83) := by
  replace hs : ((match (generalizing := false) st with
    | .long x :: r => some (pc + 1, lv, .int x.toInt32 :: r, h)
    | _ => none)) = some (pc', lv', st', h2) := hs
  repeat' split at hs
  all_goals first | (cases hs; done) | (cases hs; exact Or.inl rfl) | (cases hs; exact Or.inr ⟨rfl, shp_lt (by assumption)⟩)
theorem zn_ladd  {scr : Option (Nat × (Nat → Int32))} {own nL pc len : Nat} {ini : Bool} {lv lv' : LV} {st st' : List Value} {h h2 : Hp} {pc' : Nat} (hs : zStep scr own nL pc ini (.ladd) len lv st h = some (pc', lv', st', h2)) : h2.1 = h.1 ∨ (h2.1 = h.1 + 1 ∧ h.1 < 83) := by
  replace hs : ((match (generalizing := false) st with
    | .long y :: .long x :: r => some (pc + 1, lv, .long (x + y) :: r, h)
    | _ => none)) = some (pc', lv', st', h2) := hs
  repeat' split at hs
  all_goals first | (cases hs; done) | (cases hs; exact Or.inl rfl) | (cases hs; exact Or.inr ⟨rfl, shp_lt (by assumption)⟩)
theorem zn_lsub  {scr : Option (Nat × (Nat → Int32))} {own nL pc len : Nat} {ini : Bool} {lv lv' : LV} {st st' : List Value} {h h2 : Hp} {pc' : Nat} (hs : zStep scr own nL pc ini (.lsub) len lv st h = some (pc', lv', st', h2)) : h2.1 = h.1 ∨ (h2.1 = h.1 + 1 ∧ h.1 < 83) := by
  replace hs : ((match (generalizing := false) st with
    | .long y :: .long x :: r => some (pc + 1, lv, .long (x - y) :: r, h)
    | _ => none)) = some (pc', lv', st', h2) := hs
  repeat' split at hs
  all_goals first | (cases hs; done) | (cases hs; exact Or.inl rfl) | (cases hs; exact Or.inr ⟨rfl, shp_lt (by assumption)⟩)
theorem zn_lmul  {scr : Option (Nat × (Nat → Int32))} {own nL pc len : Nat} {ini : Bool} {lv lv' : LV} {st st' : List Value} {h h2 : Hp} {pc' : Nat} (hs : zStep scr own nL pc ini (.lmul) len lv st h = some (pc', lv', st', h2)) : h2.1 = h.1 ∨ (h2.1 = h.1 + 1 ∧ h.1 < 83) := by
  replace hs : ((match (generalizing := false) st with
    | .long y :: .long x :: r => some (pc + 1, lv, .long (x * y) :: r, h)
    | _ => none)) = some (pc', lv', st', h2) := hs
  repeat' split at hs
  all_goals first | (cases hs; done) | (cases hs; exact Or.inl rfl) | (cases hs; exact Or.inr ⟨rfl, shp_lt (by assumption)⟩)
theorem zn_ldiv  {scr : Option (Nat × (Nat → Int32))} {own nL pc len : Nat} {ini : Bool} {lv lv' : LV} {st st' : List Value} {h h2 : Hp} {pc' : Nat} (hs : zStep scr own nL pc ini (.ldiv) len lv st h = some (pc', lv', st', h2)) : h2.1 = h.1 ∨ (h2.1 = h.1 + 1 ∧ h.1 < 83) := by
  replace hs : ((match (generalizing := false) st with
    | .long y :: .long x :: r => if y = 0 then none else some (pc + 1, lv, .long (x / y) :: r, h)
    | _ => none)) = some (pc', lv', st', h2) := hs
  repeat' split at hs
  all_goals first | (cases hs; done) | (cases hs; exact Or.inl rfl) | (cases hs; exact Or.inr ⟨rfl, shp_lt (by assumption)⟩)
theorem zn_lrem  {scr : Option (Nat × (Nat → Int32))} {own nL pc len : Nat} {ini : Bool} {lv lv' : LV} {st st' : List Value} {h h2 : Hp} {pc' : Nat} (hs : zStep scr own nL pc ini (.lrem) len lv st h = some (pc', lv', st', h2)) : h2.1 = h.1 ∨ (h2.1 = h.1 + 1 ∧ h.1 < 83) := by
  replace hs : ((match (generalizing := false) st with
    | .long y :: .long x :: r => if y = 0 then none else some (pc + 1, lv, .long (x - x / y * y) :: r, h)
    | _ => none)) = some (pc', lv', st', h2) := hs
  repeat' split at hs
  all_goals first | (cases hs; done) | (cases hs; exact Or.inl rfl) | (cases hs; exact Or.inr ⟨rfl, shp_lt (by assumption)⟩)
theorem zn_land  {scr : Option (Nat × (Nat → Int32))} {own nL pc len : Nat} {ini : Bool} {lv lv' : LV} {st st' : List Value} {h h2 : Hp} {pc' : Nat} (hs : zStep scr own nL pc ini (.land) len lv st h = some (pc', lv', st', h2)) : h2.1 = h.1 ∨ (h2.1 = h.1 + 1 ∧ h.1 < 83) := by
  replace hs : ((match (generalizing := false) st with
    | .long y :: .long x :: r => some (pc + 1, lv, .long (x &&& y) :: r, h)
    | _ => none)) = some (pc', lv', st', h2) := hs
  repeat' split at hs
  all_goals first | (cases hs; done) | (cases hs; exact Or.inl rfl) | (cases hs; exact Or.inr ⟨rfl, shp_lt (by assumption)⟩)
theorem zn_lor  {scr : Option (Nat × (Nat → Int32))} {own nL pc len : Nat} {ini : Bool} {lv lv' : LV} {st st' : List Value} {h h2 : Hp} {pc' : Nat} (hs : zStep scr own nL pc ini (.lor) len lv st h = some (pc', lv', st', h2)) : h2.1 = h.1 ∨ (h2.1 = h.1 + 1 ∧ h.1 < 83) := by
  replace hs : ((match (generalizing := false) st with
    | .long y :: .long x :: r => some (pc + 1, lv, .long (x ||| y) :: r, h)
    | _ => none)) = some (pc', lv', st', h2) := hs
  repeat' split at hs
  all_goals first | (cases hs; done) | (cases hs; exact Or.inl rfl) | (cases hs; exact Or.inr ⟨rfl, shp_lt (by assumption)⟩)
theorem zn_lshl  {scr : Option (Nat × (Nat → Int32))} {own nL pc len : Nat} {ini : Bool} {lv lv' : LV} {st st' : List Value} {h h2 : Hp} {pc' : Nat} (hs : zStep scr own nL pc ini (.lshl) len lv st h = some (pc', lv', st', h2)) : h2.1 = h.1 ∨ (h2.1 = h.1 + 1 ∧ h.1 < 83) := by
  replace hs : ((match (generalizing := false) st with
    | .int y :: .long x :: r => some (pc + 1, lv, .long (x <<< (y.toInt64 &&& 63)) :: r, h)
    | _ => none)) = some (pc', lv', st', h2) := hs
  repeat' split at hs
  all_goals first | (cases hs; done) | (cases hs; exact Or.inl rfl) | (cases hs; exact Or.inr ⟨rfl, shp_lt (by assumption)⟩)
theorem zn_lshr  {scr : Option (Nat × (Nat → Int32))} {own nL pc len : Nat} {ini : Bool} {lv lv' : LV} {st st' : List Value} {h h2 : Hp} {pc' : Nat} (hs : zStep scr own nL pc ini (.lshr) len lv st h = some (pc', lv', st', h2)) : h2.1 = h.1 ∨ (h2.1 = h.1 + 1 ∧ h.1 < 83) := by
  replace hs : ((match (generalizing := false) st with
    | .int y :: .long x :: r => some (pc + 1, lv, .long (x >>> (y.toInt64 &&& 63)) :: r, h)
    | _ => none)) = some (pc', lv', st', h2) := hs
  repeat' split at hs
  all_goals first | (cases hs; done) | (cases hs; exact Or.inl rfl) | (cases hs; exact Or.inr ⟨rfl, shp_lt (by assumption)⟩)
theorem zn_lcmp  {scr : Option (Nat × (Nat → Int32))} {own nL pc len : Nat} {ini : Bool} {lv lv' : LV} {st st' : List Value} {h h2 : Hp} {pc' : Nat} (hs : zStep scr own nL pc ini (.lcmp) len lv st h = some (pc', lv', st', h2)) : h2.1 = h.1 ∨ (h2.1 = h.1 + 1 ∧ h.1 < 83) := by
  replace hs : ((match (generalizing := false) st with
    | .long y :: .long x :: r => some (pc + 1, lv, .int (lg_cmp x y) :: r, h)
    | _ => none)) = some (pc', lv', st', h2) := hs
  repeat' split at hs
  all_goals first | (cases hs; done) | (cases hs; exact Or.inl rfl) | (cases hs; exact Or.inr ⟨rfl, shp_lt (by assumption)⟩)
theorem zn_goto (off : Int) {scr : Option (Nat × (Nat → Int32))} {own nL pc len : Nat} {ini : Bool} {lv lv' : LV} {st st' : List Value} {h h2 : Hp} {pc' : Nat} (hs : zStep scr own nL pc ini (.goto off) len lv st h = some (pc', lv', st', h2)) : h2.1 = h.1 ∨ (h2.1 = h.1 + 1 ∧ h.1 < 83) := by
  replace hs : ((match (generalizing := false) jmp pc off with
    | some t => some (t, lv, st, h)
    | none => none)) = some (pc', lv', st', h2) := hs
  repeat' split at hs
  all_goals first | (cases hs; done) | (cases hs; exact Or.inl rfl) | (cases hs; exact Or.inr ⟨rfl, shp_lt (by assumption)⟩)
theorem zn_if_icmp (c0 : ClassFile.Cond) (off : Int) {scr : Option (Nat × (Nat → Int32))} {own nL pc len : Nat} {ini : Bool} {lv lv' : LV} {st st' : List Value} {h h2 : Hp} {pc' : Nat} (hs : zStep scr own nL pc ini (.if_icmp c0 off) len lv st h = some (pc', lv', st', h2)) : h2.1 = h.1 ∨ (h2.1 = h.1 + 1 ∧ h.1 < 83) := by
  replace hs : ((match (generalizing := false) st with
    | .int y :: .int x :: r => (match (generalizing := false) jmp pc off with
      | some t => if cnd c0 x y = true then some (t, lv, r, h) else some (pc + 3, lv, r, h)
      | none => none)
    | _ => none)) = some (pc', lv', st', h2) := hs
  repeat' split at hs
  all_goals first | (cases hs; done) | (cases hs; exact Or.inl rfl) | (cases hs; exact Or.inr ⟨rfl, shp_lt (by assumption)⟩)
theorem zn_ifCond (c0 : ClassFile.Cond) (off : Int) {scr : Option (Nat × (Nat → Int32))} {own nL pc len : Nat} {ini : Bool} {lv lv' : LV} {st st' : List Value} {h h2 : Hp} {pc' : Nat} (hs : zStep scr own nL pc ini (.ifCond c0 off) len lv st h = some (pc', lv', st', h2)) : h2.1 = h.1 ∨ (h2.1 = h.1 + 1 ∧ h.1 < 83) := by
  replace hs : ((match (generalizing := false) st with
    | .int x :: r => (match (generalizing := false) jmp pc off with
      | some t => if cnd c0 x 0 = true then some (t, lv, r, h) else some (pc + 3, lv, r, h)
      | none => none)
    | _ => none)) = some (pc', lv', st', h2) := hs
  repeat' split at hs
  all_goals first | (cases hs; done) | (cases hs; exact Or.inl rfl) | (cases hs; exact Or.inr ⟨rfl, shp_lt (by assumption)⟩)
theorem zn_tableswitch (d lo hi : Int) (offs : Array Int) {scr : Option (Nat × (Nat → Int32))} {own nL pc len : Nat} {ini : Bool} {lv lv' : LV} {st st' : List Value} {h h2 : Hp} {pc' : Nat} (hs : zStep scr own nL pc ini (.tableswitch d lo hi offs) len lv st h = some (pc', lv', st', h2)) : h2.1 = h.1 ∨ (h2.1 = h.1 + 1 ∧ h.1 < 83) := by
  replace hs : ((match (generalizing := false) st with
    | .int x :: r => if x.toInt < lo ∨ hi < x.toInt then (match (generalizing := false) jmp pc d with
        | some t => some (t, lv, r, h)
        | none => none) else (match (generalizing := false) offs[(x.toInt - lo).toNat]? with
        | some off => (match (generalizing := false) jmp pc off with
          | some t => some (t, lv, r, h)
          | none => none)
        | none => none)
    | _ => none)) = some (pc', lv', st', h2) := hs
  repeat' split at hs
  all_goals first | (cases hs; done) | (cases hs; exact Or.inl rfl) | (cases hs; exact Or.inr ⟨rfl, shp_lt (by assumption)⟩)
theorem zn_lookupswitch (d : Int) (ps : Array (Int × Int)) {scr : Option (Nat × (Nat → Int32))} {own nL pc len : Nat} {ini : Bool} {lv lv' : LV} {st st' : List Value} {h h2 : Hp} {pc' : Nat} (hs : zStep scr own nL pc ini (.lookupswitch d ps) len lv st h = some (pc', lv', st', h2)) : h2.1 = h.1 ∨ (h2.1 = h.1 + 1 ∧ h.1 < 83) := by
  replace hs : ((match (generalizing := false) st with
    | .int x :: r => bif (ps.toList.zip (ps.toList.drop 1)).all (fun (a, next) => a.1 < next.1) then (match (generalizing := false) jmp pc (Op.lookupswitch.offset ps.toList d x.toInt) with
        | some t => some (t, lv, r, h)
        | none => none) else none
    | _ => none)) = some (pc', lv', st', h2) := hs
  simp only [Bool.cond_eq_ite] at hs
  repeat' split at hs
  all_goals first | (cases hs; done) | (cases hs; exact Or.inl rfl) | (cases hs; exact Or.inr ⟨rfl, shp_lt (by assumption)⟩)
theorem zn_getfield (ix : Nat) {scr : Option (Nat × (Nat → Int32))} {own nL pc len : Nat} {ini : Bool} {lv lv' : LV} {st st' : List Value} {h h2 : Hp} {pc' : Nat} (hs : zStep scr own nL pc ini (.getfield ix) len lv st h = some (pc', lv', st', h2)) : h2.1 = h.1 ∨ (h2.1 = h.1 + 1 ∧ h.1 < 83) := by
  replace hs : ((match (generalizing := false) st with
    | .ref i :: r => (match (generalizing := false) lkp (poolOf own) ix with
      | some (0, ci, k, _) => bif isO h i ci && Nat.blt k (nF ci) then some (pc + 3, lv, (bif isR ci k then rfV (h.2.2 i k) else .int (h.2.1 i k)) :: r, h) else none
      | some (1, ci, k, _) => bif isO h i ci && Nat.blt k (nF ci) then some (pc + 3, lv, (bif isR ci k then rfV (h.2.2 i k) else .int (h.2.1 i k)) :: r, h) else none
      | _ => none)
    | _ => none)) = some (pc', lv', st', h2) := hs
  simp only [Bool.cond_eq_ite] at hs
  repeat' split at hs
  all_goals first | (cases hs; done) | (cases hs; exact Or.inl rfl) | (cases hs; exact Or.inr ⟨rfl, shp_lt (by assumption)⟩)
theorem zn_putfield (ix : Nat) {scr : Option (Nat × (Nat → Int32))} {own nL pc len : Nat} {ini : Bool} {lv lv' : LV} {st st' : List Value} {h h2 : Hp} {pc' : Nat} (hs : zStep scr own nL pc ini (.putfield ix) len lv st h = some (pc', lv', st', h2)) : h2.1 = h.1 ∨ (h2.1 = h.1 + 1 ∧ h.1 < 83) := by
  replace hs : ((match (generalizing := false) st with
    | .int x :: .ref i :: r => (match (generalizing := false) lkp (poolOf own) ix with
      | some (0, ci, k, _) => bif isO h i ci && Nat.blt k (nF ci) && !isR ci k && !finF ci k then some (pc + 3, lv, r, (h.1, up2 h.2.1 i k x, h.2.2)) else none
      | some (1, ci, k, _) => bif isO h i ci && Nat.blt k (nF ci) && !isR ci k && !finF ci k then some (pc + 3, lv, r, (h.1, up2 h.2.1 i k x, h.2.2)) else none
      | _ => none)
    | .ref x :: .ref i :: r => (match (generalizing := false) lkp (poolOf own) ix with
      | some (0, ci, k, _) => bif isO h i ci && Nat.blt k (nF ci) && isR ci k && (!finF ci k || (ini && Nat.beq own ci)) then some (pc + 3, lv, r, (h.1, h.2.1, up2 h.2.2 i k (some x))) else none
      | _ => none)
    | _ => none)) = some (pc', lv', st', h2) := hs
  simp only [Bool.cond_eq_ite] at hs
  repeat' split at hs
  all_goals first | (cases hs; done) | (cases hs; exact Or.inl rfl) | (cases hs; exact Or.inr ⟨rfl, shp_lt (by assumption)⟩)
theorem zn_iaload  {scr : Option (Nat × (Nat → Int32))} {own nL pc len : Nat} {ini : Bool} {lv lv' : LV} {st st' : List Value} {h h2 : Hp} {pc' : Nat} (hs : zStep scr own nL pc ini (.iaload) len lv st h = some (pc', lv', st', h2)) : h2.1 = h.1 ∨ (h2.1 = h.1 + 1 ∧ h.1 < 83) := by
  replace hs : ((match (generalizing := false) st with
    | .int j :: .ref i :: r => bif Nat.beq i sId then (match (generalizing := false) scr with
      | some (L, xs) => bif inB j L then some (pc + 1, lv, .int (xs j.toNatClampNeg) :: r, h) else none
      | none => none) else (match (generalizing := false) arrL h i 0 with
      | some n => bif inB j n then some (pc + 1, lv, .int (h.2.1 i j.toNatClampNeg) :: r, h) else none
      | none => none)
    | _ => none)) = some (pc', lv', st', h2) := hs
  simp only [Bool.cond_eq_ite] at hs
  repeat' split at hs
  all_goals first | (cases hs; done) | (cases hs; exact Or.inl rfl) | (cases hs; exact Or.inr ⟨rfl, shp_lt (by assumption)⟩)
theorem zn_baload  {scr : Option (Nat × (Nat → Int32))} {own nL pc len : Nat} {ini : Bool} {lv lv' : LV} {st st' : List Value} {h h2 : Hp} {pc' : Nat} (hs : zStep scr own nL pc ini (.baload) len lv st h = some (pc', lv', st', h2)) : h2.1 = h.1 ∨ (h2.1 = h.1 + 1 ∧ h.1 < 83) := by
  replace hs : ((match (generalizing := false) st with
    | .int j :: .ref i :: r => (match (generalizing := false) arrL h i 1 with
      | some n => bif inB j n then some (pc + 1, lv, .int (h.2.1 i j.toNatClampNeg) :: r, h) else none
      | none => none)
    | _ => none)) = some (pc', lv', st', h2) := hs
  simp only [Bool.cond_eq_ite] at hs
  repeat' split at hs
  all_goals first | (cases hs; done) | (cases hs; exact Or.inl rfl) | (cases hs; exact Or.inr ⟨rfl, shp_lt (by assumption)⟩)
theorem zn_aaload  {scr : Option (Nat × (Nat → Int32))} {own nL pc len : Nat} {ini : Bool} {lv lv' : LV} {st st' : List Value} {h h2 : Hp} {pc' : Nat} (hs : zStep scr own nL pc ini (.aaload) len lv st h = some (pc', lv', st', h2)) : h2.1 = h.1 ∨ (h2.1 = h.1 + 1 ∧ h.1 < 83) := by
  replace hs : ((match (generalizing := false) st with
    | .int j :: .ref i :: r => (match (generalizing := false) arrL h i 2 with
      | some n => bif inB j n then some (pc + 1, lv, rfV (h.2.2 i j.toNatClampNeg) :: r, h) else none
      | none => none)
    | _ => none)) = some (pc', lv', st', h2) := hs
  simp only [Bool.cond_eq_ite] at hs
  repeat' split at hs
  all_goals first | (cases hs; done) | (cases hs; exact Or.inl rfl) | (cases hs; exact Or.inr ⟨rfl, shp_lt (by assumption)⟩)
theorem zn_iastore  {scr : Option (Nat × (Nat → Int32))} {own nL pc len : Nat} {ini : Bool} {lv lv' : LV} {st st' : List Value} {h h2 : Hp} {pc' : Nat} (hs : zStep scr own nL pc ini (.iastore) len lv st h = some (pc', lv', st', h2)) : h2.1 = h.1 ∨ (h2.1 = h.1 + 1 ∧ h.1 < 83) := by
  replace hs : ((match (generalizing := false) st with
    | .int x :: .int j :: .ref i :: r => (match (generalizing := false) arrL h i 0 with
      | some n => bif inB j n then some (pc + 1, lv, r, (h.1, up2 h.2.1 i j.toNatClampNeg x, h.2.2)) else none
      | none => none)
    | _ => none)) = some (pc', lv', st', h2) := hs
  simp only [Bool.cond_eq_ite] at hs
  repeat' split at hs
  all_goals first | (cases hs; done) | (cases hs; exact Or.inl rfl) | (cases hs; exact Or.inr ⟨rfl, shp_lt (by assumption)⟩)
theorem zn_bastore  {scr : Option (Nat × (Nat → Int32))} {own nL pc len : Nat} {ini : Bool} {lv lv' : LV} {st st' : List Value} {h h2 : Hp} {pc' : Nat} (hs : zStep scr own nL pc ini (.bastore) len lv st h = some (pc', lv', st', h2)) : h2.1 = h.1 ∨ (h2.1 = h.1 + 1 ∧ h.1 < 83) := by
  replace hs : ((match (generalizing := false) st with
    | .int x :: .int j :: .ref i :: r => (match (generalizing := false) arrL h i 1 with
      | some n => bif inB j n then some (pc + 1, lv, r, (h.1, up2 h.2.1 i j.toNatClampNeg (vp_nar .byte x), h.2.2)) else none
      | none => none)
    | _ => none)) = some (pc', lv', st', h2) := hs
  simp only [Bool.cond_eq_ite] at hs
  repeat' split at hs
  all_goals first | (cases hs; done) | (cases hs; exact Or.inl rfl) | (cases hs; exact Or.inr ⟨rfl, shp_lt (by assumption)⟩)
theorem zn_aastore  {scr : Option (Nat × (Nat → Int32))} {own nL pc len : Nat} {ini : Bool} {lv lv' : LV} {st st' : List Value} {h h2 : Hp} {pc' : Nat} (hs : zStep scr own nL pc ini (.aastore) len lv st h = some (pc', lv', st', h2)) : h2.1 = h.1 ∨ (h2.1 = h.1 + 1 ∧ h.1 < 83) := by
  replace hs : ((match (generalizing := false) st with
    | .ref x :: .int j :: .ref i :: r => (match (generalizing := false) arrL h i 2 with
      | some n => bif inB j n && isO h x 5 then some (pc + 1, lv, r, (h.1, h.2.1, up2 h.2.2 i j.toNatClampNeg (some x))) else none
      | none => none)
    | _ => none)) = some (pc', lv', st', h2) := hs
  simp only [Bool.cond_eq_ite] at hs
  repeat' split at hs
  all_goals first | (cases hs; done) | (cases hs; exact Or.inl rfl) | (cases hs; exact Or.inr ⟨rfl, shp_lt (by assumption)⟩)
theorem zn_arraylength  {scr : Option (Nat × (Nat → Int32))} {own nL pc len : Nat} {ini : Bool} {lv lv' : LV} {st st' : List Value} {h h2 : Hp} {pc' : Nat} (hs : zStep scr own nL pc ini (.arraylength) len lv st h = some (pc', lv', st', h2)) : h2.1 = h.1 ∨ (h2.1 = h.1 + 1 ∧ h.1 < 83) := by
  replace hs : ((match (generalizing := false) st with
    | .ref i :: r => bif Nat.beq i sId then (match (generalizing := false) scr with
      | some (L, _) => some (pc + 1, lv, .int (Int32.ofNat L) :: r, h)
      | none => none) else (match (generalizing := false) arrL h i 0 with
      | some n => some (pc + 1, lv, .int (Int32.ofNat n) :: r, h)
      | none => none)
    | _ => none)) = some (pc', lv', st', h2) := hs
  simp only [Bool.cond_eq_ite] at hs
  repeat' split at hs
  all_goals first | (cases hs; done) | (cases hs; exact Or.inl rfl) | (cases hs; exact Or.inr ⟨rfl, shp_lt (by assumption)⟩)
theorem zn_new (ix : Nat) {scr : Option (Nat × (Nat → Int32))} {own nL pc len : Nat} {ini : Bool} {lv lv' : LV} {st st' : List Value} {h h2 : Hp} {pc' : Nat} (hs : zStep scr own nL pc ini (.new ix) len lv st h = some (pc', lv', st', h2)) : h2.1 = h.1 ∨ (h2.1 = h.1 + 1 ∧ h.1 < 83) := by
  replace hs : ((match (generalizing := false) lkp (poolOf own) ix with
    | some (11, ci, _, _) => (match (generalizing := false) shp[h.1]? with
      | some (.inl c) => bif Nat.beq c ci then some (pc + 3, lv, .ref h.1 :: st, (h.1 + 1, (fun a => if a = h.1 then (fun _ => 0) else h.2.1 a), (fun a => if a = h.1 then (fun _ => none) else h.2.2 a))) else none
      | _ => none)
    | _ => none)) = some (pc', lv', st', h2) := hs
  simp only [Bool.cond_eq_ite] at hs
  repeat' split at hs
  all_goals first | (cases hs; done) | (cases hs; exact Or.inl rfl) | (cases hs; exact Or.inr ⟨rfl, shp_lt (by assumption)⟩)
theorem zn_newarray (ty : ArrayType) {scr : Option (Nat × (Nat → Int32))} {own nL pc len : Nat} {ini : Bool} {lv lv' : LV} {st st' : List Value} {h h2 : Hp} {pc' : Nat} (hs : zStep scr own nL pc ini (.newarray ty) len lv st h = some (pc', lv', st', h2)) : h2.1 = h.1 ∨ (h2.1 = h.1 + 1 ∧ h.1 < 83) := by
  replace hs : ((match (generalizing := false) st with
    | .int n :: r => (match (generalizing := false) shp[h.1]? with
      | some (.inr (t, N)) => bif ((Nat.beq t 0 && decide (ty = .int)) || (Nat.beq t 1 && decide (ty = .byte))) && decide (0 ≤ n.toInt) && Nat.beq n.toNatClampNeg N then some (pc + 2, lv, .ref h.1 :: r, (h.1 + 1, (fun a => if a = h.1 then (fun _ => 0) else h.2.1 a), (fun a => if a = h.1 then (fun _ => none) else h.2.2 a))) else none
      | _ => none)
    | _ => none)) = some (pc', lv', st', h2) := hs
  simp only [Bool.cond_eq_ite] at hs
  repeat' split at hs
  all_goals first | (cases hs; done) | (cases hs; exact Or.inl rfl) | (cases hs; exact Or.inr ⟨rfl, shp_lt (by assumption)⟩)
theorem zn_anewarray (ix : Nat) {scr : Option (Nat × (Nat → Int32))} {own nL pc len : Nat} {ini : Bool} {lv lv' : LV} {st st' : List Value} {h h2 : Hp} {pc' : Nat} (hs : zStep scr own nL pc ini (.anewarray ix) len lv st h = some (pc', lv', st', h2)) : h2.1 = h.1 ∨ (h2.1 = h.1 + 1 ∧ h.1 < 83) := by
  replace hs : ((match (generalizing := false) st with
    | .int n :: r => (match (generalizing := false) lkp (poolOf own) ix with
      | some (11, 5, _, _) => (match (generalizing := false) shp[h.1]? with
        | some (.inr (t, N)) => bif Nat.beq t 2 && decide (0 ≤ n.toInt) && Nat.beq n.toNatClampNeg N then some (pc + 3, lv, .ref h.1 :: r, (h.1 + 1, (fun a => if a = h.1 then (fun _ => 0) else h.2.1 a), (fun a => if a = h.1 then (fun _ => none) else h.2.2 a))) else none
        | _ => none)
      | _ => none)
    | _ => none)) = some (pc', lv', st', h2) := hs
  simp only [Bool.cond_eq_ite] at hs
  repeat' split at hs
  all_goals first | (cases hs; done) | (cases hs; exact Or.inl rfl) | (cases hs; exact Or.inr ⟨rfl, shp_lt (by assumption)⟩)
theorem zn_invokespecial (ix : Nat) {scr : Option (Nat × (Nat → Int32))} {own nL pc len : Nat} {ini : Bool} {lv lv' : LV} {st st' : List Value} {h h2 : Hp} {pc' : Nat} (hs : zStep scr own nL pc ini (.invokespecial ix) len lv st h = some (pc', lv', st', h2)) : h2.1 = h.1 ∨ (h2.1 = h.1 + 1 ∧ h.1 < 83) := by
  replace hs : ((match (generalizing := false) st with
    | .ref _ :: r => (match (generalizing := false) lkp (poolOf own) ix with
      | some (7, _, _, _) => bif Nat.ble (catS r) 8 then some (pc + 3, lv, r, h) else none
      | _ => none)
    | _ => none)) = some (pc', lv', st', h2) := hs
  simp only [Bool.cond_eq_ite] at hs
  repeat' split at hs
  all_goals first | (cases hs; done) | (cases hs; exact Or.inl rfl) | (cases hs; exact Or.inr ⟨rfl, shp_lt (by assumption)⟩)
theorem zn_invokestatic (ix : Nat) {scr : Option (Nat × (Nat → Int32))} {own nL pc len : Nat} {ini : Bool} {lv lv' : LV} {st st' : List Value} {h h2 : Hp} {pc' : Nat} (hs : zStep scr own nL pc ini (.invokestatic ix) len lv st h = some (pc', lv', st', h2)) : h2.1 = h.1 ∨ (h2.1 = h.1 + 1 ∧ h.1 < 83) := by
  replace hs : ((match (generalizing := false) lkp (poolOf own) ix with
    | some (8, _, _, _) => (match (generalizing := false) st with
      | .int n :: .int dp :: .ref d :: .int sp :: .ref a :: r => (match (generalizing := false) arrL h a 0 with
        | some n0 => (match (generalizing := false) arrL h d 0 with
          | some n1 => bif decide (0 ≤ n.toInt) && decide (0 ≤ dp.toInt) && decide (0 ≤ sp.toInt) && Nat.ble (sp.toNatClampNeg + n.toNatClampNeg) n0 && Nat.ble (dp.toNatClampNeg + n.toNatClampNeg) n1 && Nat.ble (catS r) 8 then
              some (pc + 3, lv, r, (h.1, (fun x => if x = d then va_cpy (h.2.1 a) (h.2.1 d) sp.toNatClampNeg dp.toNatClampNeg n.toNatClampNeg else h.2.1 x), h.2.2)) else none
          | none => none)
        | none => none)
      | _ => none)
    | some (13, _, _, _) => (match (generalizing := false) st with
      | .int y :: .int x :: r => bif Nat.ble (catS r) 8 then some (pc + 3, lv, .int (if x < y then y else x) :: r, h) else none
      | _ => none)
    | some (14, _, _, _) => (match (generalizing := false) st with
      | .int y :: .int x :: r => bif Nat.ble (catS r) 8 then some (pc + 3, lv, .int (if y < x then y else x) :: r, h) else none
      | _ => none)
    | _ => none)) = some (pc', lv', st', h2) := hs
  simp only [Bool.cond_eq_ite] at hs
  repeat' split at hs
  all_goals first | (cases hs; done) | (cases hs; exact Or.inl rfl) | (cases hs; exact Or.inr ⟨rfl, shp_lt (by assumption)⟩)
theorem zStep_n {ins : Instr} {scr : Option (Nat × (Nat → Int32))} {own nL pc len : Nat} {ini : Bool} {lv lv' : LV} {st st' : List Value} {h h2 : Hp} {pc' : Nat} (hs : zStep scr own nL pc ini ins len lv st h = some (pc', lv', st', h2)) : h2.1 = h.1 ∨ (h2.1 = h.1 + 1 ∧ h.1 < 83) := by
  cases ins with
  | iconst i => exact zn_iconst i hs
  | bipush i => exact zn_bipush i hs
  | sipush i => exact zn_sipush i hs
  | lconst i => exact zn_lconst i hs
  | ldc ix => exact zn_ldc ix hs
  | ldc_w ix => exact zn_ldc_w ix hs
  | ldc2_w ix => exact zn_ldc2_w ix hs
  | iload_n i => exact zn_iload_n i hs
  | iload i => exact zn_iload i hs
  | lload_n i => exact zn_lload_n i hs
  | lload i => exact zn_lload i hs
  | aload_n i => exact zn_aload_n i hs
  | aload i => exact zn_aload i hs
  | istore_n i => exact zn_istore_n i hs
  | istore i => exact zn_istore i hs
  | lstore_n i => exact zn_lstore_n i hs
  | lstore i => exact zn_lstore i hs
  | astore_n i => exact zn_astore_n i hs
  | astore i => exact zn_astore i hs
  | iinc i n => exact zn_iinc i n hs
  | dup => exact zn_dup  hs
  | dup2 => exact zn_dup2  hs
  | pop => exact zn_pop  hs
  | iadd => exact zn_iadd  hs
  | isub => exact zn_isub  hs
  | imul => exact zn_imul  hs
  | idiv => exact zn_idiv  hs
  | irem => exact zn_irem  hs
  | ineg => exact zn_ineg  hs
  | ishl => exact zn_ishl  hs
  | ishr => exact zn_ishr  hs
  | iushr => exact zn_iushr  hs
  | iand => exact zn_iand  hs
  | ior => exact zn_ior  hs
  | ixor => exact zn_ixor  hs
  | i2l => exact zn_i2l  hs
  | i2b => exact zn_i2b  hs
  | l2i => exact zn_l2i  hs
  | ladd => exact zn_ladd  hs
  | lsub => exact zn_lsub  hs
  | lmul => exact zn_lmul  hs
  | ldiv => exact zn_ldiv  hs
  | lrem => exact zn_lrem  hs
  | land => exact zn_land  hs
  | lor => exact zn_lor  hs
  | lshl => exact zn_lshl  hs
  | lshr => exact zn_lshr  hs
  | lcmp => exact zn_lcmp  hs
  | goto off => exact zn_goto off hs
  | if_icmp c0 off => exact zn_if_icmp c0 off hs
  | ifCond c0 off => exact zn_ifCond c0 off hs
  | tableswitch d lo hi offs => exact zn_tableswitch d lo hi offs hs
  | lookupswitch d ps => exact zn_lookupswitch d ps hs
  | getfield ix => exact zn_getfield ix hs
  | putfield ix => exact zn_putfield ix hs
  | iaload => exact zn_iaload  hs
  | baload => exact zn_baload  hs
  | aaload => exact zn_aaload  hs
  | iastore => exact zn_iastore  hs
  | bastore => exact zn_bastore  hs
  | aastore => exact zn_aastore  hs
  | arraylength => exact zn_arraylength  hs
  | new ix => exact zn_new ix hs
  | newarray ty => exact zn_newarray ty hs
  | anewarray ix => exact zn_anewarray ix hs
  | invokespecial ix => exact zn_invokespecial ix hs
  | invokestatic ix => exact zn_invokestatic ix hs
  | _ => exact nomatch (show (none : Option Cfg) = some _ from hs)
theorem z_mono : ∀ (n : Nat) (scr : Option (Nat × (Nat → Int32))) (me : ME) (pc : Nat) (lv : LV) (st : List Value) (h : Hp) (r : Option Value) (h' : Hp), zRun scr n me pc lv st h = some (r, h') → h.1 ≤ 83 → h.1 ≤ h'.1 ∧ h'.1 ≤ 83 := by
  intro n
  induction n with
  | zero => intro scr me pc lv st h r h' hrun; cases hrun
  | succ n ih =>
    intro scr me pc lv st h r h' hrun h83
    unfold zRun at hrun
    split at hrun
    · cases hrun
    · split at hrun
      · cases hrun; exact ⟨Nat.le_refl _, h83⟩
      · split at hrun
        · split at hrun
          next r1 h1 h1run =>
            have a := ih _ _ _ _ _ _ _ _ h1run h83
            have b := ih _ _ _ _ _ _ _ _ hrun a.2
            exact ⟨Nat.le_trans a.1 b.1, b.2⟩
          next => cases hrun
        · split at hrun
          next pc' lv' st' h2 hst =>
            have a := zStep_n hst
            have b := ih _ _ _ _ _ _ _ _ hrun (by omega)
            omega
          next => cases hrun
theorem zCallR_spec {h : Hp} {k b : Nat} {st as rest : List Value} {me : ME} (e : zCallR h k b st = some (me, as, rest)) : MT[k]? = some me ∧ ∃ i, st.drop b = .ref i :: rest ∧ as = .ref i :: (st.take b).reverse ∧ isO h i me.1 = true ∧ catS rest ≤ 8 ∧ catS as ≤ me.2.2.2.1 := by
  unfold zCallR at e
  split at e
  next me1 hm =>
    split at e
    next i r hdr =>
      cases hb : isO h i me1.1 && Nat.ble (catS r) 8 && Nat.ble (catS (.ref i :: (st.take b).reverse)) me1.2.2.2.1 with
      | false => rw [hb] at e; cases e
      | true =>
        rw [hb] at e
        cases e
        simp only [Bool.and_eq_true, Nat.ble_eq] at hb
        exact ⟨hm, i, hdr, rfl, hb.1.1, hb.1.2, hb.2⟩
    next => cases e
  next => cases e
theorem zCallT_spec {k b : Nat} {st as rest : List Value} {me : ME} (e : zCallT k b st = some (me, as, rest)) : MT[k]? = some me ∧ b ≤ st.length ∧ rest = st.drop b ∧ as = (st.take b).reverse ∧ catS rest ≤ 8 ∧ catS as ≤ me.2.2.2.1 := by
  unfold zCallT at e
  split at e
  next me1 hm =>
    cases hb : Nat.ble b st.length && Nat.ble (catS (st.drop b)) 8 && Nat.ble (catS (st.take b).reverse) me1.2.2.2.1 with
    | false => rw [hb] at e; cases e
    | true =>
      rw [hb] at e
      cases e
      simp only [Bool.and_eq_true, Nat.ble_eq] at hb
      exact ⟨hm, hb.1.1, rfl, rfl, hb.1.2, hb.2⟩
  next => cases e
theorem room_of {me me' : ME} {ix k b t : Nat} {v : Int} (hroom : rOKb.rOK2 me ix = true) (hp : lkp (poolOf me.1) ix = some (t, k, b, v)) (ht : t < 7) (hm : MT[k]? = some me') : me'.2.2.2.2.2.2.1 + 1 ≤ me.2.2.2.2.2.2.1 ∧ 8 + (me'.2.2.2.1 + 11) + me'.2.2.2.2.2.2.2 ≤ me.2.2.2.2.2.2.2 := by
  unfold rOKb.rOK2 at hroom
  rw [hp] at hroom
  have key : (match (generalizing := false) MT[k]? with
      | some me' => Nat.ble (me'.2.2.2.2.2.2.1 + 1) me.2.2.2.2.2.2.1 && Nat.ble (8 + (me'.2.2.2.1 + 11) + me'.2.2.2.2.2.2.2) me.2.2.2.2.2.2.2
      | none => false) = true := by
    match t, ht, hroom with
    | 0, _, hroom => exact hroom
    | 1, _, hroom => exact hroom
    | 2, _, hroom => exact hroom
    | 3, _, hroom => exact hroom
    | 4, _, hroom => exact hroom
    | 5, _, hroom => exact hroom
    | 6, _, hroom => exact hroom
  rw [hm] at key
  simpa using key
theorem cat_cv (β : Nat → Nat) (r : List Value) : ((r.map (cv β)).map fun v => v.category).sum = catS r := by
  simp [catS, Function.comp_def, cv_cat]
theorem heap_size {D : va_G} {cT : CT} {β : Nat → Nat} {base n0 : Nat} {h : Hp} {H H0 : Heap} {locs : List Loc} (hβ : ∀ i, i < 4096 → β i = base + i) (h83 : h.1 ≤ 83) (hn0 : n0 ≤ h.1) (hsz : H0.size = base + n0) (hP : va_P D vwCl (wsOf β cT h) H) (hS : va_S (fun q => base ≤ q) H0 H locs) (hz : H.size ≤ H0.size + (h.1 - n0)) : H.size = base + h.1 := by
  by_cases h0 : h.1 = 0
  · have := hS.1
    omega
  · have hlt : β (h.1 - 1) < H.size := (hP (h.1 - 1) _ (wsOf_at (by omega))).lt
    rw [hβ _ (by omega)] at hlt
    omega

set_option maxHeartbeats 1000000 in
theorem zc_invokevirtual (ix : Nat) {p : Program} {l : Launch} {e : Env} {R : Room} {s : State} {m : MethodId} {args : Array Value} {below : List Frame} {meth : Method} {c : Code} {D : va_G} {cT : CT} {β : Nat → Nat} {base : Nat} {me me' : ME} {Ts : List Cond} {n0 n : Nat} (C : Ctx p s m args meth c D cT base me Ts n0) (hβ : ∀ i, i < 4096 → β i = base + i) {pc len : Nat} {lv : LV} {st as rest : List Value} {h h1 : Hp} {r1 : Option Value} (hB : Body l D cT β base n) (hc : zCall me.1 h (.invokevirtual ix) st = some (me', as, rest)) (h1run : zRun none n me' 0 (lv_args 0 as) [] h = some (r1, h1)) (hd : decode me.2.2.1 pc = .ok (.invokevirtual ix, len)) (hlen : lenOK (.invokevirtual ix) len = true) (hroom : rOKb me (pc, .invokevirtual ix, len) = true) (hR : (me.2.2.2.2.2.2.1 ≤ R.frames ∧ me.2.2.2.2.2.2.2 ≤ R.locals) ∧ h1.1 - n0 ≤ R.cells ∧ szS h1.1 - szS n0 ≤ R.slots) (hn0 : n0 ≤ h.1) (h83 : h.1 ≤ 83) (hmono : h.1 ≤ h1.1) {H : Heap} {locs : List Loc} {ls : Array Slot} {Q : State → Prop} (hl : lv_has ls me.2.2.2.1 (cvL β lv)) (hP : va_P D vwCl (wsOf β cT h) H) (hS : va_S (fun q => base ≤ q) s.heap H locs)
    (K : ∀ (H' : Heap) (locs' : List Loc), va_P D vwCl (wsOf β cT h1) H' → va_S (fun q => base ≤ q) s.heap H' locs' → W p l e R s m args below meth c H' locs' (h1.1 - n0) (szS h1.1 - szS n0) Q (F0 m (pc + 3) ls ((r1.toList ++ rest).map (cv β)))) :
    W p l e R s m args below meth c H locs (h.1 - n0) (szS h.1 - szS n0) Q (F0 m pc ls (st.map (cv β))) := by
  obtain ⟨hx, hb, hml, hown, hts, hG, hK, hsz, hmk, hini⟩ := C
  have hlen1 : len = 3 := Nat.eq_of_beq_eq_true hlen
  subst hlen1
  refine W_size (fun hz => ?_)
  have hsize := heap_size hβ h83 hn0 hsz hP hS hz
  have hs1 := szS_mono hn0
  have hs2 := szS_mono hmono
  unfold zCall at hc
  dsimp only at hc
  split at hc
  next k b v hp =>
    obtain ⟨hm, i, hdr, has, ho, hcr, hcat⟩ := zCallR_spec hc
    subst has
    obtain ⟨me2, ⟨hm2, m1, m2, m3, wi, wc⟩, wl, wn, wse⟩ := pool_V hp
    cases hm2.symm.trans hm
    have hmk2 : mOK me' := mt_ok me' (List.mem_of_getElem? hm)
    have hrm := room_of (show rOKb.rOK2 me ix = true from hroom) hp (by decide) hm
    have hM := met_of_body hB hmk2 h1run hcat h83
    obtain ⟨hi, hsh⟩ := isO_spec ho
    obtain ⟨Cn, T, N, hcn⟩ := cls_of_shp hsh
    obtain ⟨ty, hin, hN, hCn, hty, hnm, hf⟩ := cls_ok hcn
    have hrc := va_recv hK.1 hP hcn (by rw [wsOf_at hi, cell_obj hsh])
    replace hrc : ∃ cell : Cell, H[β i]? = some cell ∧ cell.vm.isStatics = false ∧ s.vm.findClass me'.2.1.cls = some cell.cls := by
      rw [(mOK_name hmk2).1, ← hCn]; exact hrc
    have hlt : b < st.length := by
      rcases Nat.lt_or_ge b st.length with q | q
      · exact q
      · rw [List.drop_eq_nil_of_le q] at hdr; cases hdr
    have hst : st.map (cv β) = (((st.take b).reverse).map (cv β)).reverse ++ .ref (β i) :: rest.map (cv β) := by
      rw [← List.map_reverse, List.reverse_reverse, show (Value.ref (β i) :: rest.map (cv β)) = (Value.ref i :: rest).map (cv β) from rfl, ← hdr, ← List.map_append, List.take_append_drop]
    have hAl : (((st.take b).reverse).map (cv β)).length = b := by simp; omega
    refine z_call (va_runV (C := me'.2.1.cls) (As := ((st.take b).reverse).map (cv β)) (rest := rest.map (cv β)) ⟨hx, hb, hml, hown, hts⟩ hM ⟨callB_of (ws' := gTbl) b hts (wsM_good hG wc) rfl rfl rfl (hts _ (hG _ wi)) (hts _ (hG _ wl)) ⟨m1, m2, m3⟩ ⟨by show _ + 1 ≤ _; have := hR.1.1; have := hrm.1; simp only [rmM]; omega, by have := hR.1.2; have := hrm.2; simp only [rmM]; omega⟩, hts _ (hG _ wn), hts _ (hG _ wse)⟩ ⟨PcM_blind, hrc, fun U hU hW => ⟨rfl, by rw [hU]; exact hsize, by rw [hU]; exact hP, hK.moved hW⟩⟩ rfl hAl hl.1 hst (lv_room (by rw [cat_cv]; exact hcr)) hd ⟨by omega, by omega⟩) hS (fun q h => h) (fun H1 locs1 hP1 hS1 => ?_)
    have k1 := K H1 locs1 hP1 hS1
    rw [show h.1 - n0 + (h1.1 - h.1) = h1.1 - n0 by omega, show szS h.1 - szS n0 + (szS h1.1 - szS h.1) = szS h1.1 - szS n0 by omega]
    rw [List.map_append, show r1.toList.map (cv β) = (r1.map (cv β)).toList by cases r1 <;> rfl] at k1
    exact k1
  next => cases hc
set_option maxHeartbeats 1000000 in
theorem zc_invokestatic (ix : Nat) {p : Program} {l : Launch} {e : Env} {R : Room} {s : State} {m : MethodId} {args : Array Value} {below : List Frame} {meth : Method} {c : Code} {D : va_G} {cT : CT} {β : Nat → Nat} {base : Nat} {me me' : ME} {Ts : List Cond} {n0 n : Nat} (C : Ctx p s m args meth c D cT base me Ts n0) (hβ : ∀ i, i < 4096 → β i = base + i) {pc len : Nat} {lv : LV} {st as rest : List Value} {h h1 : Hp} {r1 : Option Value} (hB : Body l D cT β base n) (hc : zCall me.1 h (.invokestatic ix) st = some (me', as, rest)) (h1run : zRun none n me' 0 (lv_args 0 as) [] h = some (r1, h1)) (hd : decode me.2.2.1 pc = .ok (.invokestatic ix, len)) (hlen : lenOK (.invokestatic ix) len = true) (hroom : rOKb me (pc, .invokestatic ix, len) = true) (hR : (me.2.2.2.2.2.2.1 ≤ R.frames ∧ me.2.2.2.2.2.2.2 ≤ R.locals) ∧ h1.1 - n0 ≤ R.cells ∧ szS h1.1 - szS n0 ≤ R.slots) (hn0 : n0 ≤ h.1) (h83 : h.1 ≤ 83) (hmono : h.1 ≤ h1.1) {H : Heap} {locs : List Loc} {ls : Array Slot} {Q : State → Prop} (hl : lv_has ls me.2.2.2.1 (cvL β lv)) (hP : va_P D vwCl (wsOf β cT h) H) (hS : va_S (fun q => base ≤ q) s.heap H locs)
    (K : ∀ (H' : Heap) (locs' : List Loc), va_P D vwCl (wsOf β cT h1) H' → va_S (fun q => base ≤ q) s.heap H' locs' → W p l e R s m args below meth c H' locs' (h1.1 - n0) (szS h1.1 - szS n0) Q (F0 m (pc + 3) ls ((r1.toList ++ rest).map (cv β)))) :
    W p l e R s m args below meth c H locs (h.1 - n0) (szS h.1 - szS n0) Q (F0 m pc ls (st.map (cv β))) := by
  obtain ⟨hx, hb, hml, hown, hts, hG, hK, hsz, hmk, hini⟩ := C
  have hlen1 : len = 3 := Nat.eq_of_beq_eq_true hlen
  subst hlen1
  refine W_size (fun hz => ?_)
  have hsize := heap_size hβ h83 hn0 hsz hP hS hz
  have hs1 := szS_mono hn0
  have hs2 := szS_mono hmono
  unfold zCall at hc
  dsimp only at hc
  split at hc
  next k b v hp =>
    obtain ⟨hm, hbl, hrest, has, hcr, hcat⟩ := zCallT_spec hc
    subst has; subst hrest
    obtain ⟨me2, ⟨hm2, m1, m2, m3, wi, wc⟩, wl, wn⟩ := pool_S hp
    cases hm2.symm.trans hm
    have hmk2 : mOK me' := mt_ok me' (List.mem_of_getElem? hm)
    have hrm := room_of (show rOKb.rOK2 me ix = true from hroom) hp (by decide) hm
    have hM := met_of_body hB hmk2 h1run hcat h83
    have hst : st.map (cv β) = (((st.take b).reverse).map (cv β)).reverse ++ (st.drop b).map (cv β) := by
      rw [← List.map_reverse, List.reverse_reverse, ← List.map_append, List.take_append_drop]
    have hAl : (((st.take b).reverse).map (cv β)).length = b := by simp; omega
    refine z_call (va_runS (As := ((st.take b).reverse).map (cv β)) (rest := (st.drop b).map (cv β)) ⟨hx, hb, hml, hown, hts⟩ hM ⟨callB_of (ws' := gTbl) b hts (wsM_good hG wc) rfl rfl rfl (hts _ (hG _ wi)) (hts _ (hG _ wl)) ⟨m1, m2, m3⟩ ⟨by show _ + 1 ≤ _; have := hR.1.1; have := hrm.1; simp only [rmM]; omega, by have := hR.1.2; have := hrm.2; simp only [rmM]; omega⟩, hts _ (hG _ wn)⟩ ⟨PcM_blind, fun U hU hW => ⟨rfl, by rw [hU]; exact hsize, by rw [hU]; exact hP, hK.moved hW⟩⟩ rfl hAl hl.1 hst (lv_room (by rw [cat_cv]; exact hcr)) hd ⟨by omega, by omega⟩) hS (fun q h => h) (fun H1 locs1 hP1 hS1 => ?_)
    have k1 := K H1 locs1 hP1 hS1
    rw [show h.1 - n0 + (h1.1 - h.1) = h1.1 - n0 by omega, show szS h.1 - szS n0 + (szS h1.1 - szS h.1) = szS h1.1 - szS n0 by omega]
    rw [List.map_append, show r1.toList.map (cv β) = (r1.map (cv β)).toList by cases r1 <;> rfl] at k1
    exact k1
  next k b v hp =>
    obtain ⟨hm, hbl, hrest, has, hcr, hcat⟩ := zCallT_spec hc
    subst has; subst hrest
    obtain ⟨me2, ⟨hm2, m1, m2, m3, wi, wc⟩, wl, wn⟩ := pool_SN hp
    cases hm2.symm.trans hm
    have hmk2 : mOK me' := mt_ok me' (List.mem_of_getElem? hm)
    have hrm := room_of (show rOKb.rOK2 me ix = true from hroom) hp (by decide) hm
    have hM := met_of_body hB hmk2 h1run hcat h83
    have hst : st.map (cv β) = (((st.take b).reverse).map (cv β)).reverse ++ (st.drop b).map (cv β) := by
      rw [← List.map_reverse, List.reverse_reverse, ← List.map_append, List.take_append_drop]
    have hAl : (((st.take b).reverse).map (cv β)).length = b := by simp; omega
    refine z_call (va_runSN (As := ((st.take b).reverse).map (cv β)) (rest := (st.drop b).map (cv β)) ⟨hx, hb, hml, hown, hts⟩ hM ⟨va_cnB (ws' := gTbl) b hts (wsM_good hG wc) rfl rfl rfl (hK.2.1 _ wl) (hts _ (hG _ wi)) ⟨m1, m2, m3⟩ ⟨by show _ + 1 ≤ _; have := hR.1.1; have := hrm.1; simp only [rmM]; omega, by have := hR.1.2; have := hrm.2; simp only [rmM]; omega⟩, hts _ (hG _ wn), trivial⟩ ⟨PcM_blind, fun U hU hW => ⟨rfl, by rw [hU]; exact hsize, by rw [hU]; exact hP, hK.moved hW⟩⟩ rfl hAl hl.1 hst (lv_room (by rw [cat_cv]; exact hcr)) hd ⟨by omega, by omega⟩) hS (fun q h => h) (fun H1 locs1 hP1 hS1 => ?_)
    have k1 := K H1 locs1 hP1 hS1
    rw [show h.1 - n0 + (h1.1 - h.1) = h1.1 - n0 by omega, show szS h.1 - szS n0 + (szS h1.1 - szS h.1) = szS h1.1 - szS n0 by omega]
    rw [List.map_append, show r1.toList.map (cv β) = (r1.map (cv β)).toList by cases r1 <;> rfl] at k1
    exact k1
  next => cases hc
set_option maxHeartbeats 1000000 in
theorem zc_invokespecial (ix : Nat) {p : Program} {l : Launch} {e : Env} {R : Room} {s : State} {m : MethodId} {args : Array Value} {below : List Frame} {meth : Method} {c : Code} {D : va_G} {cT : CT} {β : Nat → Nat} {base : Nat} {me me' : ME} {Ts : List Cond} {n0 n : Nat} (C : Ctx p s m args meth c D cT base me Ts n0) (hβ : ∀ i, i < 4096 → β i = base + i) {pc len : Nat} {lv : LV} {st as rest : List Value} {h h1 : Hp} {r1 : Option Value} (hB : Body l D cT β base n) (hc : zCall me.1 h (.invokespecial ix) st = some (me', as, rest)) (h1run : zRun none n me' 0 (lv_args 0 as) [] h = some (r1, h1)) (hd : decode me.2.2.1 pc = .ok (.invokespecial ix, len)) (hlen : lenOK (.invokespecial ix) len = true) (hroom : rOKb me (pc, .invokespecial ix, len) = true) (hR : (me.2.2.2.2.2.2.1 ≤ R.frames ∧ me.2.2.2.2.2.2.2 ≤ R.locals) ∧ h1.1 - n0 ≤ R.cells ∧ szS h1.1 - szS n0 ≤ R.slots) (hn0 : n0 ≤ h.1) (h83 : h.1 ≤ 83) (hmono : h.1 ≤ h1.1) {H : Heap} {locs : List Loc} {ls : Array Slot} {Q : State → Prop} (hl : lv_has ls me.2.2.2.1 (cvL β lv)) (hP : va_P D vwCl (wsOf β cT h) H) (hS : va_S (fun q => base ≤ q) s.heap H locs)
    (K : ∀ (H' : Heap) (locs' : List Loc), va_P D vwCl (wsOf β cT h1) H' → va_S (fun q => base ≤ q) s.heap H' locs' → W p l e R s m args below meth c H' locs' (h1.1 - n0) (szS h1.1 - szS n0) Q (F0 m (pc + 3) ls ((r1.toList ++ rest).map (cv β)))) :
    W p l e R s m args below meth c H locs (h.1 - n0) (szS h.1 - szS n0) Q (F0 m pc ls (st.map (cv β))) := by
  obtain ⟨hx, hb, hml, hown, hts, hG, hK, hsz, hmk, hini⟩ := C
  have hlen1 : len = 3 := Nat.eq_of_beq_eq_true hlen
  subst hlen1
  refine W_size (fun hz => ?_)
  have hsize := heap_size hβ h83 hn0 hsz hP hS hz
  have hs1 := szS_mono hn0
  have hs2 := szS_mono hmono
  unfold zCall at hc
  dsimp only at hc
  split at hc
  next k b v hp =>
    obtain ⟨hm, i, hdr, has, ho, hcr, hcat⟩ := zCallR_spec hc
    subst has
    obtain ⟨me2, ⟨hm2, m1, m2, m3, wi, wc⟩, wl, wn, hn1, hn2⟩ := pool_I hp
    cases hm2.symm.trans hm
    have hmk2 : mOK me' := mt_ok me' (List.mem_of_getElem? hm)
    have hrm := room_of (show rOKb.rOK2 me ix = true from hroom) hp (by decide) hm
    have hM := met_of_body hB hmk2 h1run hcat h83
    obtain ⟨hi, hsh⟩ := isO_spec ho
    obtain ⟨Cn, T, N, hcn⟩ := cls_of_shp hsh
    obtain ⟨ty, hin, hN, hCn, hty, hnm, hf⟩ := cls_ok hcn
    have hrc := va_recv hK.1 hP hcn (by rw [wsOf_at hi, cell_obj hsh])
    replace hrc : ∃ cell : Cell, H[β i]? = some cell ∧ cell.vm.isStatics = false ∧ s.vm.findClass me'.2.1.cls = some cell.cls := by
      rw [(mOK_name hmk2).1, ← hCn]; exact hrc
    have hlt : b < st.length := by
      rcases Nat.lt_or_ge b st.length with q | q
      · exact q
      · rw [List.drop_eq_nil_of_le q] at hdr; cases hdr
    have hst : st.map (cv β) = (((st.take b).reverse).map (cv β)).reverse ++ .ref (β i) :: rest.map (cv β) := by
      rw [← List.map_reverse, List.reverse_reverse, show (Value.ref (β i) :: rest.map (cv β)) = (Value.ref i :: rest).map (cv β) from rfl, ← hdr, ← List.map_append, List.take_append_drop]
    have hAl : (((st.take b).reverse).map (cv β)).length = b := by simp; omega
    refine z_call (va_runI (As := ((st.take b).reverse).map (cv β)) (rest := rest.map (cv β)) ⟨hx, hb, hml, hown, hts⟩ hM ⟨callB_of (ws' := gTbl) b hts (wsM_good hG wc) (by unfold wsM; rw [hn2]) rfl rfl (hts _ (hG _ wi)) (hts _ (hG _ wl)) ⟨m1, m2, m3⟩ ⟨by show _ + 1 ≤ _; have := hR.1.1; have := hrm.1; simp only [rmM]; omega, by have := hR.1.2; have := hrm.2; simp only [rmM]; omega⟩, hn1, hts _ (hG _ wn)⟩ ⟨PcM_blind, fun U hU hW => ⟨rfl, by rw [hU]; exact hsize, by rw [hU]; exact hP, hK.moved hW⟩⟩ rfl hAl hl.1 hst (lv_room (by rw [cat_cv]; exact hcr)) hd ⟨by omega, by omega⟩) hS (fun q h => h) (fun H1 locs1 hP1 hS1 => ?_)
    have k1 := K H1 locs1 hP1 hS1
    rw [show h.1 - n0 + (h1.1 - h.1) = h1.1 - n0 by omega, show szS h.1 - szS n0 + (szS h1.1 - szS h.1) = szS h1.1 - szS n0 by omega]
    rw [List.map_append, show r1.toList.map (cv β) = (r1.map (cv β)).toList by cases r1 <;> rfl] at k1
    exact k1
  next k b v hp =>
    obtain ⟨hm, i, hdr, has, ho, hcr, hcat⟩ := zCallR_spec hc
    subst has
    obtain ⟨me2, ⟨hm2, m1, m2, m3, wi, wc⟩, wl, wn, hn1, hn2⟩ := pool_IN hp
    cases hm2.symm.trans hm
    have hmk2 : mOK me' := mt_ok me' (List.mem_of_getElem? hm)
    have hrm := room_of (show rOKb.rOK2 me ix = true from hroom) hp (by decide) hm
    have hM := met_of_body hB hmk2 h1run hcat h83
    obtain ⟨hi, hsh⟩ := isO_spec ho
    obtain ⟨Cn, T, N, hcn⟩ := cls_of_shp hsh
    obtain ⟨ty, hin, hN, hCn, hty, hnm, hf⟩ := cls_ok hcn
    have hrc := va_recv hK.1 hP hcn (by rw [wsOf_at hi, cell_obj hsh])
    replace hrc : ∃ cell : Cell, H[β i]? = some cell ∧ cell.vm.isStatics = false ∧ s.vm.findClass me'.2.1.cls = some cell.cls := by
      rw [(mOK_name hmk2).1, ← hCn]; exact hrc
    have hlt : b < st.length := by
      rcases Nat.lt_or_ge b st.length with q | q
      · exact q
      · rw [List.drop_eq_nil_of_le q] at hdr; cases hdr
    have hst : st.map (cv β) = (((st.take b).reverse).map (cv β)).reverse ++ .ref (β i) :: rest.map (cv β) := by
      rw [← List.map_reverse, List.reverse_reverse, show (Value.ref (β i) :: rest.map (cv β)) = (Value.ref i :: rest).map (cv β) from rfl, ← hdr, ← List.map_append, List.take_append_drop]
    have hAl : (((st.take b).reverse).map (cv β)).length = b := by simp; omega
    refine z_call (va_runIN (As := ((st.take b).reverse).map (cv β)) (rest := rest.map (cv β)) ⟨hx, hb, hml, hown, hts⟩ hM ⟨va_cnB (ws' := gTbl) b hts (wsM_good hG wc) (by unfold wsM; rw [hn2]) rfl rfl (hK.2.1 _ wl) (hts _ (hG _ wi)) ⟨m1, m2, m3⟩ ⟨by show _ + 1 ≤ _; have := hR.1.1; have := hrm.1; simp only [rmM]; omega, by have := hR.1.2; have := hrm.2; simp only [rmM]; omega⟩, hn1, hts _ (hG _ wn)⟩ ⟨PcM_blind, fun U hU hW => ⟨rfl, by rw [hU]; exact hsize, by rw [hU]; exact hP, hK.moved hW⟩⟩ rfl hAl hl.1 hst (lv_room (by rw [cat_cv]; exact hcr)) hd ⟨by omega, by omega⟩) hS (fun q h => h) (fun H1 locs1 hP1 hS1 => ?_)
    have k1 := K H1 locs1 hP1 hS1
    rw [show h.1 - n0 + (h1.1 - h.1) = h1.1 - n0 by omega, show szS h.1 - szS n0 + (szS h1.1 - szS h.1) = szS h1.1 - szS n0 by omega]
    rw [List.map_append, show r1.toList.map (cv β) = (r1.map (cv β)).toList by cases r1 <;> rfl] at k1
    exact k1
  next => cases hc
theorem zCall_W {ins : Instr} {p : Program} {l : Launch} {e : Env} {R : Room} {s : State} {m : MethodId} {args : Array Value} {below : List Frame} {meth : Method} {c : Code} {D : va_G} {cT : CT} {β : Nat → Nat} {base : Nat} {me me' : ME} {Ts : List Cond} {n0 n : Nat} (C : Ctx p s m args meth c D cT base me Ts n0) (hβ : ∀ i, i < 4096 → β i = base + i) {pc len : Nat} {lv : LV} {st as rest : List Value} {h h1 : Hp} {r1 : Option Value} (hB : Body l D cT β base n) (hc : zCall me.1 h ins st = some (me', as, rest)) (h1run : zRun none n me' 0 (lv_args 0 as) [] h = some (r1, h1)) (hd : decode me.2.2.1 pc = .ok (ins, len)) (hlen : lenOK ins len = true) (hroom : rOKb me (pc, ins, len) = true) (hR : (me.2.2.2.2.2.2.1 ≤ R.frames ∧ me.2.2.2.2.2.2.2 ≤ R.locals) ∧ h1.1 - n0 ≤ R.cells ∧ szS h1.1 - szS n0 ≤ R.slots) (hn0 : n0 ≤ h.1) (h83 : h.1 ≤ 83) (hmono : h.1 ≤ h1.1) {H : Heap} {locs : List Loc} {ls : Array Slot} {Q : State → Prop} (hl : lv_has ls me.2.2.2.1 (cvL β lv)) (hP : va_P D vwCl (wsOf β cT h) H) (hS : va_S (fun q => base ≤ q) s.heap H locs)
    (K : ∀ (H' : Heap) (locs' : List Loc), va_P D vwCl (wsOf β cT h1) H' → va_S (fun q => base ≤ q) s.heap H' locs' → W p l e R s m args below meth c H' locs' (h1.1 - n0) (szS h1.1 - szS n0) Q (F0 m (pc + 3) ls ((r1.toList ++ rest).map (cv β)))) :
    W p l e R s m args below meth c H locs (h.1 - n0) (szS h.1 - szS n0) Q (F0 m pc ls (st.map (cv β))) := by
  cases ins with
  | invokevirtual ix => exact zc_invokevirtual ix C hβ hB hc h1run hd hlen hroom hR hn0 h83 hmono hl hP hS K
  | invokestatic ix => exact zc_invokestatic ix C hβ hB hc h1run hd hlen hroom hR hn0 h83 hmono hl hP hS K
  | invokespecial ix => exact zc_invokespecial ix C hβ hB hc h1run hd hlen hroom hR hn0 h83 hmono hl hP hS K
  | _ => exact nomatch (show (none : Option (ME × List Value × List Value)) = some _ from hc)
set_option maxHeartbeats 1000000 in
/-- the machine follows zRun -/
theorem z_body (l : Launch) (D : va_G) (cT : CT) (β : Nat → Nat) (base : Nat) (hβ : ∀ i, i < 4096 → β i = base + i) : ∀ n, Body l D cT β base n := by
  intro n
  induction n with
  | zero => intro p e R s m args below meth c scr me Ts n0 Q pc lv st h r h' H locs ls hrun; cases hrun
  | succ n ih =>
    intro p e R s m args below meth c scr me Ts n0 Q pc lv st h r h' H locs ls hrun C hsc hR hn0 h83 hl hP hS hret
    unfold zRun at hrun
    split at hrun
    next => cases hrun
    next ins len hlk =>
      obtain ⟨hd, hroom, hlen⟩ := mOK_at C.2.2.2.2.2.2.2.2.1 hlk
      split at hrun
      next r0 hz =>
        cases hrun
        exact hret pc st H locs ls ins len hd hlen hz hP hS
      next hz =>
        split at hrun
        next me' as rest hc =>
          split at hrun
          next r1 h1 h1run =>
            have a := z_mono _ _ _ _ _ _ _ _ _ h1run h83
            have b := z_mono _ _ _ _ _ _ _ _ _ hrun a.2
            have s1 := szS_mono b.1
            refine zCall_W C hβ ih hc h1run hd hlen hroom ⟨hR.1, by omega, by omega⟩ hn0 h83 a.1 hl hP hS (fun H' locs' hP' hS' => ?_)
            exact ih p e R s m args below meth c scr me Ts n0 Q (pc + 3) lv (r1.toList ++ rest) h1 r h' H' locs' ls hrun C hsc hR (by omega) a.2 hl hP' hS' hret
          next => cases hrun
        next hc =>
          split at hrun
          next pc' lv' st' h2 hst =>
            have a := zStep_n hst
            have b := z_mono _ _ _ _ _ _ _ _ _ hrun (by omega)
            have s1 := szS_mono b.1
            exact zStep_W C hsc hβ hst hd hlen hroom ⟨hR.1, by omega, by omega⟩ hn0 h83 hl hP hS (fun H' locs' ls' hl' hP' hS' => ih p e R s m args below meth c scr me Ts n0 Q pc' lv' st' h2 r h' H' locs' ls' hrun C hsc hR (by omega) (by omega) hl' hP' hS' hret)
          next => cases hrun
end
section
/-! Rules over zRun: TT says that from a point of a method on the abstract machine comes back with an answer and a heap. -/
theorem z_fuel1 : ∀ (n : Nat) (scr : Option (Nat × (Nat → Int32))) (me : ME) (pc : Nat) (lv : LV) (st : List Value) (h : Hp) (x : Option Value × Hp), zRun scr n me pc lv st h = some x → zRun scr (n + 1) me pc lv st h = some x := by
  intro n
  induction n with
  | zero => intro scr me pc lv st h x hrun; cases hrun
  | succ n ih =>
    intro scr me pc lv st h x hrun
    rw [zRun] at hrun ⊢
    cases hlk : lkp me.2.2.2.2.2.1 pc with
    | none => rw [hlk] at hrun; cases hrun
    | some il =>
      obtain ⟨ins, len⟩ := il
      rw [hlk] at hrun
      dsimp only at hrun ⊢
      cases hz : zRet me.2.2.2.2.1 ins st with
      | some r => rw [hz] at hrun; exact hrun
      | none =>
        rw [hz] at hrun
        dsimp only at hrun ⊢
        cases hc : zCall me.1 h ins st with
        | some q =>
          obtain ⟨me', as, rest⟩ := q
          rw [hc] at hrun
          dsimp only at hrun ⊢
          cases h1 : zRun none n me' 0 (lv_args 0 as) [] h with
          | none => rw [h1] at hrun; cases hrun
          | some y =>
            obtain ⟨r1, h1'⟩ := y
            rw [h1] at hrun
            rw [ih _ _ _ _ _ _ _ h1]
            exact ih _ _ _ _ _ _ _ hrun
        | none =>
          rw [hc] at hrun
          dsimp only at hrun ⊢
          cases hs : zStep scr me.1 me.2.2.2.1 pc (isIni me) ins len lv st h with
          | none => rw [hs] at hrun; cases hrun
          | some q =>
            obtain ⟨pc', lv', st', h2⟩ := q
            rw [hs] at hrun
            exact ih _ _ _ _ _ _ _ hrun
theorem z_fuel {n k : Nat} {scr : Option (Nat × (Nat → Int32))} {me : ME} {pc : Nat} {lv : LV} {st : List Value} {h : Hp} {x : Option Value × Hp} (hrun : zRun scr n me pc lv st h = some x) : zRun scr (n + k) me pc lv st h = some x := by
  induction k with
  | zero => exact hrun
  | succ k ih => exact z_fuel1 _ _ _ _ _ _ _ _ ih
def TT (scr : Option (Nat × (Nat → Int32))) (me : ME) (pc : Nat) (lv : LV) (st : List Value) (h : Hp) (r : Option Value) (h' : Hp) : Prop := ∃ n, zRun scr n me pc lv st h = some (r, h')
section
variable {scr : Option (Nat × (Nat → Int32))} {me me' : ME} {pc pc' len : Nat} {lv lv' : LV} {st st' : List Value} {h h2 h' h1 : Hp} {r r1 : Option Value} {ins : Instr} {as rest : List Value}
theorem TT_step (hl : lkp me.2.2.2.2.2.1 pc = some (ins, len)) (hz : zRet me.2.2.2.2.1 ins st = none) (hc : zCall me.1 h ins st = none) (hs : zStep scr me.1 me.2.2.2.1 pc (isIni me) ins len lv st h = some (pc', lv', st', h2)) (k : TT scr me pc' lv' st' h2 r h') : TT scr me pc lv st h r h' := by
  obtain ⟨n, hn⟩ := k
  refine ⟨n + 1, ?_⟩
  rw [zRun, hl]
  dsimp only
  rw [hz]
  dsimp only
  rw [hc]
  dsimp only
  rw [hs]
  exact hn
theorem TT_ret (hl : lkp me.2.2.2.2.2.1 pc = some (ins, len)) (hz : zRet me.2.2.2.2.1 ins st = some r) : TT scr me pc lv st h r h := by
  refine ⟨1, ?_⟩
  rw [zRun, hl]
  dsimp only
  rw [hz]
theorem TT_call (hl : lkp me.2.2.2.2.2.1 pc = some (ins, len)) (hz : zRet me.2.2.2.2.1 ins st = none) (hc : zCall me.1 h ins st = some (me', as, rest)) (k1 : TT none me' 0 (lv_args 0 as) [] h r1 h1) (k2 : TT scr me (pc + 3) lv (r1.toList ++ rest) h1 r h') : TT scr me pc lv st h r h' := by
  obtain ⟨n1, e1⟩ := k1
  obtain ⟨n2, e2⟩ := k2
  refine ⟨n1 + n2 + 1, ?_⟩
  rw [zRun, hl]
  dsimp only
  rw [hz]
  dsimp only
  rw [hc]
  dsimp only
  rw [z_fuel e1]
  dsimp only
  rw [Nat.add_comm n1 n2]
  exact z_fuel e2
end
/-- some plain steps, one behind the other -/
def zGo (scr : Option (Nat × (Nat → Int32))) (me : ME) : Nat → Nat → LV → List Value → Hp → Option Cfg
  | 0, pc, lv, st, h => some (pc, lv, st, h)
  | n + 1, pc, lv, st, h => match lkp me.2.2.2.2.2.1 pc with
    | none => none
    | some (ins, len) => match zRet me.2.2.2.2.1 ins st with
      | some _ => none
      | none => match zCall me.1 h ins st with
        | some _ => none
        | none => match zStep scr me.1 me.2.2.2.1 pc (isIni me) ins len lv st h with
          | some (pc', lv', st', h') => zGo scr me n pc' lv' st' h'
          | none => none
theorem TT_go {scr : Option (Nat × (Nat → Int32))} {me : ME} {h' h2 : Hp} {r : Option Value} (n : Nat) : ∀ {pc pc' : Nat} {lv lv' : LV} {st st' : List Value} {h : Hp}, zGo scr me n pc lv st h = some (pc', lv', st', h2) → TT scr me pc' lv' st' h2 r h' → TT scr me pc lv st h r h' := by
  induction n with
  | zero => intro pc pc' lv lv' st st' h hg k; cases hg; exact k
  | succ n ih =>
    intro pc pc' lv lv' st st' h hg k
    unfold zGo at hg
    split at hg
    next => cases hg
    next ins len hl =>
      split at hg
      next => cases hg
      next hz =>
        split at hg
        next => cases hg
        next hc =>
          split at hg
          next pc1 lv1 st1 h1 hs => exact TT_step hl hz hc hs (ih hg k)
          next => cases hg
end
section
/-! Fewer locals; rules for branches, arrays, divisions (written by wip/whole/gen14.py). -/
def uk (lv : LV) : Prop := ∀ q ∈ lv, lkp lv q.1 = some q.2
def Sub (lv2 lv : LV) : Prop := ∀ i v, lkp lv2 i = some v → lkp lv i = some v
theorem lkp_cons {α : Type} (e : Nat × α) (r : List (Nat × α)) (i : Nat) : lkp (e :: r) i = if e.1 = i then some e.2 else lkp r i := by
  show (bif Nat.beq e.1 i then some e.2 else lkp r i) = _
  by_cases h : e.1 = i
  · rw [if_pos h, h, Nat.beq_refl]; rfl
  · rw [if_neg h]
    have : Nat.beq e.1 i = false := by
      cases hb : Nat.beq e.1 i with
      | true => exact absurd (Nat.eq_of_beq_eq_true hb) h
      | false => rfl
    rw [this]; rfl
theorem lkp_of_mem {lv : LV} {i : Nat} (h : ∃ v, (i, v) ∈ lv) : ∃ v, lkp lv i = some v := by
  induction lv with
  | nil => obtain ⟨v, hv⟩ := h; cases hv
  | cons e r ih =>
    rw [lkp_cons]
    by_cases he : e.1 = i
    · exact ⟨e.2, if_pos he⟩
    · rw [if_neg he]
      obtain ⟨v, hv⟩ := h
      rcases List.mem_cons.mp hv with q | q
      · subst q; exact absurd rfl he
      · exact ih ⟨v, q⟩
theorem lkp_filter {lv : LV} (hu : uk lv) (P : Nat × Value → Bool) {i : Nat} {v : Value} : lkp (lv.filter P) i = some v ↔ lkp lv i = some v ∧ P (i, v) = true := by
  constructor
  · intro h
    have h1 := List.mem_filter.mp (lkp_mem h)
    exact ⟨hu _ h1.1, h1.2⟩
  · rintro ⟨h, hp⟩
    obtain ⟨w, hw⟩ := lkp_of_mem (lv := lv.filter P) (i := i) ⟨v, List.mem_filter.mpr ⟨lkp_mem h, hp⟩⟩
    have h1 := (List.mem_filter.mp (lkp_mem hw)).1
    have h2 := hu _ h1
    dsimp only at h2
    rw [h] at h2
    rw [hw, Option.some.inj h2]
theorem uk_put {lv : LV} (hu : uk lv) (P : Nat × Value → Bool) (i : Nat) (v : Value) (hP : ∀ w, P (i, w) = false) : uk ((i, v) :: lv.filter P) := by
  intro q hq
  rw [lkp_cons]
  rcases List.mem_cons.mp hq with rfl | hq
  · exact if_pos rfl
  · obtain ⟨q1, q2⟩ := List.mem_filter.mp hq
    have hne : ¬ i = q.1 := by
      intro e
      have := hP q.2
      rw [e] at this
      rw [show (q.1, q.2) = q from rfl] at this
      rw [this] at q2
      cases q2
    rw [if_neg hne]
    exact (lkp_filter hu P).mpr ⟨hu q q1, q2⟩
theorem sub_put {lv lv2 : LV} (hu : uk lv) (hu2 : uk lv2) (hs : Sub lv2 lv) (P : Nat × Value → Bool) (i : Nat) (v : Value) : Sub ((i, v) :: lv2.filter P) ((i, v) :: lv.filter P) := by
  intro j w h
  rw [lkp_cons] at h ⊢
  by_cases hij : i = j
  · rw [if_pos hij] at h ⊢; exact h
  · rw [if_neg hij] at h ⊢
    obtain ⟨h1, h2⟩ := (lkp_filter hu2 P).mp h
    exact (lkp_filter hu P).mpr ⟨hs _ _ h1, h2⟩
theorem sub_ldI {lv lv2 : LV} (hs : Sub lv2 lv) {i : Nat} {x : Int32} (h : ldI lv2 i = some x) : ldI lv i = some x := by
  unfold ldI at h ⊢
  split at h
  next y hy => cases h; rw [hs _ _ hy]
  next => cases h
theorem sub_ldL {lv lv2 : LV} (hs : Sub lv2 lv) {i : Nat} {x : Int64} (h : ldL lv2 i = some x) : ldL lv i = some x := by
  unfold ldL at h ⊢
  split at h
  next y hy => cases h; rw [hs _ _ hy]
  next => cases h
theorem sub_ldA {lv lv2 : LV} (hs : Sub lv2 lv) {i : Nat} {x : Nat} (h : ldA lv2 i = some x) : ldA lv i = some x := by
  unfold ldA at h ⊢
  split at h
  next y hy => cases h; rw [hs _ _ hy]
  next => cases h
theorem zb_iconst (i : Int) {scr : Option (Nat × (Nat → Int32))} {own nL pc len : Nat} {ini : Bool} {lv lv2 l2 : LV} {st st' : List Value} {h h2 : Hp} {pc' : Nat} (hs : zStep scr own nL pc ini (.iconst i) len lv2 st h = some (pc', l2, st', h2)) (hu : uk lv) (hu2 : uk lv2) (hsub : Sub lv2 lv) : ∃ l1, zStep scr own nL pc ini (.iconst i) len lv st h = some (pc', l1, st', h2) ∧ uk l1 ∧ uk l2 ∧ Sub l2 l1 := by
  replace hs : (some (pc + 1, lv2, .int (Int32.ofInt i) :: st, h)) = some (pc', l2, st', h2) := hs
  have key : ∀ x : Cfg, (some (pc + 1, lv2, .int (Int32.ofInt i) :: st, h)) = some x → x.2.1 = lv2 ∧ (some (pc + 1, lv, .int (Int32.ofInt i) :: st, h)) = some (x.1, lv, x.2.2.1, x.2.2.2) := by
    clear hs hu hu2 hsub
    intro x hx
    cases hx; exact ⟨rfl, rfl⟩
  obtain ⟨e1, e2⟩ := key _ (show (some (pc + 1, lv2, .int (Int32.ofInt i) :: st, h)) = some (pc', l2, st', h2) by first | exact hs | simpa only [Bool.cond_eq_ite] using hs)
  replace e1 : l2 = lv2 := e1
  subst e1
  exact ⟨lv, e2, hu, hu2, hsub⟩
theorem zb_bipush (i : Int) {scr : Option (Nat × (Nat → Int32))} {own nL pc len : Nat} {ini : Bool} {lv lv2 l2 : LV} {st st' : List Value} {h h2 : Hp} {pc' : Nat} (hs : zStep scr own nL pc ini (.bipush i) len lv2 st h = some (pc', l2, st', h2)) (hu : uk lv) (hu2 : uk lv2) (hsub : Sub lv2 lv) : ∃ l1, zStep scr own nL pc ini (.bipush i) len lv st h = some (pc', l1, st', h2) ∧ uk l1 ∧ uk l2 ∧ Sub l2 l1 := by
  replace hs : (some (pc + 2, lv2, .int (Int8.ofInt i).toInt32 :: st, h)) = some (pc', l2, st', h2) := hs
  have key : ∀ x : Cfg, (some (pc + 2, lv2, .int (Int8.ofInt i).toInt32 :: st, h)) = some x → x.2.1 = lv2 ∧ (some (pc + 2, lv, .int (Int8.ofInt i).toInt32 :: st, h)) = some (x.1, lv, x.2.2.1, x.2.2.2) := by
    clear hs hu hu2 hsub
    intro x hx
    cases hx; exact ⟨rfl, rfl⟩
  obtain ⟨e1, e2⟩ := key _ (show (some (pc + 2, lv2, .int (Int8.ofInt i).toInt32 :: st, h)) = some (pc', l2, st', h2) by first | exact hs | simpa only [Bool.cond_eq_ite] using hs)
  replace e1 : l2 = lv2 := e1
  subst e1
  exact ⟨lv, e2, hu, hu2, hsub⟩
theorem zb_sipush (i : Int) {scr : Option (Nat × (Nat → Int32))} {own nL pc len : Nat} {ini : Bool} {lv lv2 l2 : LV} {st st' : List Value} {h h2 : Hp} {pc' : Nat} (hs : zStep scr own nL pc ini (.sipush i) len lv2 st h = some (pc', l2, st', h2)) (hu : uk lv) (hu2 : uk lv2) (hsub : Sub lv2 lv) : ∃ l1, zStep scr own nL pc ini (.sipush i) len lv st h = some (pc', l1, st', h2) ∧ uk l1 ∧ uk l2 ∧ Sub l2 l1 := by
  replace hs : (some (pc + 3, lv2, .int (Int16.ofInt i).toInt32 :: st, h)) = some (pc', l2, st', h2) := hs
  have key : ∀ x : Cfg, (some (pc + 3, lv2, .int (Int16.ofInt i).toInt32 :: st, h)) = some x → x.2.1 = lv2 ∧ (some (pc + 3, lv, .int (Int16.ofInt i).toInt32 :: st, h)) = some (x.1, lv, x.2.2.1, x.2.2.2) := by
    clear hs hu hu2 hsub
    intro x hx
    cases hx; exact ⟨rfl, rfl⟩
  obtain ⟨e1, e2⟩ := key _ (show (some (pc + 3, lv2, .int (Int16.ofInt i).toInt32 :: st, h)) = some (pc', l2, st', h2) by first | exact hs | simpa only [Bool.cond_eq_ite] using hs)
  replace e1 : l2 = lv2 := e1
  subst e1
  exact ⟨lv, e2, hu, hu2, hsub⟩
theorem zb_lconst (i : Fin 2) {scr : Option (Nat × (Nat → Int32))} {own nL pc len : Nat} {ini : Bool} {lv lv2 l2 : LV} {st st' : List Value} {h h2 : Hp} {pc' : Nat} (hs : zStep scr own nL pc ini (.lconst i) len lv2 st h = some (pc', l2, st', h2)) (hu : uk lv) (hu2 : uk lv2) (hsub : Sub lv2 lv) : ∃ l1, zStep scr own nL pc ini (.lconst i) len lv st h = some (pc', l1, st', h2) ∧ uk l1 ∧ uk l2 ∧ Sub l2 l1 := by
  replace hs : (some (pc + 1, lv2, .long (Int64.ofNat (i : Nat)) :: st, h)) = some (pc', l2, st', h2) := hs
  have key : ∀ x : Cfg, (some (pc + 1, lv2, .long (Int64.ofNat (i : Nat)) :: st, h)) = some x → x.2.1 = lv2 ∧ (some (pc + 1, lv, .long (Int64.ofNat (i : Nat)) :: st, h)) = some (x.1, lv, x.2.2.1, x.2.2.2) := by
    clear hs hu hu2 hsub
    intro x hx
    cases hx; exact ⟨rfl, rfl⟩
  obtain ⟨e1, e2⟩ := key _ (show (some (pc + 1, lv2, .long (Int64.ofNat (i : Nat)) :: st, h)) = some (pc', l2, st', h2) by first | exact hs | simpa only [Bool.cond_eq_ite] using hs)
  replace e1 : l2 = lv2 := e1
  subst e1
  exact ⟨lv, e2, hu, hu2, hsub⟩
theorem zb_ldc (ix : Nat) {scr : Option (Nat × (Nat → Int32))} {own nL pc len : Nat} {ini : Bool} {lv lv2 l2 : LV} {st st' : List Value} {h h2 : Hp} {pc' : Nat} (hs : zStep scr own nL pc ini (.ldc ix) len lv2 st h = some (pc', l2, st', h2)) (hu : uk lv) (hu2 : uk lv2) (hsub : Sub lv2 lv) : ∃ l1, zStep scr own nL pc ini (.ldc ix) len lv st h = some (pc', l1, st', h2) ∧ uk l1 ∧ uk l2 ∧ Sub l2 l1 := by
  replace hs : ((match (generalizing := false) lkp (poolOf own) ix with
    | some (9, _, _, v) => some (pc + 2, lv2, .int (Int32.ofInt v) :: st, h)
    | _ => none)) = some (pc', l2, st', h2) := hs
  have key : ∀ x : Cfg, ((match (generalizing := false) lkp (poolOf own) ix with
    | some (9, _, _, v) => some (pc + 2, lv2, .int (Int32.ofInt v) :: st, h)
    | _ => none)) = some x → x.2.1 = lv2 ∧ ((match (generalizing := false) lkp (poolOf own) ix with
    | some (9, _, _, v) => some (pc + 2, lv, .int (Int32.ofInt v) :: st, h)
    | _ => none)) = some (x.1, lv, x.2.2.1, x.2.2.2) := by
    clear hs hu hu2 hsub
    intro x hx
    repeat' split at hx
    all_goals first | (cases hx; done) | (cases hx; exact ⟨rfl, rfl⟩) | (cases hx; refine ⟨rfl, ?_⟩; simp_all; done) | (cases hx; refine ⟨rfl, ?_⟩; simp_all; (intro hh; first | omega | exact absurd hh (Int32.not_lt.mpr (by assumption))))
  obtain ⟨e1, e2⟩ := key _ (show ((match (generalizing := false) lkp (poolOf own) ix with
    | some (9, _, _, v) => some (pc + 2, lv2, .int (Int32.ofInt v) :: st, h)
    | _ => none)) = some (pc', l2, st', h2) by first | exact hs | simpa only [Bool.cond_eq_ite] using hs)
  replace e1 : l2 = lv2 := e1
  subst e1
  exact ⟨lv, e2, hu, hu2, hsub⟩
theorem zb_ldc_w (ix : Nat) {scr : Option (Nat × (Nat → Int32))} {own nL pc len : Nat} {ini : Bool} {lv lv2 l2 : LV} {st st' : List Value} {h h2 : Hp} {pc' : Nat} (hs : zStep scr own nL pc ini (.ldc_w ix) len lv2 st h = some (pc', l2, st', h2)) (hu : uk lv) (hu2 : uk lv2) (hsub : Sub lv2 lv) : ∃ l1, zStep scr own nL pc ini (.ldc_w ix) len lv st h = some (pc', l1, st', h2) ∧ uk l1 ∧ uk l2 ∧ Sub l2 l1 := by
  replace hs : ((match (generalizing := false) lkp (poolOf own) ix with
    | some (9, _, _, v) => some (pc + 3, lv2, .int (Int32.ofInt v) :: st, h)
    | _ => none)) = some (pc', l2, st', h2) := hs
  have key : ∀ x : Cfg, ((match (generalizing := false) lkp (poolOf own) ix with
    | some (9, _, _, v) => some (pc + 3, lv2, .int (Int32.ofInt v) :: st, h)
    | _ => none)) = some x → x.2.1 = lv2 ∧ ((match (generalizing := false) lkp (poolOf own) ix with
    | some (9, _, _, v) => some (pc + 3, lv, .int (Int32.ofInt v) :: st, h)
    | _ => none)) = some (x.1, lv, x.2.2.1, x.2.2.2) := by
    clear hs hu hu2 hsub
    intro x hx
    repeat' split at hx
    all_goals first | (cases hx; done) | (cases hx; exact ⟨rfl, rfl⟩) | (cases hx; refine ⟨rfl, ?_⟩; simp_all; done) | (cases hx; refine ⟨rfl, ?_⟩; simp_all; (intro hh; first | omega | exact absurd hh (Int32.not_lt.mpr (by assumption))))
  obtain ⟨e1, e2⟩ := key _ (show ((match (generalizing := false) lkp (poolOf own) ix with
    | some (9, _, _, v) => some (pc + 3, lv2, .int (Int32.ofInt v) :: st, h)
    | _ => none)) = some (pc', l2, st', h2) by first | exact hs | simpa only [Bool.cond_eq_ite] using hs)
  replace e1 : l2 = lv2 := e1
  subst e1
  exact ⟨lv, e2, hu, hu2, hsub⟩
theorem zb_ldc2_w (ix : Nat) {scr : Option (Nat × (Nat → Int32))} {own nL pc len : Nat} {ini : Bool} {lv lv2 l2 : LV} {st st' : List Value} {h h2 : Hp} {pc' : Nat} (hs : zStep scr own nL pc ini (.ldc2_w ix) len lv2 st h = some (pc', l2, st', h2)) (hu : uk lv) (hu2 : uk lv2) (hsub : Sub lv2 lv) : ∃ l1, zStep scr own nL pc ini (.ldc2_w ix) len lv st h = some (pc', l1, st', h2) ∧ uk l1 ∧ uk l2 ∧ Sub l2 l1 := by
  replace hs : ((match (generalizing := false) lkp (poolOf own) ix with
    | some (10, _, _, v) => some (pc + 3, lv2, .long (Int64.ofInt v) :: st, h)
    | _ => none)) = some (pc', l2, st', h2) := hs
  have key : ∀ x : Cfg, ((match (generalizing := false) lkp (poolOf own) ix with
    | some (10, _, _, v) => some (pc + 3, lv2, .long (Int64.ofInt v) :: st, h)
    | _ => none)) = some x → x.2.1 = lv2 ∧ ((match (generalizing := false) lkp (poolOf own) ix with
    | some (10, _, _, v) => some (pc + 3, lv, .long (Int64.ofInt v) :: st, h)
    | _ => none)) = some (x.1, lv, x.2.2.1, x.2.2.2) := by
    clear hs hu hu2 hsub
    intro x hx
    repeat' split at hx
    all_goals first | (cases hx; done) | (cases hx; exact ⟨rfl, rfl⟩) | (cases hx; refine ⟨rfl, ?_⟩; simp_all; done) | (cases hx; refine ⟨rfl, ?_⟩; simp_all; (intro hh; first | omega | exact absurd hh (Int32.not_lt.mpr (by assumption))))
  obtain ⟨e1, e2⟩ := key _ (show ((match (generalizing := false) lkp (poolOf own) ix with
    | some (10, _, _, v) => some (pc + 3, lv2, .long (Int64.ofInt v) :: st, h)
    | _ => none)) = some (pc', l2, st', h2) by first | exact hs | simpa only [Bool.cond_eq_ite] using hs)
  replace e1 : l2 = lv2 := e1
  subst e1
  exact ⟨lv, e2, hu, hu2, hsub⟩
theorem zb_iload_n (i : Fin 4) {scr : Option (Nat × (Nat → Int32))} {own nL pc len : Nat} {ini : Bool} {lv lv2 l2 : LV} {st st' : List Value} {h h2 : Hp} {pc' : Nat} (hs : zStep scr own nL pc ini (.iload_n i) len lv2 st h = some (pc', l2, st', h2)) (hu : uk lv) (hu2 : uk lv2) (hsub : Sub lv2 lv) : ∃ l1, zStep scr own nL pc ini (.iload_n i) len lv st h = some (pc', l1, st', h2) ∧ uk l1 ∧ uk l2 ∧ Sub l2 l1 := by
  replace hs : ((match (generalizing := false) ldI lv2 i with
    | some x => some (pc + 1, lv2, .int x :: st, h)
    | none => none)) = some (pc', l2, st', h2) := hs
  split at hs
  next x hv =>
    cases hs
    refine ⟨lv, ?_, hu, hu2, hsub⟩
    show (((match (generalizing := false) ldI lv i with
    | some x => some (pc + 1, lv, .int x :: st, h)
    | none => none)) : Option Cfg) = _
    rw [sub_ldI hsub hv]
  next => cases hs
theorem zb_iload (i : Nat) {scr : Option (Nat × (Nat → Int32))} {own nL pc len : Nat} {ini : Bool} {lv lv2 l2 : LV} {st st' : List Value} {h h2 : Hp} {pc' : Nat} (hs : zStep scr own nL pc ini (.iload i) len lv2 st h = some (pc', l2, st', h2)) (hu : uk lv) (hu2 : uk lv2) (hsub : Sub lv2 lv) : ∃ l1, zStep scr own nL pc ini (.iload i) len lv st h = some (pc', l1, st', h2) ∧ uk l1 ∧ uk l2 ∧ Sub l2 l1 := by
  replace hs : ((match (generalizing := false) ldI lv2 i with
    | some x => some (pc + 2, lv2, .int x :: st, h)
    | none => none)) = some (pc', l2, st', h2) := hs
  split at hs
  next x hv =>
    cases hs
    refine ⟨lv, ?_, hu, hu2, hsub⟩
    show (((match (generalizing := false) ldI lv i with
    | some x => some (pc + 2, lv, .int x :: st, h)
    | none => none)) : Option Cfg) = _
    rw [sub_ldI hsub hv]
  next => cases hs
theorem zb_lload_n (i : Fin 4) {scr : Option (Nat × (Nat → Int32))} {own nL pc len : Nat} {ini : Bool} {lv lv2 l2 : LV} {st st' : List Value} {h h2 : Hp} {pc' : Nat} (hs : zStep scr own nL pc ini (.lload_n i) len lv2 st h = some (pc', l2, st', h2)) (hu : uk lv) (hu2 : uk lv2) (hsub : Sub lv2 lv) : ∃ l1, zStep scr own nL pc ini (.lload_n i) len lv st h = some (pc', l1, st', h2) ∧ uk l1 ∧ uk l2 ∧ Sub l2 l1 := by
  replace hs : ((match (generalizing := false) ldL lv2 i with
    | some x => some (pc + 1, lv2, .long x :: st, h)
    | none => none)) = some (pc', l2, st', h2) := hs
  split at hs
  next x hv =>
    cases hs
    refine ⟨lv, ?_, hu, hu2, hsub⟩
    show (((match (generalizing := false) ldL lv i with
    | some x => some (pc + 1, lv, .long x :: st, h)
    | none => none)) : Option Cfg) = _
    rw [sub_ldL hsub hv]
  next => cases hs
theorem zb_lload (i : Nat) {scr : Option (Nat × (Nat → Int32))} {own nL pc len : Nat} {ini : Bool} {lv lv2 l2 : LV} {st st' : List Value} {h h2 : Hp} {pc' : Nat} (hs : zStep scr own nL pc ini (.lload i) len lv2 st h = some (pc', l2, st', h2)) (hu : uk lv) (hu2 : uk lv2) (hsub : Sub lv2 lv) : ∃ l1, zStep scr own nL pc ini (.lload i) len lv st h = some (pc', l1, st', h2) ∧ uk l1 ∧ uk l2 ∧ Sub l2 l1 := by
  replace hs : ((match (generalizing := false) ldL lv2 i with
    | some x => some (pc + 2, lv2, .long x :: st, h)
    | none => none)) = some (pc', l2, st', h2) := hs
  split at hs
  next x hv =>
    cases hs
    refine ⟨lv, ?_, hu, hu2, hsub⟩
    show (((match (generalizing := false) ldL lv i with
    | some x => some (pc + 2, lv, .long x :: st, h)
    | none => none)) : Option Cfg) = _
    rw [sub_ldL hsub hv]
  next => cases hs
theorem zb_aload_n (i : Fin 4) {scr : Option (Nat × (Nat → Int32))} {own nL pc len : Nat} {ini : Bool} {lv lv2 l2 : LV} {st st' : List Value} {h h2 : Hp} {pc' : Nat} (hs : zStep scr own nL pc ini (.aload_n i) len lv2 st h = some (pc', l2, st', h2)) (hu : uk lv) (hu2 : uk lv2) (hsub : Sub lv2 lv) : ∃ l1, zStep scr own nL pc ini (.aload_n i) len lv st h = some (pc', l1, st', h2) ∧ uk l1 ∧ uk l2 ∧ Sub l2 l1 := by
  replace hs : ((match (generalizing := false) ldA lv2 i with
    | some x => some (pc + 1, lv2, .ref x :: st, h)
    | none => none)) = some (pc', l2, st', h2) := hs
  split at hs
  next x hv =>
    cases hs
    refine ⟨lv, ?_, hu, hu2, hsub⟩
    show (((match (generalizing := false) ldA lv i with
    | some x => some (pc + 1, lv, .ref x :: st, h)
    | none => none)) : Option Cfg) = _
    rw [sub_ldA hsub hv]
  next => cases hs
theorem zb_aload (i : Nat) {scr : Option (Nat × (Nat → Int32))} {own nL pc len : Nat} {ini : Bool} {lv lv2 l2 : LV} {st st' : List Value} {h h2 : Hp} {pc' : Nat} (hs : zStep scr own nL pc ini (.aload i) len lv2 st h = some (pc', l2, st', h2)) (hu : uk lv) (hu2 : uk lv2) (hsub : Sub lv2 lv) : ∃ l1, zStep scr own nL pc ini (.aload i) len lv st h = some (pc', l1, st', h2) ∧ uk l1 ∧ uk l2 ∧ Sub l2 l1 := by
  replace hs : ((match (generalizing := false) ldA lv2 i with
    | some x => some (pc + 2, lv2, .ref x :: st, h)
    | none => none)) = some (pc', l2, st', h2) := hs
  split at hs
  next x hv =>
    cases hs
    refine ⟨lv, ?_, hu, hu2, hsub⟩
    show (((match (generalizing := false) ldA lv i with
    | some x => some (pc + 2, lv, .ref x :: st, h)
    | none => none)) : Option Cfg) = _
    rw [sub_ldA hsub hv]
  next => cases hs
theorem zb_istore_n (i : Fin 4) {scr : Option (Nat × (Nat → Int32))} {own nL pc len : Nat} {ini : Bool} {lv lv2 l2 : LV} {st st' : List Value} {h h2 : Hp} {pc' : Nat} (hs : zStep scr own nL pc ini (.istore_n i) len lv2 st h = some (pc', l2, st', h2)) (hu : uk lv) (hu2 : uk lv2) (hsub : Sub lv2 lv) : ∃ l1, zStep scr own nL pc ini (.istore_n i) len lv st h = some (pc', l1, st', h2) ∧ uk l1 ∧ uk l2 ∧ Sub l2 l1 := by
  replace hs : ((match (generalizing := false) st with
    | .int x :: r => bif Nat.blt i nL then some (pc + 1, lvPut lv2 i (.int x), r, h) else none
    | _ => none)) = some (pc', l2, st', h2) := hs
  split at hs
  next x r =>
    cases hb1 : Nat.blt (i : Nat) nL with
    | false => rw [hb1] at hs; cases hs
    | true =>
      rw [hb1] at hs
      cases hs
      refine ⟨lvPut lv (i : Nat) (.int x), ?_, uk_put hu _ _ _ (fun w => by simp), uk_put hu2 _ _ _ (fun w => by simp), sub_put hu hu2 hsub _ _ _⟩
      show (bif Nat.blt (i : Nat) nL then _ else none) = _
      rw [hb1]
      rfl
  next => cases hs
theorem zb_istore (i : Nat) {scr : Option (Nat × (Nat → Int32))} {own nL pc len : Nat} {ini : Bool} {lv lv2 l2 : LV} {st st' : List Value} {h h2 : Hp} {pc' : Nat} (hs : zStep scr own nL pc ini (.istore i) len lv2 st h = some (pc', l2, st', h2)) (hu : uk lv) (hu2 : uk lv2) (hsub : Sub lv2 lv) : ∃ l1, zStep scr own nL pc ini (.istore i) len lv st h = some (pc', l1, st', h2) ∧ uk l1 ∧ uk l2 ∧ Sub l2 l1 := by
  replace hs : ((match (generalizing := false) st with
    | .int x :: r => bif Nat.blt i nL then some (pc + 2, lvPut lv2 i (.int x), r, h) else none
    | _ => none)) = some (pc', l2, st', h2) := hs
  split at hs
  next x r =>
    cases hb1 : Nat.blt i nL with
    | false => rw [hb1] at hs; cases hs
    | true =>
      rw [hb1] at hs
      cases hs
      refine ⟨lvPut lv i (.int x), ?_, uk_put hu _ _ _ (fun w => by simp), uk_put hu2 _ _ _ (fun w => by simp), sub_put hu hu2 hsub _ _ _⟩
      show (bif Nat.blt i nL then _ else none) = _
      rw [hb1]
      rfl
  next => cases hs
theorem zb_lstore_n (i : Fin 4) {scr : Option (Nat × (Nat → Int32))} {own nL pc len : Nat} {ini : Bool} {lv lv2 l2 : LV} {st st' : List Value} {h h2 : Hp} {pc' : Nat} (hs : zStep scr own nL pc ini (.lstore_n i) len lv2 st h = some (pc', l2, st', h2)) (hu : uk lv) (hu2 : uk lv2) (hsub : Sub lv2 lv) : ∃ l1, zStep scr own nL pc ini (.lstore_n i) len lv st h = some (pc', l1, st', h2) ∧ uk l1 ∧ uk l2 ∧ Sub l2 l1 := by
  replace hs : ((match (generalizing := false) st with
    | .long x :: r => bif Nat.blt (i + 1) nL then some (pc + 1, lvPut2 lv2 i (.long x), r, h) else none
    | _ => none)) = some (pc', l2, st', h2) := hs
  split at hs
  next x r =>
    cases hb1 : Nat.blt ((i : Nat) + 1) nL with
    | false => rw [hb1] at hs; cases hs
    | true =>
      rw [hb1] at hs
      cases hs
      refine ⟨lvPut2 lv (i : Nat) (.long x), ?_, uk_put hu _ _ _ (fun w => by simp), uk_put hu2 _ _ _ (fun w => by simp), sub_put hu hu2 hsub _ _ _⟩
      show (bif Nat.blt ((i : Nat) + 1) nL then _ else none) = _
      rw [hb1]
      rfl
  next => cases hs
theorem zb_lstore (i : Nat) {scr : Option (Nat × (Nat → Int32))} {own nL pc len : Nat} {ini : Bool} {lv lv2 l2 : LV} {st st' : List Value} {h h2 : Hp} {pc' : Nat} (hs : zStep scr own nL pc ini (.lstore i) len lv2 st h = some (pc', l2, st', h2)) (hu : uk lv) (hu2 : uk lv2) (hsub : Sub lv2 lv) : ∃ l1, zStep scr own nL pc ini (.lstore i) len lv st h = some (pc', l1, st', h2) ∧ uk l1 ∧ uk l2 ∧ Sub l2 l1 := by
  replace hs : ((match (generalizing := false) st with
    | .long x :: r => bif Nat.blt (i + 1) nL then some (pc + 2, lvPut2 lv2 i (.long x), r, h) else none
    | _ => none)) = some (pc', l2, st', h2) := hs
  split at hs
  next x r =>
    cases hb1 : Nat.blt (i + 1) nL with
    | false => rw [hb1] at hs; cases hs
    | true =>
      rw [hb1] at hs
      cases hs
      refine ⟨lvPut2 lv i (.long x), ?_, uk_put hu _ _ _ (fun w => by simp), uk_put hu2 _ _ _ (fun w => by simp), sub_put hu hu2 hsub _ _ _⟩
      show (bif Nat.blt (i + 1) nL then _ else none) = _
      rw [hb1]
      rfl
  next => cases hs
theorem zb_astore_n (i : Fin 4) {scr : Option (Nat × (Nat → Int32))} {own nL pc len : Nat} {ini : Bool} {lv lv2 l2 : LV} {st st' : List Value} {h h2 : Hp} {pc' : Nat} (hs : zStep scr own nL pc ini (.astore_n i) len lv2 st h = some (pc', l2, st', h2)) (hu : uk lv) (hu2 : uk lv2) (hsub : Sub lv2 lv) : ∃ l1, zStep scr own nL pc ini (.astore_n i) len lv st h = some (pc', l1, st', h2) ∧ uk l1 ∧ uk l2 ∧ Sub l2 l1 := by
  replace hs : ((match (generalizing := false) st with
    | .ref x :: r => bif Nat.blt i nL then some (pc + 1, lvPut lv2 i (.ref x), r, h) else none
    | _ => none)) = some (pc', l2, st', h2) := hs
  split at hs
  next x r =>
    cases hb1 : Nat.blt (i : Nat) nL with
    | false => rw [hb1] at hs; cases hs
    | true =>
      rw [hb1] at hs
      cases hs
      refine ⟨lvPut lv (i : Nat) (.ref x), ?_, uk_put hu _ _ _ (fun w => by simp), uk_put hu2 _ _ _ (fun w => by simp), sub_put hu hu2 hsub _ _ _⟩
      show (bif Nat.blt (i : Nat) nL then _ else none) = _
      rw [hb1]
      rfl
  next => cases hs
theorem zb_astore (i : Nat) {scr : Option (Nat × (Nat → Int32))} {own nL pc len : Nat} {ini : Bool} {lv lv2 l2 : LV} {st st' : List Value} {h h2 : Hp} {pc' : Nat} (hs : zStep scr own nL pc ini (.astore i) len lv2 st h = some (pc', l2, st', h2)) (hu : uk lv) (hu2 : uk lv2) (hsub : Sub lv2 lv) : ∃ l1, zStep scr own nL pc ini (.astore i) len lv st h = some (pc', l1, st', h2) ∧ uk l1 ∧ uk l2 ∧ Sub l2 l1 := by
  replace hs : ((match (generalizing := false) st with
    | .ref x :: r => bif Nat.blt i nL then some (pc + 2, lvPut lv2 i (.ref x), r, h) else none
    | _ => none)) = some (pc', l2, st', h2) := hs
  split at hs
  next x r =>
    cases hb1 : Nat.blt i nL with
    | false => rw [hb1] at hs; cases hs
    | true =>
      rw [hb1] at hs
      cases hs
      refine ⟨lvPut lv i (.ref x), ?_, uk_put hu _ _ _ (fun w => by simp), uk_put hu2 _ _ _ (fun w => by simp), sub_put hu hu2 hsub _ _ _⟩
      show (bif Nat.blt i nL then _ else none) = _
      rw [hb1]
      rfl
  next => cases hs
theorem zb_iinc (i : Nat) (n : Int) {scr : Option (Nat × (Nat → Int32))} {own nL pc len : Nat} {ini : Bool} {lv lv2 l2 : LV} {st st' : List Value} {h h2 : Hp} {pc' : Nat} (hs : zStep scr own nL pc ini (.iinc i n) len lv2 st h = some (pc', l2, st', h2)) (hu : uk lv) (hu2 : uk lv2) (hsub : Sub lv2 lv) : ∃ l1, zStep scr own nL pc ini (.iinc i n) len lv st h = some (pc', l1, st', h2) ∧ uk l1 ∧ uk l2 ∧ Sub l2 l1 := by
  replace hs : ((match (generalizing := false) ldI lv2 i with
    | some x => bif Nat.blt i nL then some (pc + 3, lvPut lv2 i (.int (x + Int32.ofInt n)), st, h) else none
    | none => none)) = some (pc', l2, st', h2) := hs
  split at hs
  next x hv =>
    cases hb1 : Nat.blt i nL with
    | false => rw [hb1] at hs; cases hs
    | true =>
      rw [hb1] at hs
      cases hs
      refine ⟨lvPut lv i (.int (x + Int32.ofInt n)), ?_, uk_put hu _ _ _ (fun w => by simp), uk_put hu2 _ _ _ (fun w => by simp), sub_put hu hu2 hsub _ _ _⟩
      show (((match (generalizing := false) ldI lv i with
    | some x => bif Nat.blt i nL then some (pc + 3, lvPut lv i (.int (x + Int32.ofInt n)), st, h) else none
    | none => none)) : Option Cfg) = _
      rw [sub_ldI hsub hv]
      dsimp only
      rw [hb1]
      rfl
  next => cases hs
theorem zb_dup  {scr : Option (Nat × (Nat → Int32))} {own nL pc len : Nat} {ini : Bool} {lv lv2 l2 : LV} {st st' : List Value} {h h2 : Hp} {pc' : Nat} (hs : zStep scr own nL pc ini (.dup) len lv2 st h = some (pc', l2, st', h2)) (hu : uk lv) (hu2 : uk lv2) (hsub : Sub lv2 lv) : ∃ l1, zStep scr own nL pc ini (.dup) len lv st h = some (pc', l1, st', h2) ∧ uk l1 ∧ uk l2 ∧ Sub l2 l1 := by
  replace hs : ((match (generalizing := false) st with
    | v :: r => bif Nat.beq v.category 1 then some (pc + 1, lv2, v :: v :: r, h) else none
    | _ => none)) = some (pc', l2, st', h2) := hs
  simp only [Bool.cond_eq_ite] at hs
  have key : ∀ x : Cfg, ((match (generalizing := false) st with
    | v :: r => bif Nat.beq v.category 1 then some (pc + 1, lv2, v :: v :: r, h) else none
    | _ => none)) = some x → x.2.1 = lv2 ∧ ((match (generalizing := false) st with
    | v :: r => bif Nat.beq v.category 1 then some (pc + 1, lv, v :: v :: r, h) else none
    | _ => none)) = some (x.1, lv, x.2.2.1, x.2.2.2) := by
    clear hs hu hu2 hsub
    intro x hx
    simp only [Bool.cond_eq_ite] at hx ⊢
    repeat' split at hx
    all_goals first | (cases hx; done) | (cases hx; exact ⟨rfl, rfl⟩) | (cases hx; refine ⟨rfl, ?_⟩; simp_all; done) | (cases hx; refine ⟨rfl, ?_⟩; simp_all; (intro hh; first | omega | exact absurd hh (Int32.not_lt.mpr (by assumption))))
  simp only [← Bool.cond_eq_ite] at hs
  obtain ⟨e1, e2⟩ := key _ (show ((match (generalizing := false) st with
    | v :: r => bif Nat.beq v.category 1 then some (pc + 1, lv2, v :: v :: r, h) else none
    | _ => none)) = some (pc', l2, st', h2) by first | exact hs | simpa only [Bool.cond_eq_ite] using hs)
  replace e1 : l2 = lv2 := e1
  subst e1
  exact ⟨lv, e2, hu, hu2, hsub⟩
theorem zb_dup2  {scr : Option (Nat × (Nat → Int32))} {own nL pc len : Nat} {ini : Bool} {lv lv2 l2 : LV} {st st' : List Value} {h h2 : Hp} {pc' : Nat} (hs : zStep scr own nL pc ini (.dup2) len lv2 st h = some (pc', l2, st', h2)) (hu : uk lv) (hu2 : uk lv2) (hsub : Sub lv2 lv) : ∃ l1, zStep scr own nL pc ini (.dup2) len lv st h = some (pc', l1, st', h2) ∧ uk l1 ∧ uk l2 ∧ Sub l2 l1 := by
  replace hs : ((match (generalizing := false) st with
    | v :: w :: r => bif Nat.beq v.category 1 && Nat.beq w.category 1 then some (pc + 1, lv2, v :: w :: v :: w :: r, h) else none
    | _ => none)) = some (pc', l2, st', h2) := hs
  simp only [Bool.cond_eq_ite] at hs
  have key : ∀ x : Cfg, ((match (generalizing := false) st with
    | v :: w :: r => bif Nat.beq v.category 1 && Nat.beq w.category 1 then some (pc + 1, lv2, v :: w :: v :: w :: r, h) else none
    | _ => none)) = some x → x.2.1 = lv2 ∧ ((match (generalizing := false) st with
    | v :: w :: r => bif Nat.beq v.category 1 && Nat.beq w.category 1 then some (pc + 1, lv, v :: w :: v :: w :: r, h) else none
    | _ => none)) = some (x.1, lv, x.2.2.1, x.2.2.2) := by
    clear hs hu hu2 hsub
    intro x hx
    simp only [Bool.cond_eq_ite] at hx ⊢
    repeat' split at hx
    all_goals first | (cases hx; done) | (cases hx; exact ⟨rfl, rfl⟩) | (cases hx; refine ⟨rfl, ?_⟩; simp_all; done) | (cases hx; refine ⟨rfl, ?_⟩; simp_all; (intro hh; first | omega | exact absurd hh (Int32.not_lt.mpr (by assumption))))
  simp only [← Bool.cond_eq_ite] at hs
  obtain ⟨e1, e2⟩ := key _ (show ((match (generalizing := false) st with
    | v :: w :: r => bif Nat.beq v.category 1 && Nat.beq w.category 1 then some (pc + 1, lv2, v :: w :: v :: w :: r, h) else none
    | _ => none)) = some (pc', l2, st', h2) by first | exact hs | simpa only [Bool.cond_eq_ite] using hs)
  replace e1 : l2 = lv2 := e1
  subst e1
  exact ⟨lv, e2, hu, hu2, hsub⟩
theorem zb_pop  {scr : Option (Nat × (Nat → Int32))} {own nL pc len : Nat} {ini : Bool} {lv lv2 l2 : LV} {st st' : List Value} {h h2 : Hp} {pc' : Nat} (hs : zStep scr own nL pc ini (.pop) len lv2 st h = some (pc', l2, st', h2)) (hu : uk lv) (hu2 : uk lv2) (hsub : Sub lv2 lv) : ∃ l1, zStep scr own nL pc ini (.pop) len lv st h = some (pc', l1, st', h2) ∧ uk l1 ∧ uk l2 ∧ Sub l2 l1 := by
  replace hs : ((match (generalizing := false) st with
    | v :: r => bif Nat.beq v.category 1 then some (pc + 1, lv2, r, h) else none
    | _ => none)) = some (pc', l2, st', h2) := hs
  simp only [Bool.cond_eq_ite] at hs
  have key : ∀ x : Cfg, ((match (generalizing := false) st with
    | v :: r => bif Nat.beq v.category 1 then some (pc + 1, lv2, r, h) else none
    | _ => none)) = some x → x.2.1 = lv2 ∧ ((match (generalizing := false) st with
    | v :: r => bif Nat.beq v.category 1 then some (pc + 1, lv, r, h) else none
    | _ => none)) = some (x.1, lv, x.2.2.1, x.2.2.2) := by
    clear hs hu hu2 hsub
    intro x hx
    simp only [Bool.cond_eq_ite] at hx ⊢
    repeat' split at hx
    all_goals first | (cases hx; done) | (cases hx; exact ⟨rfl, rfl⟩) | (cases hx; refine ⟨rfl, ?_⟩; simp_all; done) | (cases hx; refine ⟨rfl, ?_⟩; simp_all; (intro hh; first | omega | exact absurd hh (Int32.not_lt.mpr (by assumption))))
  simp only [← Bool.cond_eq_ite] at hs
  obtain ⟨e1, e2⟩ := key _ (show ((match (generalizing := false) st with
    | v :: r => bif Nat.beq v.category 1 then some (pc + 1, lv2, r, h) else none
    | _ => none)) = some (pc', l2, st', h2) by first | exact hs | simpa only [Bool.cond_eq_ite] using hs)
  replace e1 : l2 = lv2 := e1
  subst e1
  exact ⟨lv, e2, hu, hu2, hsub⟩
theorem zb_iadd  {scr : Option (Nat × (Nat → Int32))} {own nL pc len : Nat} {ini : Bool} {lv lv2 l2 : LV} {st st' : List Value} {h h2 : Hp} {pc' : Nat} (hs : zStep scr own nL pc ini (.iadd) len lv2 st h = some (pc', l2, st', h2)) (hu : uk lv) (hu2 : uk lv2) (hsub : Sub lv2 lv) : ∃ l1, zStep scr own nL pc ini (.iadd) len lv st h = some (pc', l1, st', h2) ∧ uk l1 ∧ uk l2 ∧ Sub l2 l1 := by
  replace hs : ((match (generalizing := false) st with
    | .int y :: .int x :: r => some (pc + 1, lv2, .int (x + y) :: r, h)
    | _ => none)) = some (pc', l2, st', h2) := hs
  have key : ∀ x : Cfg, ((match (generalizing := false) st with
    | .int y :: .int x :: r => some (pc + 1, lv2, .int (x + y) :: r, h)
    | _ => none)) = some x → x.2.1 = lv2 ∧ ((match (generalizing := false) st with
    | .int y :: .int x :: r => some (pc + 1, lv, .int (x + y) :: r, h)
    | _ => none)) = some (x.1, lv, x.2.2.1, x.2.2.2) := by
    clear hs hu hu2 hsub
    intro x hx
    repeat' split at hx
    all_goals first | (cases hx; done) | (cases hx; exact ⟨rfl, rfl⟩) | (cases hx; refine ⟨rfl, ?_⟩; simp_all; done) | (cases hx; refine ⟨rfl, ?_⟩; simp_all; (intro hh; first | omega | exact absurd hh (Int32.not_lt.mpr (by assumption))))
  obtain ⟨e1, e2⟩ := key _ (show ((match (generalizing := false) st with
    | .int y :: .int x :: r => some (pc + 1, lv2, .int (x + y) :: r, h)
    | _ => none)) = some (pc', l2, st', h2) by first | exact hs | simpa only [Bool.cond_eq_ite] using hs)
  replace e1 : l2 = lv2 := e1
  subst e1
  exact ⟨lv, e2, hu, hu2, hsub⟩
theorem zb_isub  {scr : Option (Nat × (Nat → Int32))} {own nL pc len : Nat} {ini : Bool} {lv lv2 l2 : LV} {st st' : List Value} {h h2 : Hp} {pc' : Nat} (hs : zStep scr own nL pc ini (.isub) len lv2 st h = some (pc', l2, st', h2)) (hu : uk lv) (hu2 : uk lv2) (hsub : Sub lv2 lv) : ∃ l1, zStep scr own nL pc ini (.isub) len lv st h = some (pc', l1, st', h2) ∧ uk l1 ∧ uk l2 ∧ Sub l2 l1 := by
  replace hs : ((match (generalizing := false) st with
    | .int y :: .int x :: r => some (pc + 1, lv2, .int (x - y) :: r, h)
    | _ => none)) = some (pc', l2, st', h2) := hs
  have key : ∀ x : Cfg, ((match (generalizing := false) st with
    | .int y :: .int x :: r => some (pc + 1, lv2, .int (x - y) :: r, h)
    | _ => none)) = some x → x.2.1 = lv2 ∧ ((match (generalizing := false) st with
    | .int y :: .int x :: r => some (pc + 1, lv, .int (x - y) :: r, h)
    | _ => none)) = some (x.1, lv, x.2.2.1, x.2.2.2) := by
    clear hs hu hu2 hsub
    intro x hx
    repeat' split at hx
    all_goals first | (cases hx; done) | (cases hx; exact ⟨rfl, rfl⟩) | (cases hx; refine ⟨rfl, ?_⟩; simp_all; done) | (cases hx; refine ⟨rfl, ?_⟩; simp_all; (intro hh; first | omega | exact absurd hh (Int32.not_lt.mpr (by assumption))))
  obtain ⟨e1, e2⟩ := key _ (show ((match (generalizing := false) st with
    | .int y :: .int x :: r => some (pc + 1, lv2, .int (x - y) :: r, h)
    | _ => none)) = some (pc', l2, st', h2) by first | exact hs | simpa only [Bool.cond_eq_ite] using hs)
  replace e1 : l2 = lv2 := e1
  subst e1
  exact ⟨lv, e2, hu, hu2, hsub⟩
theorem zb_imul  {scr : Option (Nat × (Nat → Int32))} {own nL pc len : Nat} {ini : Bool} {lv lv2 l2 : LV} {st st' : List Value} {h h2 : Hp} {pc' : Nat} (hs : zStep scr own nL pc ini (.imul) len lv2 st h = some (pc', l2, st', h2)) (hu : uk lv) (hu2 : uk lv2) (hsub : Sub lv2 lv) : ∃ l1, zStep scr own nL pc ini (.imul) len lv st h = some (pc', l1, st', h2) ∧ uk l1 ∧ uk l2 ∧ Sub l2 l1 := by
  replace hs : ((match (generalizing := false) st with
    | .int y :: .int x :: r => some (pc + 1, lv2, .int (x * y) :: r, h)
    | _ => none)) = some (pc', l2, st', h2) := hs
  have key : ∀ x : Cfg, ((match (generalizing := false) st with
    | .int y :: .int x :: r => some (pc + 1, lv2, .int (x * y) :: r, h)
    | _ => none)) = some x → x.2.1 = lv2 ∧ ((match (generalizing := false) st with
    | .int y :: .int x :: r => some (pc + 1, lv, .int (x * y) :: r, h)
    | _ => none)) = some (x.1, lv, x.2.2.1, x.2.2.2) := by
    clear hs hu hu2 hsub
    intro x hx
    repeat' split at hx
    all_goals first | (cases hx; done) | (cases hx; exact ⟨rfl, rfl⟩) | (cases hx; refine ⟨rfl, ?_⟩; simp_all; done) | (cases hx; refine ⟨rfl, ?_⟩; simp_all; (intro hh; first | omega | exact absurd hh (Int32.not_lt.mpr (by assumption))))
  obtain ⟨e1, e2⟩ := key _ (show ((match (generalizing := false) st with
    | .int y :: .int x :: r => some (pc + 1, lv2, .int (x * y) :: r, h)
    | _ => none)) = some (pc', l2, st', h2) by first | exact hs | simpa only [Bool.cond_eq_ite] using hs)
  replace e1 : l2 = lv2 := e1
  subst e1
  exact ⟨lv, e2, hu, hu2, hsub⟩
theorem zb_idiv  {scr : Option (Nat × (Nat → Int32))} {own nL pc len : Nat} {ini : Bool} {lv lv2 l2 : LV} {st st' : List Value} {h h2 : Hp} {pc' : Nat} (hs : zStep scr own nL pc ini (.idiv) len lv2 st h = some (pc', l2, st', h2)) (hu : uk lv) (hu2 : uk lv2) (hsub : Sub lv2 lv) : ∃ l1, zStep scr own nL pc ini (.idiv) len lv st h = some (pc', l1, st', h2) ∧ uk l1 ∧ uk l2 ∧ Sub l2 l1 := by
  replace hs : ((match (generalizing := false) st with
    | .int y :: .int x :: r => if y = 0 then none else some (pc + 1, lv2, .int (x / y) :: r, h)
    | _ => none)) = some (pc', l2, st', h2) := hs
  have key : ∀ x : Cfg, ((match (generalizing := false) st with
    | .int y :: .int x :: r => if y = 0 then none else some (pc + 1, lv2, .int (x / y) :: r, h)
    | _ => none)) = some x → x.2.1 = lv2 ∧ ((match (generalizing := false) st with
    | .int y :: .int x :: r => if y = 0 then none else some (pc + 1, lv, .int (x / y) :: r, h)
    | _ => none)) = some (x.1, lv, x.2.2.1, x.2.2.2) := by
    clear hs hu hu2 hsub
    intro x hx
    repeat' split at hx
    all_goals first | (cases hx; done) | (cases hx; exact ⟨rfl, rfl⟩) | (cases hx; refine ⟨rfl, ?_⟩; simp_all; done) | (cases hx; refine ⟨rfl, ?_⟩; simp_all; (intro hh; first | omega | exact absurd hh (Int32.not_lt.mpr (by assumption))))
  obtain ⟨e1, e2⟩ := key _ (show ((match (generalizing := false) st with
    | .int y :: .int x :: r => if y = 0 then none else some (pc + 1, lv2, .int (x / y) :: r, h)
    | _ => none)) = some (pc', l2, st', h2) by first | exact hs | simpa only [Bool.cond_eq_ite] using hs)
  replace e1 : l2 = lv2 := e1
  subst e1
  exact ⟨lv, e2, hu, hu2, hsub⟩
theorem zb_irem  {scr : Option (Nat × (Nat → Int32))} {own nL pc len : Nat} {ini : Bool} {lv lv2 l2 : LV} {st st' : List Value} {h h2 : Hp} {pc' : Nat} (hs : zStep scr own nL pc ini (.irem) len lv2 st h = some (pc', l2, st', h2)) (hu : uk lv) (hu2 : uk lv2) (hsub : Sub lv2 lv) : ∃ l1, zStep scr own nL pc ini (.irem) len lv st h = some (pc', l1, st', h2) ∧ uk l1 ∧ uk l2 ∧ Sub l2 l1 := by
  replace hs : ((match (generalizing := false) st with
    | .int y :: .int x :: r => if y = 0 then none else some (pc + 1, lv2, .int (x - x / y * y) :: r, h)
    | _ => none)) = some (pc', l2, st', h2) := hs
  have key : ∀ x : Cfg, ((match (generalizing := false) st with
    | .int y :: .int x :: r => if y = 0 then none else some (pc + 1, lv2, .int (x - x / y * y) :: r, h)
    | _ => none)) = some x → x.2.1 = lv2 ∧ ((match (generalizing := false) st with
    | .int y :: .int x :: r => if y = 0 then none else some (pc + 1, lv, .int (x - x / y * y) :: r, h)
    | _ => none)) = some (x.1, lv, x.2.2.1, x.2.2.2) := by
    clear hs hu hu2 hsub
    intro x hx
    repeat' split at hx
    all_goals first | (cases hx; done) | (cases hx; exact ⟨rfl, rfl⟩) | (cases hx; refine ⟨rfl, ?_⟩; simp_all; done) | (cases hx; refine ⟨rfl, ?_⟩; simp_all; (intro hh; first | omega | exact absurd hh (Int32.not_lt.mpr (by assumption))))
  obtain ⟨e1, e2⟩ := key _ (show ((match (generalizing := false) st with
    | .int y :: .int x :: r => if y = 0 then none else some (pc + 1, lv2, .int (x - x / y * y) :: r, h)
    | _ => none)) = some (pc', l2, st', h2) by first | exact hs | simpa only [Bool.cond_eq_ite] using hs)
  replace e1 : l2 = lv2 := e1
  subst e1
  exact ⟨lv, e2, hu, hu2, hsub⟩
theorem zb_ineg  {scr : Option (Nat × (Nat → Int32))} {own nL pc len : Nat} {ini : Bool} {lv lv2 l2 : LV} {st st' : List Value} {h h2 : Hp} {pc' : Nat} (hs : zStep scr own nL pc ini (.ineg) len lv2 st h = some (pc', l2, st', h2)) (hu : uk lv) (hu2 : uk lv2) (hsub : Sub lv2 lv) : ∃ l1, zStep scr own nL pc ini (.ineg) len lv st h = some (pc', l1, st', h2) ∧ uk l1 ∧ uk l2 ∧ Sub l2 l1 := by
  replace hs : ((match (generalizing := false) st with
    | .int x :: r => some (pc + 1, lv2, .int (-x) :: r, h)
    | _ => none)) = some (pc', l2, st', h2) := hs
  have key : ∀ x : Cfg, ((match (generalizing := false) st with
    | .int x :: r => some (pc + 1, lv2, .int (-x) :: r, h)
    | _ => none)) = some x → x.2.1 = lv2 ∧ ((match (generalizing := false) st with
    | .int x :: r => some (pc + 1, lv, .int (-x) :: r, h)
    | _ => none)) = some (x.1, lv, x.2.2.1, x.2.2.2) := by
    clear hs hu hu2 hsub
    intro x hx
    repeat' split at hx
    all_goals first | (cases hx; done) | (cases hx; exact ⟨rfl, rfl⟩) | (cases hx; refine ⟨rfl, ?_⟩; simp_all; done) | (cases hx; refine ⟨rfl, ?_⟩; simp_all; (intro hh; first | omega | exact absurd hh (Int32.not_lt.mpr (by assumption))))
  obtain ⟨e1, e2⟩ := key _ (show ((match (generalizing := false) st with
    | .int x :: r => some (pc + 1, lv2, .int (-x) :: r, h)
    | _ => none)) = some (pc', l2, st', h2) by first | exact hs | simpa only [Bool.cond_eq_ite] using hs)
  replace e1 : l2 = lv2 := e1
  subst e1
  exact ⟨lv, e2, hu, hu2, hsub⟩
theorem zb_ishl  {scr : Option (Nat × (Nat → Int32))} {own nL pc len : Nat} {ini : Bool} {lv lv2 l2 : LV} {st st' : List Value} {h h2 : Hp} {pc' : Nat} (hs : zStep scr own nL pc ini (.ishl) len lv2 st h = some (pc', l2, st', h2)) (hu : uk lv) (hu2 : uk lv2) (hsub : Sub lv2 lv) : ∃ l1, zStep scr own nL pc ini (.ishl) len lv st h = some (pc', l1, st', h2) ∧ uk l1 ∧ uk l2 ∧ Sub l2 l1 := by
  replace hs : ((match (generalizing := false) st with
    | .int y :: .int x :: r => some (pc + 1, lv2, .int (x <<< (y &&& 31)) :: r, h)
    | _ => none)) = some (pc', l2, st', h2) := hs
  have key : ∀ x : Cfg, ((match (generalizing := false) st with
    | .int y :: .int x :: r => some (pc + 1, lv2, .int (x <<< (y &&& 31)) :: r, h)
    | _ => none)) = some x → x.2.1 = lv2 ∧ ((match (generalizing := false) st with
    | .int y :: .int x :: r => some (pc + 1, lv, .int (x <<< (y &&& 31)) :: r, h)
    | _ => none)) = some (x.1, lv, x.2.2.1, x.2.2.2) := by
    clear hs hu hu2 hsub
    intro x hx
    repeat' split at hx
    all_goals first | (cases hx; done) | (cases hx; exact ⟨rfl, rfl⟩) | (cases hx; refine ⟨rfl, ?_⟩; simp_all; done) | (cases hx; refine ⟨rfl, ?_⟩; simp_all; (intro hh; first | omega | exact absurd hh (Int32.not_lt.mpr (by assumption))))
  obtain ⟨e1, e2⟩ := key _ (show ((match (generalizing := false) st with
    | .int y :: .int x :: r => some (pc + 1, lv2, .int (x <<< (y &&& 31)) :: r, h)
    | _ => none)) = some (pc', l2, st', h2) by first | exact hs | simpa only [Bool.cond_eq_ite] using hs)
  replace e1 : l2 = lv2 := e1
  subst e1
  exact ⟨lv, e2, hu, hu2, hsub⟩
theorem zb_ishr  {scr : Option (Nat × (Nat → Int32))} {own nL pc len : Nat} {ini : Bool} {lv lv2 l2 : LV} {st st' : List Value} {h h2 : Hp} {pc' : Nat} (hs : zStep scr own nL pc ini (.ishr) len lv2 st h = some (pc', l2, st', h2)) (hu : uk lv) (hu2 : uk lv2) (hsub : Sub lv2 lv) : ∃ l1, zStep scr own nL pc ini (.ishr) len lv st h = some (pc', l1, st', h2) ∧ uk l1 ∧ uk l2 ∧ Sub l2 l1 := by
  replace hs : ((match (generalizing := false) st with
    | .int y :: .int x :: r => some (pc + 1, lv2, .int (x >>> (y &&& 31)) :: r, h)
    | _ => none)) = some (pc', l2, st', h2) := hs
  have key : ∀ x : Cfg, ((match (generalizing := false) st with
    | .int y :: .int x :: r => some (pc + 1, lv2, .int (x >>> (y &&& 31)) :: r, h)
    | _ => none)) = some x → x.2.1 = lv2 ∧ ((match (generalizing := false) st with
    | .int y :: .int x :: r => some (pc + 1, lv, .int (x >>> (y &&& 31)) :: r, h)
    | _ => none)) = some (x.1, lv, x.2.2.1, x.2.2.2) := by
    clear hs hu hu2 hsub
    intro x hx
    repeat' split at hx
    all_goals first | (cases hx; done) | (cases hx; exact ⟨rfl, rfl⟩) | (cases hx; refine ⟨rfl, ?_⟩; simp_all; done) | (cases hx; refine ⟨rfl, ?_⟩; simp_all; (intro hh; first | omega | exact absurd hh (Int32.not_lt.mpr (by assumption))))
  obtain ⟨e1, e2⟩ := key _ (show ((match (generalizing := false) st with
    | .int y :: .int x :: r => some (pc + 1, lv2, .int (x >>> (y &&& 31)) :: r, h)
    | _ => none)) = some (pc', l2, st', h2) by first | exact hs | simpa only [Bool.cond_eq_ite] using hs)
  replace e1 : l2 = lv2 := e1
  subst e1
  exact ⟨lv, e2, hu, hu2, hsub⟩
theorem zb_iushr  {scr : Option (Nat × (Nat → Int32))} {own nL pc len : Nat} {ini : Bool} {lv lv2 l2 : LV} {st st' : List Value} {h h2 : Hp} {pc' : Nat} (hs : zStep scr own nL pc ini (.iushr) len lv2 st h = some (pc', l2, st', h2)) (hu : uk lv) (hu2 : uk lv2) (hsub : Sub lv2 lv) : ∃ l1, zStep scr own nL pc ini (.iushr) len lv st h = some (pc', l1, st', h2) ∧ uk l1 ∧ uk l2 ∧ Sub l2 l1 := by
  replace hs : ((match (generalizing := false) st with
    | .int y :: .int x :: r => some (pc + 1, lv2, .int (x.toUInt32 >>> (y.toUInt32 &&& Int32.toUInt32 31)).toInt32 :: r, h)
    | _ => none)) = some (pc', l2, st', h2) := hs
  have key : ∀ x : Cfg, ((match (generalizing := false) st with
    | .int y :: .int x :: r => some (pc + 1, lv2, .int (x.toUInt32 >>> (y.toUInt32 &&& Int32.toUInt32 31)).toInt32 :: r, h)
    | _ => none)) = some x → x.2.1 = lv2 ∧ ((match (generalizing := false) st with
    | .int y :: .int x :: r => some (pc + 1, lv, .int (x.toUInt32 >>> (y.toUInt32 &&& Int32.toUInt32 31)).toInt32 :: r, h)
    | _ => none)) = some (x.1, lv, x.2.2.1, x.2.2.2) := by
    clear hs hu hu2 hsub
    intro x hx
    repeat' split at hx
    all_goals first | (cases hx; done) | (cases hx; exact ⟨rfl, rfl⟩) | (cases hx; refine ⟨rfl, ?_⟩; simp_all; done) | (cases hx; refine ⟨rfl, ?_⟩; simp_all; (intro hh; first | omega | exact absurd hh (Int32.not_lt.mpr (by assumption))))
  obtain ⟨e1, e2⟩ := key _ (show ((match (generalizing := false) st with
    | .int y :: .int x :: r => some (pc + 1, lv2, .int (x.toUInt32 >>> (y.toUInt32 &&& Int32.toUInt32 31)).toInt32 :: r, h)
    | _ => none)) = some (pc', l2, st', h2) by first | exact hs | simpa only [Bool.cond_eq_ite] using hs)
  replace e1 : l2 = lv2 := e1
  subst e1
  exact ⟨lv, e2, hu, hu2, hsub⟩
theorem zb_iand  {scr : Option (Nat × (Nat → Int32))} {own nL pc len : Nat} {ini : Bool} {lv lv2 l2 : LV} {st st' : List Value} {h h2 : Hp} {pc' : Nat} (hs : zStep scr own nL pc ini (.iand) len lv2 st h = some (pc', l2, st', h2)) (hu : uk lv) (hu2 : uk lv2) (hsub : Sub lv2 lv) : ∃ l1, zStep scr own nL pc ini (.iand) len lv st h = some (pc', l1, st', h2) ∧ uk l1 ∧ uk l2 ∧ Sub l2 l1 := by
  replace hs : ((match (generalizing := false) st with
    | .int y :: .int x :: r => some (pc + 1, lv2, .int (x &&& y) :: r, h)
    | _ => none)) = some (pc', l2, st', h2) := hs
  have key : ∀ x : Cfg, ((match (generalizing := false) st with
    | .int y :: .int x :: r => some (pc + 1, lv2, .int (x &&& y) :: r, h)
    | _ => none)) = some x → x.2.1 = lv2 ∧ ((match (generalizing := false) st with
    | .int y :: .int x :: r => some (pc + 1, lv, .int (x &&& y) :: r, h)
    | _ => none)) = some (x.1, lv, x.2.2.1, x.2.2.2) := by
    clear hs hu hu2 hsub
    intro x hx
    repeat' split at hx
    all_goals first | (cases hx; done) | (cases hx; exact ⟨rfl, rfl⟩) | (cases hx; refine ⟨rfl, ?_⟩; simp_all; done) | (cases hx; refine ⟨rfl, ?_⟩; simp_all; (intro hh; first | omega | exact absurd hh (Int32.not_lt.mpr (by assumption))))
  obtain ⟨e1, e2⟩ := key _ (show ((match (generalizing := false) st with
    | .int y :: .int x :: r => some (pc + 1, lv2, .int (x &&& y) :: r, h)
    | _ => none)) = some (pc', l2, st', h2) by first | exact hs | simpa only [Bool.cond_eq_ite] using hs)
  replace e1 : l2 = lv2 := e1
  subst e1
  exact ⟨lv, e2, hu, hu2, hsub⟩
theorem zb_ior  {scr : Option (Nat × (Nat → Int32))} {own nL pc len : Nat} {ini : Bool} {lv lv2 l2 : LV} {st st' : List Value} {h h2 : Hp} {pc' : Nat} (hs : zStep scr own nL pc ini (.ior) len lv2 st h = some (pc', l2, st', h2)) (hu : uk lv) (hu2 : uk lv2) (hsub : Sub lv2 lv) : ∃ l1, zStep scr own nL pc ini (.ior) len lv st h = some (pc', l1, st', h2) ∧ uk l1 ∧ uk l2 ∧ Sub l2 l1 := by
  replace hs : ((match (generalizing := false) st with
    | .int y :: .int x :: r => some (pc + 1, lv2, .int (x ||| y) :: r, h)
    | _ => none)) = some (pc', l2, st', h2) := hs
  have key : ∀ x : Cfg, ((match (generalizing := false) st with
    | .int y :: .int x :: r => some (pc + 1, lv2, .int (x ||| y) :: r, h)
    | _ => none)) = some x → x.2.1 = lv2 ∧ ((match (generalizing := false) st with
    | .int y :: .int x :: r => some (pc + 1, lv, .int (x ||| y) :: r, h)
    | _ => none)) = some (x.1, lv, x.2.2.1, x.2.2.2) := by
    clear hs hu hu2 hsub
    intro x hx
    repeat' split at hx
    all_goals first | (cases hx; done) | (cases hx; exact ⟨rfl, rfl⟩) | (cases hx; refine ⟨rfl, ?_⟩; simp_all; done) | (cases hx; refine ⟨rfl, ?_⟩; simp_all; (intro hh; first | omega | exact absurd hh (Int32.not_lt.mpr (by assumption))))
  obtain ⟨e1, e2⟩ := key _ (show ((match (generalizing := false) st with
    | .int y :: .int x :: r => some (pc + 1, lv2, .int (x ||| y) :: r, h)
    | _ => none)) = some (pc', l2, st', h2) by first | exact hs | simpa only [Bool.cond_eq_ite] using hs)
  replace e1 : l2 = lv2 := e1
  subst e1
  exact ⟨lv, e2, hu, hu2, hsub⟩
theorem zb_ixor  {scr : Option (Nat × (Nat → Int32))} {own nL pc len : Nat} {ini : Bool} {lv lv2 l2 : LV} {st st' : List Value} {h h2 : Hp} {pc' : Nat} (hs : zStep scr own nL pc ini (.ixor) len lv2 st h = some (pc', l2, st', h2)) (hu : uk lv) (hu2 : uk lv2) (hsub : Sub lv2 lv) : ∃ l1, zStep scr own nL pc ini (.ixor) len lv st h = some (pc', l1, st', h2) ∧ uk l1 ∧ uk l2 ∧ Sub l2 l1 := by
  replace hs : ((match (generalizing := false) st with
    | .int y :: .int x :: r => some (pc + 1, lv2, .int (x ^^^ y) :: r, h)
    | _ => none)) = some (pc', l2, st', h2) := hs
  have key : ∀ x : Cfg, ((match (generalizing := false) st with
    | .int y :: .int x :: r => some (pc + 1, lv2, .int (x ^^^ y) :: r, h)
    | _ => none)) = some x → x.2.1 = lv2 ∧ ((match (generalizing := false) st with
    | .int y :: .int x :: r => some (pc + 1, lv, .int (x ^^^ y) :: r, h)
    | _ => none)) = some (x.1, lv, x.2.2.1, x.2.2.2) := by
    clear hs hu hu2 hsub
    intro x hx
    repeat' split at hx
    all_goals first | (cases hx; done) | (cases hx; exact ⟨rfl, rfl⟩) | (cases hx; refine ⟨rfl, ?_⟩; simp_all; done) | (cases hx; refine ⟨rfl, ?_⟩; simp_all; (intro hh; first | omega | exact absurd hh (Int32.not_lt.mpr (by assumption))))
  obtain ⟨e1, e2⟩ := key _ (show ((match (generalizing := false) st with
    | .int y :: .int x :: r => some (pc + 1, lv2, .int (x ^^^ y) :: r, h)
    | _ => none)) = some (pc', l2, st', h2) by first | exact hs | simpa only [Bool.cond_eq_ite] using hs)
  replace e1 : l2 = lv2 := e1
  subst e1
  exact ⟨lv, e2, hu, hu2, hsub⟩
theorem zb_i2l  {scr : Option (Nat × (Nat → Int32))} {own nL pc len : Nat} {ini : Bool} {lv lv2 l2 : LV} {st st' : List Value} {h h2 : Hp} {pc' : Nat} (hs : zStep scr own nL pc ini (.i2l) len lv2 st h = some (pc', l2, st', h2)) (hu : uk lv) (hu2 : uk lv2) (hsub : Sub lv2 lv) : ∃ l1, zStep scr own nL pc ini (.i2l) len lv st h = some (pc', l1, st', h2) ∧ uk l1 ∧ uk l2 ∧ Sub l2 l1 := by
  replace hs : ((match (generalizing := false) st with
    | .int x :: r => some (pc + 1, lv2, .long x.toInt64 :: r, h)
    | _ => none)) = some (pc', l2, st', h2) := hs
  have key : ∀ x : Cfg, ((match (generalizing := false) st with
    | .int x :: r => some (pc + 1, lv2, .long x.toInt64 :: r, h)
    | _ => none)) = some x → x.2.1 = lv2 ∧ ((match (generalizing := false) st with
    | .int x :: r => some (pc + 1, lv, .long x.toInt64 :: r, h)
    | _ => none)) = some (x.1, lv, x.2.2.1, x.2.2.2) := by
    clear hs hu hu2 hsub
    intro x hx
    repeat' split at hx
    all_goals first | (cases hx; done) | (cases hx; exact ⟨rfl, rfl⟩) | (cases hx; refine ⟨rfl, ?_⟩; simp_all; done) | (cases hx; refine ⟨rfl, ?_⟩; simp_all; (intro hh; first | omega | exact absurd hh (Int32.not_lt.mpr (by assumption))))
  obtain ⟨e1, e2⟩ := key _ (show ((match (generalizing := false) st with
    | .int x :: r => some (pc + 1, lv2, .long x.toInt64 :: r, h)
    | _ => none)) = some (pc', l2, st', h2) by first | exact hs | simpa only [Bool.cond_eq_ite] using hs)
  replace e1 : l2 = lv2 := e1
  subst e1
  exact ⟨lv, e2, hu, hu2, hsub⟩
theorem zb_i2b  {scr : Option (Nat × (Nat → Int32))} {own nL pc len : Nat} {ini : Bool} {lv lv2 l2 : LV} {st st' : List Value} {h h2 : Hp} {pc' : Nat} (hs : zStep scr own nL pc ini (.i2b) len lv2 st h = some (pc', l2, st', h2)) (hu : uk lv) (hu2 : uk lv2) (hsub : Sub lv2 lv) : ∃ l1, zStep scr own nL pc ini (.i2b) len lv st h = some (pc', l1, st', h2) ∧ uk l1 ∧ uk l2 ∧ Sub l2 l1 := by
  replace hs : ((match (generalizing := false) st with
    | .int x :: r => some (pc + 1, lv2, .int x.toInt8.toInt32 :: r, h)
    | _ => none)) = some (pc', l2, st', h2) := hs
  have key : ∀ x : Cfg, ((match (generalizing := false) st with
    | .int x :: r => some (pc + 1, lv2, .int x.toInt8.toInt32 :: r, h)
    | _ => none)) = some x → x.2.1 = lv2 ∧ ((match (generalizing := false) st with
    | .int x :: r => some (pc + 1, lv, .int x.toInt8.toInt32 :: r, h)
    | _ => none)) = some (x.1, lv, x.2.2.1, x.2.2.2) := by
    clear hs hu hu2 hsub
    intro x hx
    repeat' split at hx
    all_goals first | (cases hx; done) | (cases hx; exact ⟨rfl, rfl⟩) | (cases hx; refine ⟨rfl, ?_⟩; simp_all; done) | (cases hx; refine ⟨rfl, ?_⟩; simp_all; (intro hh; first | omega | exact absurd hh (Int32.not_lt.mpr (by assumption))))
  obtain ⟨e1, e2⟩ := key _ (show ((match (generalizing := false) st with
    | .int x :: r => some (pc + 1, lv2, .int x.toInt8.toInt32 :: r, h)
    | _ => none)) = some (pc', l2, st', h2) by first | exact hs | simpa only [Bool.cond_eq_ite] using hs)
  replace e1 : l2 = lv2 := e1
  subst e1
  exact ⟨lv, e2, hu, hu2, hsub⟩
theorem zb_l2i  {scr : Option (Nat × (Nat → Int32))} {own nL pc len : Nat} {ini : Bool} {lv lv2 l2 : LV} {st st' : List Value} {h h2 : Hp} {pc' : Nat} (hs : zStep scr own nL pc ini (.l2i) len lv2 st h = some (pc', l2, st', h2)) (hu : uk lv) (hu2 : uk lv2) (hsub : Sub lv2 lv) : ∃ l1, zStep scr own nL pc ini (.l2i) len lv st h = some (pc', l1, st', h2) ∧ uk l1 ∧ uk l2 ∧ Sub l2 l1 := by
  replace hs : ((match (generalizing := false) st with
    | .long x :: r => some (pc + 1, lv2, .int x.toInt32 :: r, h)
    | _ => none)) = some (pc', l2, st', h2) := hs
  have key : ∀ x : Cfg, ((match (generalizing := false) st with
    | .long x :: r => some (pc + 1, lv2, .int x.toInt32 :: r, h)
    | _ => none)) = some x → x.2.1 = lv2 ∧ ((match (generalizing := false) st with
    | .long x :: r => some (pc + 1, lv, .int x.toInt32 :: r, h)
    | _ => none)) = some (x.1, lv, x.2.2.1, x.2.2.2) := by
    clear hs hu hu2 hsub
    intro x hx
    repeat' split at hx
    all_goals first | (cases hx; done) | (cases hx; exact ⟨rfl, rfl⟩) | (cases hx; refine ⟨rfl, ?_⟩; simp_all; done) | (cases hx; refine ⟨rfl, ?_⟩; simp_all; (intro hh; first | omega | exact absurd hh (Int32.not_lt.mpr (by assumption))))
  obtain ⟨e1, e2⟩ := key _ (show ((match (generalizing := false) st with
    | .long x :: r => some (pc + 1, lv2, .int x.toInt32 :: r, h)
    | _ => none)) = some (pc', l2, st', h2) by first | exact hs | simpa only [Bool.cond_eq_ite] using hs)
  replace e1 : l2 = lv2 := e1
  subst e1
  exact ⟨lv, e2, hu, hu2, hsub⟩
theorem zb_ladd  {scr : Option (Nat × (Nat → Int32))} {own nL pc len : Nat} {ini : Bool} {lv lv2 l2 : LV} {st st' : List Value} {h h2 : Hp} {pc' : Nat} (hs : zStep scr own nL pc ini (.ladd) len lv2 st h = some (pc', l2, st', h2)) (hu : uk lv) (hu2 : uk lv2) (hsub : Sub lv2 lv) : ∃ l1, zStep scr own nL pc ini (.ladd) len lv st h = some (pc', l1, st', h2) ∧ uk l1 ∧ uk l2 ∧ Sub l2 l1 := by
  replace hs : ((match (generalizing := false) st with
    | .long y :: .long x :: r => some (pc + 1, lv2, .long (x + y) :: r, h)
    | _ => none)) = some (pc', l2, st', h2) := hs
  have key : ∀ x : Cfg, ((match (generalizing := false) st with
    | .long y :: .long x :: r => some (pc + 1, lv2, .long (x + y) :: r, h)
    | _ => none)) = some x → x.2.1 = lv2 ∧ ((match (generalizing := false) st with
    | .long y :: .long x :: r => some (pc + 1, lv, .long (x + y) :: r, h)
    | _ => none)) = some (x.1, lv, x.2.2.1, x.2.2.2) := by
    clear hs hu hu2 hsub
    intro x hx
    repeat' split at hx
    all_goals first | (cases hx; done) | (cases hx; exact ⟨rfl, rfl⟩) | (cases hx; refine ⟨rfl, ?_⟩; simp_all; done) | (cases hx; refine ⟨rfl, ?_⟩; simp_all; (intro hh; first | omega | exact absurd hh (Int32.not_lt.mpr (by assumption))))
  obtain ⟨e1, e2⟩ := key _ (show ((match (generalizing := false) st with
    | .long y :: .long x :: r => some (pc + 1, lv2, .long (x + y) :: r, h)
    | _ => none)) = some (pc', l2, st', h2) by first | exact hs | simpa only [Bool.cond_eq_ite] using hs)
  replace e1 : l2 = lv2 := e1
  subst e1
  exact ⟨lv, e2, hu, hu2, hsub⟩
theorem zb_lsub  {scr : Option (Nat × (Nat → Int32))} {own nL pc len : Nat} {ini : Bool} {lv lv2 l2 : LV} {st st' : List Value} {h h2 : Hp} {pc' : Nat} (hs : zStep scr own nL pc ini (.lsub) len lv2 st h = some (pc', l2, st', h2)) (hu : uk lv) (hu2 : uk lv2) (hsub : Sub lv2 lv) : ∃ l1, zStep scr own nL pc ini (.lsub) len lv st h = some (pc', l1, st', h2) ∧ uk l1 ∧ uk l2 ∧ Sub l2 l1 := by
  replace hs : ((match (generalizing := false) st with
    | .long y :: .long x :: r => some (pc + 1, lv2, .long (x - y) :: r, h)
    | _ => none)) = some (pc', l2, st', h2) := hs
  have key : ∀ x : Cfg, ((match (generalizing := false) st with
    | .long y :: .long x :: r => some (pc + 1, lv2, .long (x - y) :: r, h)
    | _ => none)) = some x → x.2.1 = lv2 ∧ ((match (generalizing := false) st with
    | .long y :: .long x :: r => some (pc + 1, lv, .long (x - y) :: r, h)
    | _ => none)) = some (x.1, lv, x.2.2.1, x.2.2.2) := by
    clear hs hu hu2 hsub
    intro x hx
    repeat' split at hx
    all_goals first | (cases hx; done) | (cases hx; exact ⟨rfl, rfl⟩) | (cases hx; refine ⟨rfl, ?_⟩; simp_all; done) | (cases hx; refine ⟨rfl, ?_⟩; simp_all; (intro hh; first | omega | exact absurd hh (Int32.not_lt.mpr (by assumption))))
  obtain ⟨e1, e2⟩ := key _ (show ((match (generalizing := false) st with
    | .long y :: .long x :: r => some (pc + 1, lv2, .long (x - y) :: r, h)
    | _ => none)) = some (pc', l2, st', h2) by first | exact hs | simpa only [Bool.cond_eq_ite] using hs)
  replace e1 : l2 = lv2 := e1
  subst e1
  exact ⟨lv, e2, hu, hu2, hsub⟩
theorem zb_lmul  {scr : Option (Nat × (Nat → Int32))} {own nL pc len : Nat} {ini : Bool} {lv lv2 l2 : LV} {st st' : List Value} {h h2 : Hp} {pc' : Nat} (hs : zStep scr own nL pc ini (.lmul) len lv2 st h = some (pc', l2, st', h2)) (hu : uk lv) (hu2 : uk lv2) (hsub : Sub lv2 lv) : ∃ l1, zStep scr own nL pc ini (.lmul) len lv st h = some (pc', l1, st', h2) ∧ uk l1 ∧ uk l2 ∧ Sub l2 l1 := by
  replace hs : ((match (generalizing := false) st with
    | .long y :: .long x :: r => some (pc + 1, lv2, .long (x * y) :: r, h)
    | _ => none)) = some (pc', l2, st', h2) := hs
  have key : ∀ x : Cfg, ((match (generalizing := false) st with
    | .long y :: .long x :: r => some (pc + 1, lv2, .long (x * y) :: r, h)
    | _ => none)) = some x → x.2.1 = lv2 ∧ ((match (generalizing := false) st with
    | .long y :: .long x :: r => some (pc + 1, lv, .long (x * y) :: r, h)
    | _ => none)) = some (x.1, lv, x.2.2.1, x.2.2.2) := by
    clear hs hu hu2 hsub
    intro x hx
    repeat' split at hx
    all_goals first | (cases hx; done) | (cases hx; exact ⟨rfl, rfl⟩) | (cases hx; refine ⟨rfl, ?_⟩; simp_all; done) | (cases hx; refine ⟨rfl, ?_⟩; simp_all; (intro hh; first | omega | exact absurd hh (Int32.not_lt.mpr (by assumption))))
  obtain ⟨e1, e2⟩ := key _ (show ((match (generalizing := false) st with
    | .long y :: .long x :: r => some (pc + 1, lv2, .long (x * y) :: r, h)
    | _ => none)) = some (pc', l2, st', h2) by first | exact hs | simpa only [Bool.cond_eq_ite] using hs)
  replace e1 : l2 = lv2 := e1
  subst e1
  exact ⟨lv, e2, hu, hu2, hsub⟩
theorem zb_ldiv  {scr : Option (Nat × (Nat → Int32))} {own nL pc len : Nat} {ini : Bool} {lv lv2 l2 : LV} {st st' : List Value} {h h2 : Hp} {pc' : Nat} (hs : zStep scr own nL pc ini (.ldiv) len lv2 st h = some (pc', l2, st', h2)) (hu : uk lv) (hu2 : uk lv2) (hsub : Sub lv2 lv) : ∃ l1, zStep scr own nL pc ini (.ldiv) len lv st h = some (pc', l1, st', h2) ∧ uk l1 ∧ uk l2 ∧ Sub l2 l1 := by
  replace hs : ((match (generalizing := false) st with
    | .long y :: .long x :: r => if y = 0 then none else some (pc + 1, lv2, .long (x / y) :: r, h)
    | _ => none)) = some (pc', l2, st', h2) := hs
  have key : ∀ x : Cfg, ((match (generalizing := false) st with
    | .long y :: .long x :: r => if y = 0 then none else some (pc + 1, lv2, .long (x / y) :: r, h)
    | _ => none)) = some x → x.2.1 = lv2 ∧ ((match (generalizing := false) st with
    | .long y :: .long x :: r => if y = 0 then none else some (pc + 1, lv, .long (x / y) :: r, h)
    | _ => none)) = some (x.1, lv, x.2.2.1, x.2.2.2) := by
    clear hs hu hu2 hsub
    intro x hx
    repeat' split at hx
    all_goals first | (cases hx; done) | (cases hx; exact ⟨rfl, rfl⟩) | (cases hx; refine ⟨rfl, ?_⟩; simp_all; done) | (cases hx; refine ⟨rfl, ?_⟩; simp_all; (intro hh; first | omega | exact absurd hh (Int32.not_lt.mpr (by assumption))))
  obtain ⟨e1, e2⟩ := key _ (show ((match (generalizing := false) st with
    | .long y :: .long x :: r => if y = 0 then none else some (pc + 1, lv2, .long (x / y) :: r, h)
    | _ => none)) = some (pc', l2, st', h2) by first | exact hs | simpa only [Bool.cond_eq_ite] using hs)
  replace e1 : l2 = lv2 := e1
  subst e1
  exact ⟨lv, e2, hu, hu2, hsub⟩
theorem zb_lrem  {scr : Option (Nat × (Nat → Int32))} {own nL pc len : Nat} {ini : Bool} {lv lv2 l2 : LV} {st st' : List Value} {h h2 : Hp} {pc' : Nat} (hs : zStep scr own nL pc ini (.lrem) len lv2 st h = some (pc', l2, st', h2)) (hu : uk lv) (hu2 : uk lv2) (hsub : Sub lv2 lv) : ∃ l1, zStep scr own nL pc ini (.lrem) len lv st h = some (pc', l1, st', h2) ∧ uk l1 ∧ uk l2 ∧ Sub l2 l1 := by
  replace hs : ((match (generalizing := false) st with
    | .long y :: .long x :: r => if y = 0 then none else some (pc + 1, lv2, .long (x - x / y * y) :: r, h)
    | _ => none)) = some (pc', l2, st', h2) := hs
  have key : ∀ x : Cfg, ((match (generalizing := false) st with
    | .long y :: .long x :: r => if y = 0 then none else some (pc + 1, lv2, .long (x - x / y * y) :: r, h)
    | _ => none)) = some x → x.2.1 = lv2 ∧ ((match (generalizing := false) st with
    | .long y :: .long x :: r => if y = 0 then none else some (pc + 1, lv, .long (x - x / y * y) :: r, h)
    | _ => none)) = some (x.1, lv, x.2.2.1, x.2.2.2) := by
    clear hs hu hu2 hsub
    intro x hx
    repeat' split at hx
    all_goals first | (cases hx; done) | (cases hx; exact ⟨rfl, rfl⟩) | (cases hx; refine ⟨rfl, ?_⟩; simp_all; done) | (cases hx; refine ⟨rfl, ?_⟩; simp_all; (intro hh; first | omega | exact absurd hh (Int32.not_lt.mpr (by assumption))))
  obtain ⟨e1, e2⟩ := key _ (show ((match (generalizing := false) st with
    | .long y :: .long x :: r => if y = 0 then none else some (pc + 1, lv2, .long (x - x / y * y) :: r, h)
    | _ => none)) = some (pc', l2, st', h2) by first | exact hs | simpa only [Bool.cond_eq_ite] using hs)
  replace e1 : l2 = lv2 := e1
  subst e1
  exact ⟨lv, e2, hu, hu2, hsub⟩
theorem zb_land  {scr : Option (Nat × (Nat → Int32))} {own nL pc len : Nat} {ini : Bool} {lv lv2 l2 : LV} {st st' : List Value} {h h2 : Hp} {pc' : Nat} (hs : zStep scr own nL pc ini (.land) len lv2 st h = some (pc', l2, st', h2)) (hu : uk lv) (hu2 : uk lv2) (hsub : Sub lv2 lv) : ∃ l1, zStep scr own nL pc ini (.land) len lv st h = some (pc', l1, st', h2) ∧ uk l1 ∧ uk l2 ∧ Sub l2 l1 := by
  replace hs : ((match (generalizing := false) st with
    | .long y :: .long x :: r => some (pc + 1, lv2, .long (x &&& y) :: r, h)
    | _ => none)) = some (pc', l2, st', h2) := hs
  have key : ∀ x : Cfg, ((match (generalizing := false) st with
    | .long y :: .long x :: r => some (pc + 1, lv2, .long (x &&& y) :: r, h)
    | _ => none)) = some x → x.2.1 = lv2 ∧ ((match (generalizing := false) st with
    | .long y :: .long x :: r => some (pc + 1, lv, .long (x &&& y) :: r, h)
    | _ => none)) = some (x.1, lv, x.2.2.1, x.2.2.2) := by
    clear hs hu hu2 hsub
    intro x hx
    repeat' split at hx
    all_goals first | (cases hx; done) | (cases hx; exact ⟨rfl, rfl⟩) | (cases hx; refine ⟨rfl, ?_⟩; simp_all; done) | (cases hx; refine ⟨rfl, ?_⟩; simp_all; (intro hh; first | omega | exact absurd hh (Int32.not_lt.mpr (by assumption))))
  obtain ⟨e1, e2⟩ := key _ (show ((match (generalizing := false) st with
    | .long y :: .long x :: r => some (pc + 1, lv2, .long (x &&& y) :: r, h)
    | _ => none)) = some (pc', l2, st', h2) by first | exact hs | simpa only [Bool.cond_eq_ite] using hs)
  replace e1 : l2 = lv2 := e1
  subst e1
  exact ⟨lv, e2, hu, hu2, hsub⟩
theorem zb_lor  {scr : Option (Nat × (Nat → Int32))} {own nL pc len : Nat} {ini : Bool} {lv lv2 l2 : LV} {st st' : List Value} {h h2 : Hp} {pc' : Nat} (hs : zStep scr own nL pc ini (.lor) len lv2 st h = some (pc', l2, st', h2)) (hu : uk lv) (hu2 : uk lv2) (hsub : Sub lv2 lv) : ∃ l1, zStep scr own nL pc ini (.lor) len lv st h = some (pc', l1, st', h2) ∧ uk l1 ∧ uk l2 ∧ Sub l2 l1 := by
  replace hs : ((match (generalizing := false) st with
    | .long y :: .long x :: r => some (pc + 1, lv2, .long (x ||| y) :: r, h)
    | _ => none)) = some (pc', l2, st', h2) := hs
  have key : ∀ x : Cfg, ((match (generalizing := false) st with
    | .long y :: .long x :: r => some (pc + 1, lv2, .long (x ||| y) :: r, h)
    | _ => none)) = some x → x.2.1 = lv2 ∧ ((match (generalizing := false) st with
    | .long y :: .long x :: r => some (pc + 1, lv, .long (x ||| y) :: r, h)
    | _ => none)) = some (x.1, lv, x.2.2.1, x.2.2.2) := by
    clear hs hu hu2 hsub
    intro x hx
    repeat' split at hx
    all_goals first | (cases hx; done) | (cases hx; exact ⟨rfl, rfl⟩) | (cases hx; refine ⟨rfl, ?_⟩; simp_all; done) | (cases hx; refine ⟨rfl, ?_⟩; simp_all; (intro hh; first | omega | exact absurd hh (Int32.not_lt.mpr (by assumption))))
  obtain ⟨e1, e2⟩ := key _ (show ((match (generalizing := false) st with
    | .long y :: .long x :: r => some (pc + 1, lv2, .long (x ||| y) :: r, h)
    | _ => none)) = some (pc', l2, st', h2) by first | exact hs | simpa only [Bool.cond_eq_ite] using hs)
  replace e1 : l2 = lv2 := e1
  subst e1
  exact ⟨lv, e2, hu, hu2, hsub⟩
theorem zb_lshl  {scr : Option (Nat × (Nat → Int32))} {own nL pc len : Nat} {ini : Bool} {lv lv2 l2 : LV} {st st' : List Value} {h h2 : Hp} {pc' : Nat} (hs : zStep scr own nL pc ini (.lshl) len lv2 st h = some (pc', l2, st', h2)) (hu : uk lv) (hu2 : uk lv2) (hsub : Sub lv2 lv) : ∃ l1, zStep scr own nL pc ini (.lshl) len lv st h = some (pc', l1, st', h2) ∧ uk l1 ∧ uk l2 ∧ Sub l2 l1 := by
  replace hs : ((match (generalizing := false) st with
    | .int y :: .long x :: r => some (pc + 1, lv2, .long (x <<< (y.toInt64 &&& 63)) :: r, h)
    | _ => none)) = some (pc', l2, st', h2) := hs
  have key : ∀ x : Cfg, ((match (generalizing := false) st with
    | .int y :: .long x :: r => some (pc + 1, lv2, .long (x <<< (y.toInt64 &&& 63)) :: r, h)
    | _ => none)) = some x → x.2.1 = lv2 ∧ ((match (generalizing := false) st with
    | .int y :: .long x :: r => some (pc + 1, lv, .long (x <<< (y.toInt64 &&& 63)) :: r, h)
    | _ => none)) = some (x.1, lv, x.2.2.1, x.2.2.2) := by
    clear hs hu hu2 hsub
    intro x hx
    repeat' split at hx
    all_goals first | (cases hx; done) | (cases hx; exact ⟨rfl, rfl⟩) | (cases hx; refine ⟨rfl, ?_⟩; simp_all; done) | (cases hx; refine ⟨rfl, ?_⟩; simp_all; (intro hh; first | omega | exact absurd hh (Int32.not_lt.mpr (by assumption))))
  obtain ⟨e1, e2⟩ := key _ (show ((match (generalizing := false) st with
    | .int y :: .long x :: r => some (pc + 1, lv2, .long (x <<< (y.toInt64 &&& 63)) :: r, h)
    | _ => none)) = some (pc', l2, st', h2) by first | exact hs | simpa only [Bool.cond_eq_ite] using hs)
  replace e1 : l2 = lv2 := e1
  subst e1
  exact ⟨lv, e2, hu, hu2, hsub⟩
theorem zb_lshr  {scr : Option (Nat × (Nat → Int32))} {own nL pc len : Nat} {ini : Bool} {lv lv2 l2 : LV} {st st' : List Value} {h h2 : Hp} {pc' : Nat} (hs : zStep scr own nL pc ini (.lshr) len lv2 st h = some (pc', l2, st', h2)) (hu : uk lv) (hu2 : uk lv2) (hsub : Sub lv2 lv) : ∃ l1, zStep scr own nL pc ini (.lshr) len lv st h = some (pc', l1, st', h2) ∧ uk l1 ∧ uk l2 ∧ Sub l2 l1 := by
  replace hs : ((match (generalizing := false) st with
    | .int y :: .long x :: r => some (pc + 1, lv2, .long (x >>> (y.toInt64 &&& 63)) :: r, h)
    | _ => none)) = some (pc', l2, st', h2) := hs
  have key : ∀ x : Cfg, ((match (generalizing := false) st with
    | .int y :: .long x :: r => some (pc + 1, lv2, .long (x >>> (y.toInt64 &&& 63)) :: r, h)
    | _ => none)) = some x → x.2.1 = lv2 ∧ ((match (generalizing := false) st with
    | .int y :: .long x :: r => some (pc + 1, lv, .long (x >>> (y.toInt64 &&& 63)) :: r, h)
    | _ => none)) = some (x.1, lv, x.2.2.1, x.2.2.2) := by
    clear hs hu hu2 hsub
    intro x hx
    repeat' split at hx
    all_goals first | (cases hx; done) | (cases hx; exact ⟨rfl, rfl⟩) | (cases hx; refine ⟨rfl, ?_⟩; simp_all; done) | (cases hx; refine ⟨rfl, ?_⟩; simp_all; (intro hh; first | omega | exact absurd hh (Int32.not_lt.mpr (by assumption))))
  obtain ⟨e1, e2⟩ := key _ (show ((match (generalizing := false) st with
    | .int y :: .long x :: r => some (pc + 1, lv2, .long (x >>> (y.toInt64 &&& 63)) :: r, h)
    | _ => none)) = some (pc', l2, st', h2) by first | exact hs | simpa only [Bool.cond_eq_ite] using hs)
  replace e1 : l2 = lv2 := e1
  subst e1
  exact ⟨lv, e2, hu, hu2, hsub⟩
theorem zb_lcmp  {scr : Option (Nat × (Nat → Int32))} {own nL pc len : Nat} {ini : Bool} {lv lv2 l2 : LV} {st st' : List Value} {h h2 : Hp} {pc' : Nat} (hs : zStep scr own nL pc ini (.lcmp) len lv2 st h = some (pc', l2, st', h2)) (hu : uk lv) (hu2 : uk lv2) (hsub : Sub lv2 lv) : ∃ l1, zStep scr own nL pc ini (.lcmp) len lv st h = some (pc', l1, st', h2) ∧ uk l1 ∧ uk l2 ∧ Sub l2 l1 := by
  replace hs : ((match (generalizing := false) st with
    | .long y :: .long x :: r => some (pc + 1, lv2, .int (lg_cmp x y) :: r, h)
    | _ => none)) = some (pc', l2, st', h2) := hs
  have key : ∀ x : Cfg, ((match (generalizing := false) st with
    | .long y :: .long x :: r => some (pc + 1, lv2, .int (lg_cmp x y) :: r, h)
    | _ => none)) = some x → x.2.1 = lv2 ∧ ((match (generalizing := false) st with
    | .long y :: .long x :: r => some (pc + 1, lv, .int (lg_cmp x y) :: r, h)
    | _ => none)) = some (x.1, lv, x.2.2.1, x.2.2.2) := by
    clear hs hu hu2 hsub
    intro x hx
    repeat' split at hx
    all_goals first | (cases hx; done) | (cases hx; exact ⟨rfl, rfl⟩) | (cases hx; refine ⟨rfl, ?_⟩; simp_all; done) | (cases hx; refine ⟨rfl, ?_⟩; simp_all; (intro hh; first | omega | exact absurd hh (Int32.not_lt.mpr (by assumption))))
  obtain ⟨e1, e2⟩ := key _ (show ((match (generalizing := false) st with
    | .long y :: .long x :: r => some (pc + 1, lv2, .int (lg_cmp x y) :: r, h)
    | _ => none)) = some (pc', l2, st', h2) by first | exact hs | simpa only [Bool.cond_eq_ite] using hs)
  replace e1 : l2 = lv2 := e1
  subst e1
  exact ⟨lv, e2, hu, hu2, hsub⟩
theorem zb_goto (off : Int) {scr : Option (Nat × (Nat → Int32))} {own nL pc len : Nat} {ini : Bool} {lv lv2 l2 : LV} {st st' : List Value} {h h2 : Hp} {pc' : Nat} (hs : zStep scr own nL pc ini (.goto off) len lv2 st h = some (pc', l2, st', h2)) (hu : uk lv) (hu2 : uk lv2) (hsub : Sub lv2 lv) : ∃ l1, zStep scr own nL pc ini (.goto off) len lv st h = some (pc', l1, st', h2) ∧ uk l1 ∧ uk l2 ∧ Sub l2 l1 := by
  replace hs : ((match (generalizing := false) jmp pc off with
    | some t => some (t, lv2, st, h)
    | none => none)) = some (pc', l2, st', h2) := hs
  have key : ∀ x : Cfg, ((match (generalizing := false) jmp pc off with
    | some t => some (t, lv2, st, h)
    | none => none)) = some x → x.2.1 = lv2 ∧ ((match (generalizing := false) jmp pc off with
    | some t => some (t, lv, st, h)
    | none => none)) = some (x.1, lv, x.2.2.1, x.2.2.2) := by
    clear hs hu hu2 hsub
    intro x hx
    repeat' split at hx
    all_goals first | (cases hx; done) | (cases hx; exact ⟨rfl, rfl⟩) | (cases hx; refine ⟨rfl, ?_⟩; simp_all; done) | (cases hx; refine ⟨rfl, ?_⟩; simp_all; (intro hh; first | omega | exact absurd hh (Int32.not_lt.mpr (by assumption))))
  obtain ⟨e1, e2⟩ := key _ (show ((match (generalizing := false) jmp pc off with
    | some t => some (t, lv2, st, h)
    | none => none)) = some (pc', l2, st', h2) by first | exact hs | simpa only [Bool.cond_eq_ite] using hs)
  replace e1 : l2 = lv2 := e1
  subst e1
  exact ⟨lv, e2, hu, hu2, hsub⟩
theorem zb_if_icmp (c0 : ClassFile.Cond) (off : Int) {scr : Option (Nat × (Nat → Int32))} {own nL pc len : Nat} {ini : Bool} {lv lv2 l2 : LV} {st st' : List Value} {h h2 : Hp} {pc' : Nat} (hs : zStep scr own nL pc ini (.if_icmp c0 off) len lv2 st h = some (pc', l2, st', h2)) (hu : uk lv) (hu2 : uk lv2) (hsub : Sub lv2 lv) : ∃ l1, zStep scr own nL pc ini (.if_icmp c0 off) len lv st h = some (pc', l1, st', h2) ∧ uk l1 ∧ uk l2 ∧ Sub l2 l1 := by
  replace hs : ((match (generalizing := false) st with
    | .int y :: .int x :: r => (match (generalizing := false) jmp pc off with
      | some t => if cnd c0 x y = true then some (t, lv2, r, h) else some (pc + 3, lv2, r, h)
      | none => none)
    | _ => none)) = some (pc', l2, st', h2) := hs
  have key : ∀ x : Cfg, ((match (generalizing := false) st with
    | .int y :: .int x :: r => (match (generalizing := false) jmp pc off with
      | some t => if cnd c0 x y = true then some (t, lv2, r, h) else some (pc + 3, lv2, r, h)
      | none => none)
    | _ => none)) = some x → x.2.1 = lv2 ∧ ((match (generalizing := false) st with
    | .int y :: .int x :: r => (match (generalizing := false) jmp pc off with
      | some t => if cnd c0 x y = true then some (t, lv, r, h) else some (pc + 3, lv, r, h)
      | none => none)
    | _ => none)) = some (x.1, lv, x.2.2.1, x.2.2.2) := by
    clear hs hu hu2 hsub
    intro x hx
    repeat' split at hx
    all_goals first | (cases hx; done) | (cases hx; exact ⟨rfl, rfl⟩) | (cases hx; refine ⟨rfl, ?_⟩; simp_all; done) | (cases hx; refine ⟨rfl, ?_⟩; simp_all; (intro hh; first | omega | exact absurd hh (Int32.not_lt.mpr (by assumption))))
  obtain ⟨e1, e2⟩ := key _ (show ((match (generalizing := false) st with
    | .int y :: .int x :: r => (match (generalizing := false) jmp pc off with
      | some t => if cnd c0 x y = true then some (t, lv2, r, h) else some (pc + 3, lv2, r, h)
      | none => none)
    | _ => none)) = some (pc', l2, st', h2) by first | exact hs | simpa only [Bool.cond_eq_ite] using hs)
  replace e1 : l2 = lv2 := e1
  subst e1
  exact ⟨lv, e2, hu, hu2, hsub⟩
theorem zb_ifCond (c0 : ClassFile.Cond) (off : Int) {scr : Option (Nat × (Nat → Int32))} {own nL pc len : Nat} {ini : Bool} {lv lv2 l2 : LV} {st st' : List Value} {h h2 : Hp} {pc' : Nat} (hs : zStep scr own nL pc ini (.ifCond c0 off) len lv2 st h = some (pc', l2, st', h2)) (hu : uk lv) (hu2 : uk lv2) (hsub : Sub lv2 lv) : ∃ l1, zStep scr own nL pc ini (.ifCond c0 off) len lv st h = some (pc', l1, st', h2) ∧ uk l1 ∧ uk l2 ∧ Sub l2 l1 := by
  replace hs : ((match (generalizing := false) st with
    | .int x :: r => (match (generalizing := false) jmp pc off with
      | some t => if cnd c0 x 0 = true then some (t, lv2, r, h) else some (pc + 3, lv2, r, h)
      | none => none)
    | _ => none)) = some (pc', l2, st', h2) := hs
  have key : ∀ x : Cfg, ((match (generalizing := false) st with
    | .int x :: r => (match (generalizing := false) jmp pc off with
      | some t => if cnd c0 x 0 = true then some (t, lv2, r, h) else some (pc + 3, lv2, r, h)
      | none => none)
    | _ => none)) = some x → x.2.1 = lv2 ∧ ((match (generalizing := false) st with
    | .int x :: r => (match (generalizing := false) jmp pc off with
      | some t => if cnd c0 x 0 = true then some (t, lv, r, h) else some (pc + 3, lv, r, h)
      | none => none)
    | _ => none)) = some (x.1, lv, x.2.2.1, x.2.2.2) := by
    clear hs hu hu2 hsub
    intro x hx
    repeat' split at hx
    all_goals first | (cases hx; done) | (cases hx; exact ⟨rfl, rfl⟩) | (cases hx; refine ⟨rfl, ?_⟩; simp_all; done) | (cases hx; refine ⟨rfl, ?_⟩; simp_all; (intro hh; first | omega | exact absurd hh (Int32.not_lt.mpr (by assumption))))
  obtain ⟨e1, e2⟩ := key _ (show ((match (generalizing := false) st with
    | .int x :: r => (match (generalizing := false) jmp pc off with
      | some t => if cnd c0 x 0 = true then some (t, lv2, r, h) else some (pc + 3, lv2, r, h)
      | none => none)
    | _ => none)) = some (pc', l2, st', h2) by first | exact hs | simpa only [Bool.cond_eq_ite] using hs)
  replace e1 : l2 = lv2 := e1
  subst e1
  exact ⟨lv, e2, hu, hu2, hsub⟩
theorem zb_tableswitch (d lo hi : Int) (offs : Array Int) {scr : Option (Nat × (Nat → Int32))} {own nL pc len : Nat} {ini : Bool} {lv lv2 l2 : LV} {st st' : List Value} {h h2 : Hp} {pc' : Nat} (hs : zStep scr own nL pc ini (.tableswitch d lo hi offs) len lv2 st h = some (pc', l2, st', h2)) (hu : uk lv) (hu2 : uk lv2) (hsub : Sub lv2 lv) : ∃ l1, zStep scr own nL pc ini (.tableswitch d lo hi offs) len lv st h = some (pc', l1, st', h2) ∧ uk l1 ∧ uk l2 ∧ Sub l2 l1 := by
  replace hs : ((match (generalizing := false) st with
    | .int x :: r => if x.toInt < lo ∨ hi < x.toInt then (match (generalizing := false) jmp pc d with
        | some t => some (t, lv2, r, h)
        | none => none) else (match (generalizing := false) offs[(x.toInt - lo).toNat]? with
        | some off => (match (generalizing := false) jmp pc off with
          | some t => some (t, lv2, r, h)
          | none => none)
        | none => none)
    | _ => none)) = some (pc', l2, st', h2) := hs
  have key : ∀ x : Cfg, ((match (generalizing := false) st with
    | .int x :: r => if x.toInt < lo ∨ hi < x.toInt then (match (generalizing := false) jmp pc d with
        | some t => some (t, lv2, r, h)
        | none => none) else (match (generalizing := false) offs[(x.toInt - lo).toNat]? with
        | some off => (match (generalizing := false) jmp pc off with
          | some t => some (t, lv2, r, h)
          | none => none)
        | none => none)
    | _ => none)) = some x → x.2.1 = lv2 ∧ ((match (generalizing := false) st with
    | .int x :: r => if x.toInt < lo ∨ hi < x.toInt then (match (generalizing := false) jmp pc d with
        | some t => some (t, lv, r, h)
        | none => none) else (match (generalizing := false) offs[(x.toInt - lo).toNat]? with
        | some off => (match (generalizing := false) jmp pc off with
          | some t => some (t, lv, r, h)
          | none => none)
        | none => none)
    | _ => none)) = some (x.1, lv, x.2.2.1, x.2.2.2) := by
    clear hs hu hu2 hsub
    intro x hx
    repeat' split at hx
    all_goals first | (cases hx; done) | (cases hx; exact ⟨rfl, rfl⟩) | (cases hx; refine ⟨rfl, ?_⟩; simp_all; done) | (cases hx; refine ⟨rfl, ?_⟩; simp_all; (intro hh; first | omega | exact absurd hh (Int32.not_lt.mpr (by assumption))))
  obtain ⟨e1, e2⟩ := key _ (show ((match (generalizing := false) st with
    | .int x :: r => if x.toInt < lo ∨ hi < x.toInt then (match (generalizing := false) jmp pc d with
        | some t => some (t, lv2, r, h)
        | none => none) else (match (generalizing := false) offs[(x.toInt - lo).toNat]? with
        | some off => (match (generalizing := false) jmp pc off with
          | some t => some (t, lv2, r, h)
          | none => none)
        | none => none)
    | _ => none)) = some (pc', l2, st', h2) by first | exact hs | simpa only [Bool.cond_eq_ite] using hs)
  replace e1 : l2 = lv2 := e1
  subst e1
  exact ⟨lv, e2, hu, hu2, hsub⟩
theorem zb_lookupswitch (d : Int) (ps : Array (Int × Int)) {scr : Option (Nat × (Nat → Int32))} {own nL pc len : Nat} {ini : Bool} {lv lv2 l2 : LV} {st st' : List Value} {h h2 : Hp} {pc' : Nat} (hs : zStep scr own nL pc ini (.lookupswitch d ps) len lv2 st h = some (pc', l2, st', h2)) (hu : uk lv) (hu2 : uk lv2) (hsub : Sub lv2 lv) : ∃ l1, zStep scr own nL pc ini (.lookupswitch d ps) len lv st h = some (pc', l1, st', h2) ∧ uk l1 ∧ uk l2 ∧ Sub l2 l1 := by
  replace hs : ((match (generalizing := false) st with
    | .int x :: r => bif (ps.toList.zip (ps.toList.drop 1)).all (fun (a, next) => a.1 < next.1) then (match (generalizing := false) jmp pc (Op.lookupswitch.offset ps.toList d x.toInt) with
        | some t => some (t, lv2, r, h)
        | none => none) else none
    | _ => none)) = some (pc', l2, st', h2) := hs
  split at hs
  next x r =>
    cases hb1 : (ps.toList.zip (ps.toList.drop 1)).all (fun (a, next) => a.1 < next.1) with
    | false => rw [hb1] at hs; cases hs
    | true =>
      rw [hb1] at hs
      replace hs : (match (generalizing := false) jmp pc (Op.lookupswitch.offset ps.toList d x.toInt) with
        | some t => some (t, lv2, r, h)
        | none => none) = some (pc', l2, st', h2) := hs
      split at hs
      next t ht =>
        cases hs
        refine ⟨lv, ?_, hu, hu2, hsub⟩
        show (bif (ps.toList.zip (ps.toList.drop 1)).all (fun (a, next) => a.1 < next.1) then ((match (generalizing := false) jmp pc (Op.lookupswitch.offset ps.toList d x.toInt) with
          | some t => some (t, lv, st', h)
          | none => none) : Option Cfg) else none) = _
        rw [hb1, ht]
        rfl
      next => cases hs
  next => cases hs
theorem zb_getfield (ix : Nat) {scr : Option (Nat × (Nat → Int32))} {own nL pc len : Nat} {ini : Bool} {lv lv2 l2 : LV} {st st' : List Value} {h h2 : Hp} {pc' : Nat} (hs : zStep scr own nL pc ini (.getfield ix) len lv2 st h = some (pc', l2, st', h2)) (hu : uk lv) (hu2 : uk lv2) (hsub : Sub lv2 lv) : ∃ l1, zStep scr own nL pc ini (.getfield ix) len lv st h = some (pc', l1, st', h2) ∧ uk l1 ∧ uk l2 ∧ Sub l2 l1 := by
  replace hs : ((match (generalizing := false) st with
    | .ref i :: r => (match (generalizing := false) lkp (poolOf own) ix with
      | some (0, ci, k, _) => bif isO h i ci && Nat.blt k (nF ci) then some (pc + 3, lv2, (bif isR ci k then rfV (h.2.2 i k) else .int (h.2.1 i k)) :: r, h) else none
      | some (1, ci, k, _) => bif isO h i ci && Nat.blt k (nF ci) then some (pc + 3, lv2, (bif isR ci k then rfV (h.2.2 i k) else .int (h.2.1 i k)) :: r, h) else none
      | _ => none)
    | _ => none)) = some (pc', l2, st', h2) := hs
  simp only [Bool.cond_eq_ite] at hs
  have key : ∀ x : Cfg, ((match (generalizing := false) st with
    | .ref i :: r => (match (generalizing := false) lkp (poolOf own) ix with
      | some (0, ci, k, _) => bif isO h i ci && Nat.blt k (nF ci) then some (pc + 3, lv2, (bif isR ci k then rfV (h.2.2 i k) else .int (h.2.1 i k)) :: r, h) else none
      | some (1, ci, k, _) => bif isO h i ci && Nat.blt k (nF ci) then some (pc + 3, lv2, (bif isR ci k then rfV (h.2.2 i k) else .int (h.2.1 i k)) :: r, h) else none
      | _ => none)
    | _ => none)) = some x → x.2.1 = lv2 ∧ ((match (generalizing := false) st with
    | .ref i :: r => (match (generalizing := false) lkp (poolOf own) ix with
      | some (0, ci, k, _) => bif isO h i ci && Nat.blt k (nF ci) then some (pc + 3, lv, (bif isR ci k then rfV (h.2.2 i k) else .int (h.2.1 i k)) :: r, h) else none
      | some (1, ci, k, _) => bif isO h i ci && Nat.blt k (nF ci) then some (pc + 3, lv, (bif isR ci k then rfV (h.2.2 i k) else .int (h.2.1 i k)) :: r, h) else none
      | _ => none)
    | _ => none)) = some (x.1, lv, x.2.2.1, x.2.2.2) := by
    clear hs hu hu2 hsub
    intro x hx
    simp only [Bool.cond_eq_ite] at hx ⊢
    repeat' split at hx
    all_goals first | (cases hx; done) | (cases hx; exact ⟨rfl, rfl⟩) | (cases hx; refine ⟨rfl, ?_⟩; simp_all; done) | (cases hx; refine ⟨rfl, ?_⟩; simp_all; (intro hh; first | omega | exact absurd hh (Int32.not_lt.mpr (by assumption))))
  simp only [← Bool.cond_eq_ite] at hs
  obtain ⟨e1, e2⟩ := key _ (show ((match (generalizing := false) st with
    | .ref i :: r => (match (generalizing := false) lkp (poolOf own) ix with
      | some (0, ci, k, _) => bif isO h i ci && Nat.blt k (nF ci) then some (pc + 3, lv2, (bif isR ci k then rfV (h.2.2 i k) else .int (h.2.1 i k)) :: r, h) else none
      | some (1, ci, k, _) => bif isO h i ci && Nat.blt k (nF ci) then some (pc + 3, lv2, (bif isR ci k then rfV (h.2.2 i k) else .int (h.2.1 i k)) :: r, h) else none
      | _ => none)
    | _ => none)) = some (pc', l2, st', h2) by first | exact hs | simpa only [Bool.cond_eq_ite] using hs)
  replace e1 : l2 = lv2 := e1
  subst e1
  exact ⟨lv, e2, hu, hu2, hsub⟩
theorem zb_putfield (ix : Nat) {scr : Option (Nat × (Nat → Int32))} {own nL pc len : Nat} {ini : Bool} {lv lv2 l2 : LV} {st st' : List Value} {h h2 : Hp} {pc' : Nat} (hs : zStep scr own nL pc ini (.putfield ix) len lv2 st h = some (pc', l2, st', h2)) (hu : uk lv) (hu2 : uk lv2) (hsub : Sub lv2 lv) : ∃ l1, zStep scr own nL pc ini (.putfield ix) len lv st h = some (pc', l1, st', h2) ∧ uk l1 ∧ uk l2 ∧ Sub l2 l1 := by
  replace hs : ((match (generalizing := false) st with
    | .int x :: .ref i :: r => (match (generalizing := false) lkp (poolOf own) ix with
      | some (0, ci, k, _) => bif isO h i ci && Nat.blt k (nF ci) && !isR ci k && !finF ci k then some (pc + 3, lv2, r, (h.1, up2 h.2.1 i k x, h.2.2)) else none
      | some (1, ci, k, _) => bif isO h i ci && Nat.blt k (nF ci) && !isR ci k && !finF ci k then some (pc + 3, lv2, r, (h.1, up2 h.2.1 i k x, h.2.2)) else none
      | _ => none)
    | .ref x :: .ref i :: r => (match (generalizing := false) lkp (poolOf own) ix with
      | some (0, ci, k, _) => bif isO h i ci && Nat.blt k (nF ci) && isR ci k && (!finF ci k || (ini && Nat.beq own ci)) then some (pc + 3, lv2, r, (h.1, h.2.1, up2 h.2.2 i k (some x))) else none
      | _ => none)
    | _ => none)) = some (pc', l2, st', h2) := hs
  simp only [Bool.cond_eq_ite] at hs
  have key : ∀ x : Cfg, ((match (generalizing := false) st with
    | .int x :: .ref i :: r => (match (generalizing := false) lkp (poolOf own) ix with
      | some (0, ci, k, _) => bif isO h i ci && Nat.blt k (nF ci) && !isR ci k && !finF ci k then some (pc + 3, lv2, r, (h.1, up2 h.2.1 i k x, h.2.2)) else none
      | some (1, ci, k, _) => bif isO h i ci && Nat.blt k (nF ci) && !isR ci k && !finF ci k then some (pc + 3, lv2, r, (h.1, up2 h.2.1 i k x, h.2.2)) else none
      | _ => none)
    | .ref x :: .ref i :: r => (match (generalizing := false) lkp (poolOf own) ix with
      | some (0, ci, k, _) => bif isO h i ci && Nat.blt k (nF ci) && isR ci k && (!finF ci k || (ini && Nat.beq own ci)) then some (pc + 3, lv2, r, (h.1, h.2.1, up2 h.2.2 i k (some x))) else none
      | _ => none)
    | _ => none)) = some x → x.2.1 = lv2 ∧ ((match (generalizing := false) st with
    | .int x :: .ref i :: r => (match (generalizing := false) lkp (poolOf own) ix with
      | some (0, ci, k, _) => bif isO h i ci && Nat.blt k (nF ci) && !isR ci k && !finF ci k then some (pc + 3, lv, r, (h.1, up2 h.2.1 i k x, h.2.2)) else none
      | some (1, ci, k, _) => bif isO h i ci && Nat.blt k (nF ci) && !isR ci k && !finF ci k then some (pc + 3, lv, r, (h.1, up2 h.2.1 i k x, h.2.2)) else none
      | _ => none)
    | .ref x :: .ref i :: r => (match (generalizing := false) lkp (poolOf own) ix with
      | some (0, ci, k, _) => bif isO h i ci && Nat.blt k (nF ci) && isR ci k && (!finF ci k || (ini && Nat.beq own ci)) then some (pc + 3, lv, r, (h.1, h.2.1, up2 h.2.2 i k (some x))) else none
      | _ => none)
    | _ => none)) = some (x.1, lv, x.2.2.1, x.2.2.2) := by
    clear hs hu hu2 hsub
    intro x hx
    simp only [Bool.cond_eq_ite] at hx ⊢
    repeat' split at hx
    all_goals first | (cases hx; done) | (cases hx; exact ⟨rfl, rfl⟩) | (cases hx; refine ⟨rfl, ?_⟩; simp_all; done) | (cases hx; refine ⟨rfl, ?_⟩; simp_all; (intro hh; first | omega | exact absurd hh (Int32.not_lt.mpr (by assumption))))
  simp only [← Bool.cond_eq_ite] at hs
  obtain ⟨e1, e2⟩ := key _ (show ((match (generalizing := false) st with
    | .int x :: .ref i :: r => (match (generalizing := false) lkp (poolOf own) ix with
      | some (0, ci, k, _) => bif isO h i ci && Nat.blt k (nF ci) && !isR ci k && !finF ci k then some (pc + 3, lv2, r, (h.1, up2 h.2.1 i k x, h.2.2)) else none
      | some (1, ci, k, _) => bif isO h i ci && Nat.blt k (nF ci) && !isR ci k && !finF ci k then some (pc + 3, lv2, r, (h.1, up2 h.2.1 i k x, h.2.2)) else none
      | _ => none)
    | .ref x :: .ref i :: r => (match (generalizing := false) lkp (poolOf own) ix with
      | some (0, ci, k, _) => bif isO h i ci && Nat.blt k (nF ci) && isR ci k && (!finF ci k || (ini && Nat.beq own ci)) then some (pc + 3, lv2, r, (h.1, h.2.1, up2 h.2.2 i k (some x))) else none
      | _ => none)
    | _ => none)) = some (pc', l2, st', h2) by first | exact hs | simpa only [Bool.cond_eq_ite] using hs)
  replace e1 : l2 = lv2 := e1
  subst e1
  exact ⟨lv, e2, hu, hu2, hsub⟩
theorem zb_iaload  {scr : Option (Nat × (Nat → Int32))} {own nL pc len : Nat} {ini : Bool} {lv lv2 l2 : LV} {st st' : List Value} {h h2 : Hp} {pc' : Nat} (hs : zStep scr own nL pc ini (.iaload) len lv2 st h = some (pc', l2, st', h2)) (hu : uk lv) (hu2 : uk lv2) (hsub : Sub lv2 lv) : ∃ l1, zStep scr own nL pc ini (.iaload) len lv st h = some (pc', l1, st', h2) ∧ uk l1 ∧ uk l2 ∧ Sub l2 l1 := by
  replace hs : ((match (generalizing := false) st with
    | .int j :: .ref i :: r => bif Nat.beq i sId then (match (generalizing := false) scr with
      | some (L, xs) => bif inB j L then some (pc + 1, lv2, .int (xs j.toNatClampNeg) :: r, h) else none
      | none => none) else (match (generalizing := false) arrL h i 0 with
      | some n => bif inB j n then some (pc + 1, lv2, .int (h.2.1 i j.toNatClampNeg) :: r, h) else none
      | none => none)
    | _ => none)) = some (pc', l2, st', h2) := hs
  simp only [Bool.cond_eq_ite] at hs
  have key : ∀ x : Cfg, ((match (generalizing := false) st with
    | .int j :: .ref i :: r => bif Nat.beq i sId then (match (generalizing := false) scr with
      | some (L, xs) => bif inB j L then some (pc + 1, lv2, .int (xs j.toNatClampNeg) :: r, h) else none
      | none => none) else (match (generalizing := false) arrL h i 0 with
      | some n => bif inB j n then some (pc + 1, lv2, .int (h.2.1 i j.toNatClampNeg) :: r, h) else none
      | none => none)
    | _ => none)) = some x → x.2.1 = lv2 ∧ ((match (generalizing := false) st with
    | .int j :: .ref i :: r => bif Nat.beq i sId then (match (generalizing := false) scr with
      | some (L, xs) => bif inB j L then some (pc + 1, lv, .int (xs j.toNatClampNeg) :: r, h) else none
      | none => none) else (match (generalizing := false) arrL h i 0 with
      | some n => bif inB j n then some (pc + 1, lv, .int (h.2.1 i j.toNatClampNeg) :: r, h) else none
      | none => none)
    | _ => none)) = some (x.1, lv, x.2.2.1, x.2.2.2) := by
    clear hs hu hu2 hsub
    intro x hx
    simp only [Bool.cond_eq_ite] at hx ⊢
    repeat' split at hx
    all_goals first | (cases hx; done) | (cases hx; exact ⟨rfl, rfl⟩) | (cases hx; refine ⟨rfl, ?_⟩; simp_all; done) | (cases hx; refine ⟨rfl, ?_⟩; simp_all; (intro hh; first | omega | exact absurd hh (Int32.not_lt.mpr (by assumption))))
  simp only [← Bool.cond_eq_ite] at hs
  obtain ⟨e1, e2⟩ := key _ (show ((match (generalizing := false) st with
    | .int j :: .ref i :: r => bif Nat.beq i sId then (match (generalizing := false) scr with
      | some (L, xs) => bif inB j L then some (pc + 1, lv2, .int (xs j.toNatClampNeg) :: r, h) else none
      | none => none) else (match (generalizing := false) arrL h i 0 with
      | some n => bif inB j n then some (pc + 1, lv2, .int (h.2.1 i j.toNatClampNeg) :: r, h) else none
      | none => none)
    | _ => none)) = some (pc', l2, st', h2) by first | exact hs | simpa only [Bool.cond_eq_ite] using hs)
  replace e1 : l2 = lv2 := e1
  subst e1
  exact ⟨lv, e2, hu, hu2, hsub⟩
theorem zb_baload  {scr : Option (Nat × (Nat → Int32))} {own nL pc len : Nat} {ini : Bool} {lv lv2 l2 : LV} {st st' : List Value} {h h2 : Hp} {pc' : Nat} (hs : zStep scr own nL pc ini (.baload) len lv2 st h = some (pc', l2, st', h2)) (hu : uk lv) (hu2 : uk lv2) (hsub : Sub lv2 lv) : ∃ l1, zStep scr own nL pc ini (.baload) len lv st h = some (pc', l1, st', h2) ∧ uk l1 ∧ uk l2 ∧ Sub l2 l1 := by
  replace hs : ((match (generalizing := false) st with
    | .int j :: .ref i :: r => (match (generalizing := false) arrL h i 1 with
      | some n => bif inB j n then some (pc + 1, lv2, .int (h.2.1 i j.toNatClampNeg) :: r, h) else none
      | none => none)
    | _ => none)) = some (pc', l2, st', h2) := hs
  simp only [Bool.cond_eq_ite] at hs
  have key : ∀ x : Cfg, ((match (generalizing := false) st with
    | .int j :: .ref i :: r => (match (generalizing := false) arrL h i 1 with
      | some n => bif inB j n then some (pc + 1, lv2, .int (h.2.1 i j.toNatClampNeg) :: r, h) else none
      | none => none)
    | _ => none)) = some x → x.2.1 = lv2 ∧ ((match (generalizing := false) st with
    | .int j :: .ref i :: r => (match (generalizing := false) arrL h i 1 with
      | some n => bif inB j n then some (pc + 1, lv, .int (h.2.1 i j.toNatClampNeg) :: r, h) else none
      | none => none)
    | _ => none)) = some (x.1, lv, x.2.2.1, x.2.2.2) := by
    clear hs hu hu2 hsub
    intro x hx
    simp only [Bool.cond_eq_ite] at hx ⊢
    repeat' split at hx
    all_goals first | (cases hx; done) | (cases hx; exact ⟨rfl, rfl⟩) | (cases hx; refine ⟨rfl, ?_⟩; simp_all; done) | (cases hx; refine ⟨rfl, ?_⟩; simp_all; (intro hh; first | omega | exact absurd hh (Int32.not_lt.mpr (by assumption))))
  simp only [← Bool.cond_eq_ite] at hs
  obtain ⟨e1, e2⟩ := key _ (show ((match (generalizing := false) st with
    | .int j :: .ref i :: r => (match (generalizing := false) arrL h i 1 with
      | some n => bif inB j n then some (pc + 1, lv2, .int (h.2.1 i j.toNatClampNeg) :: r, h) else none
      | none => none)
    | _ => none)) = some (pc', l2, st', h2) by first | exact hs | simpa only [Bool.cond_eq_ite] using hs)
  replace e1 : l2 = lv2 := e1
  subst e1
  exact ⟨lv, e2, hu, hu2, hsub⟩
theorem zb_aaload  {scr : Option (Nat × (Nat → Int32))} {own nL pc len : Nat} {ini : Bool} {lv lv2 l2 : LV} {st st' : List Value} {h h2 : Hp} {pc' : Nat} (hs : zStep scr own nL pc ini (.aaload) len lv2 st h = some (pc', l2, st', h2)) (hu : uk lv) (hu2 : uk lv2) (hsub : Sub lv2 lv) : ∃ l1, zStep scr own nL pc ini (.aaload) len lv st h = some (pc', l1, st', h2) ∧ uk l1 ∧ uk l2 ∧ Sub l2 l1 := by
  replace hs : ((match (generalizing := false) st with
    | .int j :: .ref i :: r => (match (generalizing := false) arrL h i 2 with
      | some n => bif inB j n then some (pc + 1, lv2, rfV (h.2.2 i j.toNatClampNeg) :: r, h) else none
      | none => none)
    | _ => none)) = some (pc', l2, st', h2) := hs
  simp only [Bool.cond_eq_ite] at hs
  have key : ∀ x : Cfg, ((match (generalizing := false) st with
    | .int j :: .ref i :: r => (match (generalizing := false) arrL h i 2 with
      | some n => bif inB j n then some (pc + 1, lv2, rfV (h.2.2 i j.toNatClampNeg) :: r, h) else none
      | none => none)
    | _ => none)) = some x → x.2.1 = lv2 ∧ ((match (generalizing := false) st with
    | .int j :: .ref i :: r => (match (generalizing := false) arrL h i 2 with
      | some n => bif inB j n then some (pc + 1, lv, rfV (h.2.2 i j.toNatClampNeg) :: r, h) else none
      | none => none)
    | _ => none)) = some (x.1, lv, x.2.2.1, x.2.2.2) := by
    clear hs hu hu2 hsub
    intro x hx
    simp only [Bool.cond_eq_ite] at hx ⊢
    repeat' split at hx
    all_goals first | (cases hx; done) | (cases hx; exact ⟨rfl, rfl⟩) | (cases hx; refine ⟨rfl, ?_⟩; simp_all; done) | (cases hx; refine ⟨rfl, ?_⟩; simp_all; (intro hh; first | omega | exact absurd hh (Int32.not_lt.mpr (by assumption))))
  simp only [← Bool.cond_eq_ite] at hs
  obtain ⟨e1, e2⟩ := key _ (show ((match (generalizing := false) st with
    | .int j :: .ref i :: r => (match (generalizing := false) arrL h i 2 with
      | some n => bif inB j n then some (pc + 1, lv2, rfV (h.2.2 i j.toNatClampNeg) :: r, h) else none
      | none => none)
    | _ => none)) = some (pc', l2, st', h2) by first | exact hs | simpa only [Bool.cond_eq_ite] using hs)
  replace e1 : l2 = lv2 := e1
  subst e1
  exact ⟨lv, e2, hu, hu2, hsub⟩
theorem zb_iastore  {scr : Option (Nat × (Nat → Int32))} {own nL pc len : Nat} {ini : Bool} {lv lv2 l2 : LV} {st st' : List Value} {h h2 : Hp} {pc' : Nat} (hs : zStep scr own nL pc ini (.iastore) len lv2 st h = some (pc', l2, st', h2)) (hu : uk lv) (hu2 : uk lv2) (hsub : Sub lv2 lv) : ∃ l1, zStep scr own nL pc ini (.iastore) len lv st h = some (pc', l1, st', h2) ∧ uk l1 ∧ uk l2 ∧ Sub l2 l1 := by
  replace hs : ((match (generalizing := false) st with
    | .int x :: .int j :: .ref i :: r => (match (generalizing := false) arrL h i 0 with
      | some n => bif inB j n then some (pc + 1, lv2, r, (h.1, up2 h.2.1 i j.toNatClampNeg x, h.2.2)) else none
      | none => none)
    | _ => none)) = some (pc', l2, st', h2) := hs
  simp only [Bool.cond_eq_ite] at hs
  have key : ∀ x : Cfg, ((match (generalizing := false) st with
    | .int x :: .int j :: .ref i :: r => (match (generalizing := false) arrL h i 0 with
      | some n => bif inB j n then some (pc + 1, lv2, r, (h.1, up2 h.2.1 i j.toNatClampNeg x, h.2.2)) else none
      | none => none)
    | _ => none)) = some x → x.2.1 = lv2 ∧ ((match (generalizing := false) st with
    | .int x :: .int j :: .ref i :: r => (match (generalizing := false) arrL h i 0 with
      | some n => bif inB j n then some (pc + 1, lv, r, (h.1, up2 h.2.1 i j.toNatClampNeg x, h.2.2)) else none
      | none => none)
    | _ => none)) = some (x.1, lv, x.2.2.1, x.2.2.2) := by
    clear hs hu hu2 hsub
    intro x hx
    simp only [Bool.cond_eq_ite] at hx ⊢
    repeat' split at hx
    all_goals first | (cases hx; done) | (cases hx; exact ⟨rfl, rfl⟩) | (cases hx; refine ⟨rfl, ?_⟩; simp_all; done) | (cases hx; refine ⟨rfl, ?_⟩; simp_all; (intro hh; first | omega | exact absurd hh (Int32.not_lt.mpr (by assumption))))
  simp only [← Bool.cond_eq_ite] at hs
  obtain ⟨e1, e2⟩ := key _ (show ((match (generalizing := false) st with
    | .int x :: .int j :: .ref i :: r => (match (generalizing := false) arrL h i 0 with
      | some n => bif inB j n then some (pc + 1, lv2, r, (h.1, up2 h.2.1 i j.toNatClampNeg x, h.2.2)) else none
      | none => none)
    | _ => none)) = some (pc', l2, st', h2) by first | exact hs | simpa only [Bool.cond_eq_ite] using hs)
  replace e1 : l2 = lv2 := e1
  subst e1
  exact ⟨lv, e2, hu, hu2, hsub⟩
theorem zb_bastore  {scr : Option (Nat × (Nat → Int32))} {own nL pc len : Nat} {ini : Bool} {lv lv2 l2 : LV} {st st' : List Value} {h h2 : Hp} {pc' : Nat} (hs : zStep scr own nL pc ini (.bastore) len lv2 st h = some (pc', l2, st', h2)) (hu : uk lv) (hu2 : uk lv2) (hsub : Sub lv2 lv) : ∃ l1, zStep scr own nL pc ini (.bastore) len lv st h = some (pc', l1, st', h2) ∧ uk l1 ∧ uk l2 ∧ Sub l2 l1 := by
  replace hs : ((match (generalizing := false) st with
    | .int x :: .int j :: .ref i :: r => (match (generalizing := false) arrL h i 1 with
      | some n => bif inB j n then some (pc + 1, lv2, r, (h.1, up2 h.2.1 i j.toNatClampNeg (vp_nar .byte x), h.2.2)) else none
      | none => none)
    | _ => none)) = some (pc', l2, st', h2) := hs
  simp only [Bool.cond_eq_ite] at hs
  have key : ∀ x : Cfg, ((match (generalizing := false) st with
    | .int x :: .int j :: .ref i :: r => (match (generalizing := false) arrL h i 1 with
      | some n => bif inB j n then some (pc + 1, lv2, r, (h.1, up2 h.2.1 i j.toNatClampNeg (vp_nar .byte x), h.2.2)) else none
      | none => none)
    | _ => none)) = some x → x.2.1 = lv2 ∧ ((match (generalizing := false) st with
    | .int x :: .int j :: .ref i :: r => (match (generalizing := false) arrL h i 1 with
      | some n => bif inB j n then some (pc + 1, lv, r, (h.1, up2 h.2.1 i j.toNatClampNeg (vp_nar .byte x), h.2.2)) else none
      | none => none)
    | _ => none)) = some (x.1, lv, x.2.2.1, x.2.2.2) := by
    clear hs hu hu2 hsub
    intro x hx
    simp only [Bool.cond_eq_ite] at hx ⊢
    repeat' split at hx
    all_goals first | (cases hx; done) | (cases hx; exact ⟨rfl, rfl⟩) | (cases hx; refine ⟨rfl, ?_⟩; simp_all; done) | (cases hx; refine ⟨rfl, ?_⟩; simp_all; (intro hh; first | omega | exact absurd hh (Int32.not_lt.mpr (by assumption))))
  simp only [← Bool.cond_eq_ite] at hs
  obtain ⟨e1, e2⟩ := key _ (show ((match (generalizing := false) st with
    | .int x :: .int j :: .ref i :: r => (match (generalizing := false) arrL h i 1 with
      | some n => bif inB j n then some (pc + 1, lv2, r, (h.1, up2 h.2.1 i j.toNatClampNeg (vp_nar .byte x), h.2.2)) else none
      | none => none)
    | _ => none)) = some (pc', l2, st', h2) by first | exact hs | simpa only [Bool.cond_eq_ite] using hs)
  replace e1 : l2 = lv2 := e1
  subst e1
  exact ⟨lv, e2, hu, hu2, hsub⟩
theorem zb_aastore  {scr : Option (Nat × (Nat → Int32))} {own nL pc len : Nat} {ini : Bool} {lv lv2 l2 : LV} {st st' : List Value} {h h2 : Hp} {pc' : Nat} (hs : zStep scr own nL pc ini (.aastore) len lv2 st h = some (pc', l2, st', h2)) (hu : uk lv) (hu2 : uk lv2) (hsub : Sub lv2 lv) : ∃ l1, zStep scr own nL pc ini (.aastore) len lv st h = some (pc', l1, st', h2) ∧ uk l1 ∧ uk l2 ∧ Sub l2 l1 := by
  replace hs : ((match (generalizing := false) st with
    | .ref x :: .int j :: .ref i :: r => (match (generalizing := false) arrL h i 2 with
      | some n => bif inB j n && isO h x 5 then some (pc + 1, lv2, r, (h.1, h.2.1, up2 h.2.2 i j.toNatClampNeg (some x))) else none
      | none => none)
    | _ => none)) = some (pc', l2, st', h2) := hs
  simp only [Bool.cond_eq_ite] at hs
  have key : ∀ x : Cfg, ((match (generalizing := false) st with
    | .ref x :: .int j :: .ref i :: r => (match (generalizing := false) arrL h i 2 with
      | some n => bif inB j n && isO h x 5 then some (pc + 1, lv2, r, (h.1, h.2.1, up2 h.2.2 i j.toNatClampNeg (some x))) else none
      | none => none)
    | _ => none)) = some x → x.2.1 = lv2 ∧ ((match (generalizing := false) st with
    | .ref x :: .int j :: .ref i :: r => (match (generalizing := false) arrL h i 2 with
      | some n => bif inB j n && isO h x 5 then some (pc + 1, lv, r, (h.1, h.2.1, up2 h.2.2 i j.toNatClampNeg (some x))) else none
      | none => none)
    | _ => none)) = some (x.1, lv, x.2.2.1, x.2.2.2) := by
    clear hs hu hu2 hsub
    intro x hx
    simp only [Bool.cond_eq_ite] at hx ⊢
    repeat' split at hx
    all_goals first | (cases hx; done) | (cases hx; exact ⟨rfl, rfl⟩) | (cases hx; refine ⟨rfl, ?_⟩; simp_all; done) | (cases hx; refine ⟨rfl, ?_⟩; simp_all; (intro hh; first | omega | exact absurd hh (Int32.not_lt.mpr (by assumption))))
  simp only [← Bool.cond_eq_ite] at hs
  obtain ⟨e1, e2⟩ := key _ (show ((match (generalizing := false) st with
    | .ref x :: .int j :: .ref i :: r => (match (generalizing := false) arrL h i 2 with
      | some n => bif inB j n && isO h x 5 then some (pc + 1, lv2, r, (h.1, h.2.1, up2 h.2.2 i j.toNatClampNeg (some x))) else none
      | none => none)
    | _ => none)) = some (pc', l2, st', h2) by first | exact hs | simpa only [Bool.cond_eq_ite] using hs)
  replace e1 : l2 = lv2 := e1
  subst e1
  exact ⟨lv, e2, hu, hu2, hsub⟩
theorem zb_arraylength  {scr : Option (Nat × (Nat → Int32))} {own nL pc len : Nat} {ini : Bool} {lv lv2 l2 : LV} {st st' : List Value} {h h2 : Hp} {pc' : Nat} (hs : zStep scr own nL pc ini (.arraylength) len lv2 st h = some (pc', l2, st', h2)) (hu : uk lv) (hu2 : uk lv2) (hsub : Sub lv2 lv) : ∃ l1, zStep scr own nL pc ini (.arraylength) len lv st h = some (pc', l1, st', h2) ∧ uk l1 ∧ uk l2 ∧ Sub l2 l1 := by
  replace hs : ((match (generalizing := false) st with
    | .ref i :: r => bif Nat.beq i sId then (match (generalizing := false) scr with
      | some (L, _) => some (pc + 1, lv2, .int (Int32.ofNat L) :: r, h)
      | none => none) else (match (generalizing := false) arrL h i 0 with
      | some n => some (pc + 1, lv2, .int (Int32.ofNat n) :: r, h)
      | none => none)
    | _ => none)) = some (pc', l2, st', h2) := hs
  simp only [Bool.cond_eq_ite] at hs
  have key : ∀ x : Cfg, ((match (generalizing := false) st with
    | .ref i :: r => bif Nat.beq i sId then (match (generalizing := false) scr with
      | some (L, _) => some (pc + 1, lv2, .int (Int32.ofNat L) :: r, h)
      | none => none) else (match (generalizing := false) arrL h i 0 with
      | some n => some (pc + 1, lv2, .int (Int32.ofNat n) :: r, h)
      | none => none)
    | _ => none)) = some x → x.2.1 = lv2 ∧ ((match (generalizing := false) st with
    | .ref i :: r => bif Nat.beq i sId then (match (generalizing := false) scr with
      | some (L, _) => some (pc + 1, lv, .int (Int32.ofNat L) :: r, h)
      | none => none) else (match (generalizing := false) arrL h i 0 with
      | some n => some (pc + 1, lv, .int (Int32.ofNat n) :: r, h)
      | none => none)
    | _ => none)) = some (x.1, lv, x.2.2.1, x.2.2.2) := by
    clear hs hu hu2 hsub
    intro x hx
    simp only [Bool.cond_eq_ite] at hx ⊢
    repeat' split at hx
    all_goals first | (cases hx; done) | (cases hx; exact ⟨rfl, rfl⟩) | (cases hx; refine ⟨rfl, ?_⟩; simp_all; done) | (cases hx; refine ⟨rfl, ?_⟩; simp_all; (intro hh; first | omega | exact absurd hh (Int32.not_lt.mpr (by assumption))))
  simp only [← Bool.cond_eq_ite] at hs
  obtain ⟨e1, e2⟩ := key _ (show ((match (generalizing := false) st with
    | .ref i :: r => bif Nat.beq i sId then (match (generalizing := false) scr with
      | some (L, _) => some (pc + 1, lv2, .int (Int32.ofNat L) :: r, h)
      | none => none) else (match (generalizing := false) arrL h i 0 with
      | some n => some (pc + 1, lv2, .int (Int32.ofNat n) :: r, h)
      | none => none)
    | _ => none)) = some (pc', l2, st', h2) by first | exact hs | simpa only [Bool.cond_eq_ite] using hs)
  replace e1 : l2 = lv2 := e1
  subst e1
  exact ⟨lv, e2, hu, hu2, hsub⟩
theorem zb_new (ix : Nat) {scr : Option (Nat × (Nat → Int32))} {own nL pc len : Nat} {ini : Bool} {lv lv2 l2 : LV} {st st' : List Value} {h h2 : Hp} {pc' : Nat} (hs : zStep scr own nL pc ini (.new ix) len lv2 st h = some (pc', l2, st', h2)) (hu : uk lv) (hu2 : uk lv2) (hsub : Sub lv2 lv) : ∃ l1, zStep scr own nL pc ini (.new ix) len lv st h = some (pc', l1, st', h2) ∧ uk l1 ∧ uk l2 ∧ Sub l2 l1 := by
  replace hs : ((match (generalizing := false) lkp (poolOf own) ix with
    | some (11, ci, _, _) => (match (generalizing := false) shp[h.1]? with
      | some (.inl c) => bif Nat.beq c ci then some (pc + 3, lv2, .ref h.1 :: st, (h.1 + 1, (fun a => if a = h.1 then (fun _ => 0) else h.2.1 a), (fun a => if a = h.1 then (fun _ => none) else h.2.2 a))) else none
      | _ => none)
    | _ => none)) = some (pc', l2, st', h2) := hs
  simp only [Bool.cond_eq_ite] at hs
  have key : ∀ x : Cfg, ((match (generalizing := false) lkp (poolOf own) ix with
    | some (11, ci, _, _) => (match (generalizing := false) shp[h.1]? with
      | some (.inl c) => bif Nat.beq c ci then some (pc + 3, lv2, .ref h.1 :: st, (h.1 + 1, (fun a => if a = h.1 then (fun _ => 0) else h.2.1 a), (fun a => if a = h.1 then (fun _ => none) else h.2.2 a))) else none
      | _ => none)
    | _ => none)) = some x → x.2.1 = lv2 ∧ ((match (generalizing := false) lkp (poolOf own) ix with
    | some (11, ci, _, _) => (match (generalizing := false) shp[h.1]? with
      | some (.inl c) => bif Nat.beq c ci then some (pc + 3, lv, .ref h.1 :: st, (h.1 + 1, (fun a => if a = h.1 then (fun _ => 0) else h.2.1 a), (fun a => if a = h.1 then (fun _ => none) else h.2.2 a))) else none
      | _ => none)
    | _ => none)) = some (x.1, lv, x.2.2.1, x.2.2.2) := by
    clear hs hu hu2 hsub
    intro x hx
    simp only [Bool.cond_eq_ite] at hx ⊢
    repeat' split at hx
    all_goals first | (cases hx; done) | (cases hx; exact ⟨rfl, rfl⟩) | (cases hx; refine ⟨rfl, ?_⟩; simp_all; done) | (cases hx; refine ⟨rfl, ?_⟩; simp_all; (intro hh; first | omega | exact absurd hh (Int32.not_lt.mpr (by assumption))))
  simp only [← Bool.cond_eq_ite] at hs
  obtain ⟨e1, e2⟩ := key _ (show ((match (generalizing := false) lkp (poolOf own) ix with
    | some (11, ci, _, _) => (match (generalizing := false) shp[h.1]? with
      | some (.inl c) => bif Nat.beq c ci then some (pc + 3, lv2, .ref h.1 :: st, (h.1 + 1, (fun a => if a = h.1 then (fun _ => 0) else h.2.1 a), (fun a => if a = h.1 then (fun _ => none) else h.2.2 a))) else none
      | _ => none)
    | _ => none)) = some (pc', l2, st', h2) by first | exact hs | simpa only [Bool.cond_eq_ite] using hs)
  replace e1 : l2 = lv2 := e1
  subst e1
  exact ⟨lv, e2, hu, hu2, hsub⟩
theorem zb_newarray (ty : ArrayType) {scr : Option (Nat × (Nat → Int32))} {own nL pc len : Nat} {ini : Bool} {lv lv2 l2 : LV} {st st' : List Value} {h h2 : Hp} {pc' : Nat} (hs : zStep scr own nL pc ini (.newarray ty) len lv2 st h = some (pc', l2, st', h2)) (hu : uk lv) (hu2 : uk lv2) (hsub : Sub lv2 lv) : ∃ l1, zStep scr own nL pc ini (.newarray ty) len lv st h = some (pc', l1, st', h2) ∧ uk l1 ∧ uk l2 ∧ Sub l2 l1 := by
  replace hs : ((match (generalizing := false) st with
    | .int n :: r => (match (generalizing := false) shp[h.1]? with
      | some (.inr (t, N)) => bif ((Nat.beq t 0 && decide (ty = .int)) || (Nat.beq t 1 && decide (ty = .byte))) && decide (0 ≤ n.toInt) && Nat.beq n.toNatClampNeg N then some (pc + 2, lv2, .ref h.1 :: r, (h.1 + 1, (fun a => if a = h.1 then (fun _ => 0) else h.2.1 a), (fun a => if a = h.1 then (fun _ => none) else h.2.2 a))) else none
      | _ => none)
    | _ => none)) = some (pc', l2, st', h2) := hs
  simp only [Bool.cond_eq_ite] at hs
  have key : ∀ x : Cfg, ((match (generalizing := false) st with
    | .int n :: r => (match (generalizing := false) shp[h.1]? with
      | some (.inr (t, N)) => bif ((Nat.beq t 0 && decide (ty = .int)) || (Nat.beq t 1 && decide (ty = .byte))) && decide (0 ≤ n.toInt) && Nat.beq n.toNatClampNeg N then some (pc + 2, lv2, .ref h.1 :: r, (h.1 + 1, (fun a => if a = h.1 then (fun _ => 0) else h.2.1 a), (fun a => if a = h.1 then (fun _ => none) else h.2.2 a))) else none
      | _ => none)
    | _ => none)) = some x → x.2.1 = lv2 ∧ ((match (generalizing := false) st with
    | .int n :: r => (match (generalizing := false) shp[h.1]? with
      | some (.inr (t, N)) => bif ((Nat.beq t 0 && decide (ty = .int)) || (Nat.beq t 1 && decide (ty = .byte))) && decide (0 ≤ n.toInt) && Nat.beq n.toNatClampNeg N then some (pc + 2, lv, .ref h.1 :: r, (h.1 + 1, (fun a => if a = h.1 then (fun _ => 0) else h.2.1 a), (fun a => if a = h.1 then (fun _ => none) else h.2.2 a))) else none
      | _ => none)
    | _ => none)) = some (x.1, lv, x.2.2.1, x.2.2.2) := by
    clear hs hu hu2 hsub
    intro x hx
    simp only [Bool.cond_eq_ite] at hx ⊢
    repeat' split at hx
    all_goals first | (cases hx; done) | (cases hx; exact ⟨rfl, rfl⟩) | (cases hx; refine ⟨rfl, ?_⟩; simp_all; done) | (cases hx; refine ⟨rfl, ?_⟩; simp_all; (intro hh; first | omega | exact absurd hh (Int32.not_lt.mpr (by assumption))))
  simp only [← Bool.cond_eq_ite] at hs
  obtain ⟨e1, e2⟩ := key _ (show ((match (generalizing := false) st with
    | .int n :: r => (match (generalizing := false) shp[h.1]? with
      | some (.inr (t, N)) => bif ((Nat.beq t 0 && decide (ty = .int)) || (Nat.beq t 1 && decide (ty = .byte))) && decide (0 ≤ n.toInt) && Nat.beq n.toNatClampNeg N then some (pc + 2, lv2, .ref h.1 :: r, (h.1 + 1, (fun a => if a = h.1 then (fun _ => 0) else h.2.1 a), (fun a => if a = h.1 then (fun _ => none) else h.2.2 a))) else none
      | _ => none)
    | _ => none)) = some (pc', l2, st', h2) by first | exact hs | simpa only [Bool.cond_eq_ite] using hs)
  replace e1 : l2 = lv2 := e1
  subst e1
  exact ⟨lv, e2, hu, hu2, hsub⟩
theorem zb_anewarray (ix : Nat) {scr : Option (Nat × (Nat → Int32))} {own nL pc len : Nat} {ini : Bool} {lv lv2 l2 : LV} {st st' : List Value} {h h2 : Hp} {pc' : Nat} (hs : zStep scr own nL pc ini (.anewarray ix) len lv2 st h = some (pc', l2, st', h2)) (hu : uk lv) (hu2 : uk lv2) (hsub : Sub lv2 lv) : ∃ l1, zStep scr own nL pc ini (.anewarray ix) len lv st h = some (pc', l1, st', h2) ∧ uk l1 ∧ uk l2 ∧ Sub l2 l1 := by
  replace hs : ((match (generalizing := false) st with
    | .int n :: r => (match (generalizing := false) lkp (poolOf own) ix with
      | some (11, 5, _, _) => (match (generalizing := false) shp[h.1]? with
        | some (.inr (t, N)) => bif Nat.beq t 2 && decide (0 ≤ n.toInt) && Nat.beq n.toNatClampNeg N then some (pc + 3, lv2, .ref h.1 :: r, (h.1 + 1, (fun a => if a = h.1 then (fun _ => 0) else h.2.1 a), (fun a => if a = h.1 then (fun _ => none) else h.2.2 a))) else none
        | _ => none)
      | _ => none)
    | _ => none)) = some (pc', l2, st', h2) := hs
  simp only [Bool.cond_eq_ite] at hs
  have key : ∀ x : Cfg, ((match (generalizing := false) st with
    | .int n :: r => (match (generalizing := false) lkp (poolOf own) ix with
      | some (11, 5, _, _) => (match (generalizing := false) shp[h.1]? with
        | some (.inr (t, N)) => bif Nat.beq t 2 && decide (0 ≤ n.toInt) && Nat.beq n.toNatClampNeg N then some (pc + 3, lv2, .ref h.1 :: r, (h.1 + 1, (fun a => if a = h.1 then (fun _ => 0) else h.2.1 a), (fun a => if a = h.1 then (fun _ => none) else h.2.2 a))) else none
        | _ => none)
      | _ => none)
    | _ => none)) = some x → x.2.1 = lv2 ∧ ((match (generalizing := false) st with
    | .int n :: r => (match (generalizing := false) lkp (poolOf own) ix with
      | some (11, 5, _, _) => (match (generalizing := false) shp[h.1]? with
        | some (.inr (t, N)) => bif Nat.beq t 2 && decide (0 ≤ n.toInt) && Nat.beq n.toNatClampNeg N then some (pc + 3, lv, .ref h.1 :: r, (h.1 + 1, (fun a => if a = h.1 then (fun _ => 0) else h.2.1 a), (fun a => if a = h.1 then (fun _ => none) else h.2.2 a))) else none
        | _ => none)
      | _ => none)
    | _ => none)) = some (x.1, lv, x.2.2.1, x.2.2.2) := by
    clear hs hu hu2 hsub
    intro x hx
    simp only [Bool.cond_eq_ite] at hx ⊢
    repeat' split at hx
    all_goals first | (cases hx; done) | (cases hx; exact ⟨rfl, rfl⟩) | (cases hx; refine ⟨rfl, ?_⟩; simp_all; done) | (cases hx; refine ⟨rfl, ?_⟩; simp_all; (intro hh; first | omega | exact absurd hh (Int32.not_lt.mpr (by assumption))))
  simp only [← Bool.cond_eq_ite] at hs
  obtain ⟨e1, e2⟩ := key _ (show ((match (generalizing := false) st with
    | .int n :: r => (match (generalizing := false) lkp (poolOf own) ix with
      | some (11, 5, _, _) => (match (generalizing := false) shp[h.1]? with
        | some (.inr (t, N)) => bif Nat.beq t 2 && decide (0 ≤ n.toInt) && Nat.beq n.toNatClampNeg N then some (pc + 3, lv2, .ref h.1 :: r, (h.1 + 1, (fun a => if a = h.1 then (fun _ => 0) else h.2.1 a), (fun a => if a = h.1 then (fun _ => none) else h.2.2 a))) else none
        | _ => none)
      | _ => none)
    | _ => none)) = some (pc', l2, st', h2) by first | exact hs | simpa only [Bool.cond_eq_ite] using hs)
  replace e1 : l2 = lv2 := e1
  subst e1
  exact ⟨lv, e2, hu, hu2, hsub⟩
theorem zb_invokespecial (ix : Nat) {scr : Option (Nat × (Nat → Int32))} {own nL pc len : Nat} {ini : Bool} {lv lv2 l2 : LV} {st st' : List Value} {h h2 : Hp} {pc' : Nat} (hs : zStep scr own nL pc ini (.invokespecial ix) len lv2 st h = some (pc', l2, st', h2)) (hu : uk lv) (hu2 : uk lv2) (hsub : Sub lv2 lv) : ∃ l1, zStep scr own nL pc ini (.invokespecial ix) len lv st h = some (pc', l1, st', h2) ∧ uk l1 ∧ uk l2 ∧ Sub l2 l1 := by
  replace hs : ((match (generalizing := false) st with
    | .ref _ :: r => (match (generalizing := false) lkp (poolOf own) ix with
      | some (7, _, _, _) => bif Nat.ble (catS r) 8 then some (pc + 3, lv2, r, h) else none
      | _ => none)
    | _ => none)) = some (pc', l2, st', h2) := hs
  simp only [Bool.cond_eq_ite] at hs
  have key : ∀ x : Cfg, ((match (generalizing := false) st with
    | .ref _ :: r => (match (generalizing := false) lkp (poolOf own) ix with
      | some (7, _, _, _) => bif Nat.ble (catS r) 8 then some (pc + 3, lv2, r, h) else none
      | _ => none)
    | _ => none)) = some x → x.2.1 = lv2 ∧ ((match (generalizing := false) st with
    | .ref _ :: r => (match (generalizing := false) lkp (poolOf own) ix with
      | some (7, _, _, _) => bif Nat.ble (catS r) 8 then some (pc + 3, lv, r, h) else none
      | _ => none)
    | _ => none)) = some (x.1, lv, x.2.2.1, x.2.2.2) := by
    clear hs hu hu2 hsub
    intro x hx
    simp only [Bool.cond_eq_ite] at hx ⊢
    repeat' split at hx
    all_goals first | (cases hx; done) | (cases hx; exact ⟨rfl, rfl⟩) | (cases hx; refine ⟨rfl, ?_⟩; simp_all; done) | (cases hx; refine ⟨rfl, ?_⟩; simp_all; (intro hh; first | omega | exact absurd hh (Int32.not_lt.mpr (by assumption))))
  simp only [← Bool.cond_eq_ite] at hs
  obtain ⟨e1, e2⟩ := key _ (show ((match (generalizing := false) st with
    | .ref _ :: r => (match (generalizing := false) lkp (poolOf own) ix with
      | some (7, _, _, _) => bif Nat.ble (catS r) 8 then some (pc + 3, lv2, r, h) else none
      | _ => none)
    | _ => none)) = some (pc', l2, st', h2) by first | exact hs | simpa only [Bool.cond_eq_ite] using hs)
  replace e1 : l2 = lv2 := e1
  subst e1
  exact ⟨lv, e2, hu, hu2, hsub⟩
theorem zb_invokestatic (ix : Nat) {scr : Option (Nat × (Nat → Int32))} {own nL pc len : Nat} {ini : Bool} {lv lv2 l2 : LV} {st st' : List Value} {h h2 : Hp} {pc' : Nat} (hs : zStep scr own nL pc ini (.invokestatic ix) len lv2 st h = some (pc', l2, st', h2)) (hu : uk lv) (hu2 : uk lv2) (hsub : Sub lv2 lv) : ∃ l1, zStep scr own nL pc ini (.invokestatic ix) len lv st h = some (pc', l1, st', h2) ∧ uk l1 ∧ uk l2 ∧ Sub l2 l1 := by
  replace hs : ((match (generalizing := false) lkp (poolOf own) ix with
    | some (8, _, _, _) => (match (generalizing := false) st with
      | .int n :: .int dp :: .ref d :: .int sp :: .ref a :: r => (match (generalizing := false) arrL h a 0 with
        | some n0 => (match (generalizing := false) arrL h d 0 with
          | some n1 => bif decide (0 ≤ n.toInt) && decide (0 ≤ dp.toInt) && decide (0 ≤ sp.toInt) && Nat.ble (sp.toNatClampNeg + n.toNatClampNeg) n0 && Nat.ble (dp.toNatClampNeg + n.toNatClampNeg) n1 && Nat.ble (catS r) 8 then
              some (pc + 3, lv2, r, (h.1, (fun x => if x = d then va_cpy (h.2.1 a) (h.2.1 d) sp.toNatClampNeg dp.toNatClampNeg n.toNatClampNeg else h.2.1 x), h.2.2)) else none
          | none => none)
        | none => none)
      | _ => none)
    | some (13, _, _, _) => (match (generalizing := false) st with
      | .int y :: .int x :: r => bif Nat.ble (catS r) 8 then some (pc + 3, lv2, .int (if x < y then y else x) :: r, h) else none
      | _ => none)
    | some (14, _, _, _) => (match (generalizing := false) st with
      | .int y :: .int x :: r => bif Nat.ble (catS r) 8 then some (pc + 3, lv2, .int (if y < x then y else x) :: r, h) else none
      | _ => none)
    | _ => none)) = some (pc', l2, st', h2) := hs
  simp only [Bool.cond_eq_ite] at hs
  have key : ∀ x : Cfg, ((match (generalizing := false) lkp (poolOf own) ix with
    | some (8, _, _, _) => (match (generalizing := false) st with
      | .int n :: .int dp :: .ref d :: .int sp :: .ref a :: r => (match (generalizing := false) arrL h a 0 with
        | some n0 => (match (generalizing := false) arrL h d 0 with
          | some n1 => bif decide (0 ≤ n.toInt) && decide (0 ≤ dp.toInt) && decide (0 ≤ sp.toInt) && Nat.ble (sp.toNatClampNeg + n.toNatClampNeg) n0 && Nat.ble (dp.toNatClampNeg + n.toNatClampNeg) n1 && Nat.ble (catS r) 8 then
              some (pc + 3, lv2, r, (h.1, (fun x => if x = d then va_cpy (h.2.1 a) (h.2.1 d) sp.toNatClampNeg dp.toNatClampNeg n.toNatClampNeg else h.2.1 x), h.2.2)) else none
          | none => none)
        | none => none)
      | _ => none)
    | some (13, _, _, _) => (match (generalizing := false) st with
      | .int y :: .int x :: r => bif Nat.ble (catS r) 8 then some (pc + 3, lv2, .int (if x < y then y else x) :: r, h) else none
      | _ => none)
    | some (14, _, _, _) => (match (generalizing := false) st with
      | .int y :: .int x :: r => bif Nat.ble (catS r) 8 then some (pc + 3, lv2, .int (if y < x then y else x) :: r, h) else none
      | _ => none)
    | _ => none)) = some x → x.2.1 = lv2 ∧ ((match (generalizing := false) lkp (poolOf own) ix with
    | some (8, _, _, _) => (match (generalizing := false) st with
      | .int n :: .int dp :: .ref d :: .int sp :: .ref a :: r => (match (generalizing := false) arrL h a 0 with
        | some n0 => (match (generalizing := false) arrL h d 0 with
          | some n1 => bif decide (0 ≤ n.toInt) && decide (0 ≤ dp.toInt) && decide (0 ≤ sp.toInt) && Nat.ble (sp.toNatClampNeg + n.toNatClampNeg) n0 && Nat.ble (dp.toNatClampNeg + n.toNatClampNeg) n1 && Nat.ble (catS r) 8 then
              some (pc + 3, lv, r, (h.1, (fun x => if x = d then va_cpy (h.2.1 a) (h.2.1 d) sp.toNatClampNeg dp.toNatClampNeg n.toNatClampNeg else h.2.1 x), h.2.2)) else none
          | none => none)
        | none => none)
      | _ => none)
    | some (13, _, _, _) => (match (generalizing := false) st with
      | .int y :: .int x :: r => bif Nat.ble (catS r) 8 then some (pc + 3, lv, .int (if x < y then y else x) :: r, h) else none
      | _ => none)
    | some (14, _, _, _) => (match (generalizing := false) st with
      | .int y :: .int x :: r => bif Nat.ble (catS r) 8 then some (pc + 3, lv, .int (if y < x then y else x) :: r, h) else none
      | _ => none)
    | _ => none)) = some (x.1, lv, x.2.2.1, x.2.2.2) := by
    clear hs hu hu2 hsub
    intro x hx
    simp only [Bool.cond_eq_ite] at hx ⊢
    repeat' split at hx
    all_goals first | (cases hx; done) | (cases hx; exact ⟨rfl, rfl⟩) | (cases hx; refine ⟨rfl, ?_⟩; simp_all; done) | (cases hx; refine ⟨rfl, ?_⟩; simp_all; (intro hh; first | omega | exact absurd hh (Int32.not_lt.mpr (by assumption))))
  simp only [← Bool.cond_eq_ite] at hs
  obtain ⟨e1, e2⟩ := key _ (show ((match (generalizing := false) lkp (poolOf own) ix with
    | some (8, _, _, _) => (match (generalizing := false) st with
      | .int n :: .int dp :: .ref d :: .int sp :: .ref a :: r => (match (generalizing := false) arrL h a 0 with
        | some n0 => (match (generalizing := false) arrL h d 0 with
          | some n1 => bif decide (0 ≤ n.toInt) && decide (0 ≤ dp.toInt) && decide (0 ≤ sp.toInt) && Nat.ble (sp.toNatClampNeg + n.toNatClampNeg) n0 && Nat.ble (dp.toNatClampNeg + n.toNatClampNeg) n1 && Nat.ble (catS r) 8 then
              some (pc + 3, lv2, r, (h.1, (fun x => if x = d then va_cpy (h.2.1 a) (h.2.1 d) sp.toNatClampNeg dp.toNatClampNeg n.toNatClampNeg else h.2.1 x), h.2.2)) else none
          | none => none)
        | none => none)
      | _ => none)
    | some (13, _, _, _) => (match (generalizing := false) st with
      | .int y :: .int x :: r => bif Nat.ble (catS r) 8 then some (pc + 3, lv2, .int (if x < y then y else x) :: r, h) else none
      | _ => none)
    | some (14, _, _, _) => (match (generalizing := false) st with
      | .int y :: .int x :: r => bif Nat.ble (catS r) 8 then some (pc + 3, lv2, .int (if y < x then y else x) :: r, h) else none
      | _ => none)
    | _ => none)) = some (pc', l2, st', h2) by first | exact hs | simpa only [Bool.cond_eq_ite] using hs)
  replace e1 : l2 = lv2 := e1
  subst e1
  exact ⟨lv, e2, hu, hu2, hsub⟩
theorem zStep_sub {ins : Instr} {scr : Option (Nat × (Nat → Int32))} {own nL pc len : Nat} {ini : Bool} {lv lv2 l2 : LV} {st st' : List Value} {h h2 : Hp} {pc' : Nat} (hs : zStep scr own nL pc ini ins len lv2 st h = some (pc', l2, st', h2)) (hu : uk lv) (hu2 : uk lv2) (hsub : Sub lv2 lv) : ∃ l1, zStep scr own nL pc ini (ins) len lv st h = some (pc', l1, st', h2) ∧ uk l1 ∧ uk l2 ∧ Sub l2 l1 := by
  cases ins with
  | iconst i => exact zb_iconst i hs hu hu2 hsub
  | bipush i => exact zb_bipush i hs hu hu2 hsub
  | sipush i => exact zb_sipush i hs hu hu2 hsub
  | lconst i => exact zb_lconst i hs hu hu2 hsub
  | ldc ix => exact zb_ldc ix hs hu hu2 hsub
  | ldc_w ix => exact zb_ldc_w ix hs hu hu2 hsub
  | ldc2_w ix => exact zb_ldc2_w ix hs hu hu2 hsub
  | iload_n i => exact zb_iload_n i hs hu hu2 hsub
  | iload i => exact zb_iload i hs hu hu2 hsub
  | lload_n i => exact zb_lload_n i hs hu hu2 hsub
  | lload i => exact zb_lload i hs hu hu2 hsub
  | aload_n i => exact zb_aload_n i hs hu hu2 hsub
  | aload i => exact zb_aload i hs hu hu2 hsub
  | istore_n i => exact zb_istore_n i hs hu hu2 hsub
  | istore i => exact zb_istore i hs hu hu2 hsub
  | lstore_n i => exact zb_lstore_n i hs hu hu2 hsub
  | lstore i => exact zb_lstore i hs hu hu2 hsub
  | astore_n i => exact zb_astore_n i hs hu hu2 hsub
  | astore i => exact zb_astore i hs hu hu2 hsub
  | iinc i n => exact zb_iinc i n hs hu hu2 hsub
  | dup => exact zb_dup  hs hu hu2 hsub
  | dup2 => exact zb_dup2  hs hu hu2 hsub
  | pop => exact zb_pop  hs hu hu2 hsub
  | iadd => exact zb_iadd  hs hu hu2 hsub
  | isub => exact zb_isub  hs hu hu2 hsub
  | imul => exact zb_imul  hs hu hu2 hsub
  | idiv => exact zb_idiv  hs hu hu2 hsub
  | irem => exact zb_irem  hs hu hu2 hsub
  | ineg => exact zb_ineg  hs hu hu2 hsub
  | ishl => exact zb_ishl  hs hu hu2 hsub
  | ishr => exact zb_ishr  hs hu hu2 hsub
  | iushr => exact zb_iushr  hs hu hu2 hsub
  | iand => exact zb_iand  hs hu hu2 hsub
  | ior => exact zb_ior  hs hu hu2 hsub
  | ixor => exact zb_ixor  hs hu hu2 hsub
  | i2l => exact zb_i2l  hs hu hu2 hsub
  | i2b => exact zb_i2b  hs hu hu2 hsub
  | l2i => exact zb_l2i  hs hu hu2 hsub
  | ladd => exact zb_ladd  hs hu hu2 hsub
  | lsub => exact zb_lsub  hs hu hu2 hsub
  | lmul => exact zb_lmul  hs hu hu2 hsub
  | ldiv => exact zb_ldiv  hs hu hu2 hsub
  | lrem => exact zb_lrem  hs hu hu2 hsub
  | land => exact zb_land  hs hu hu2 hsub
  | lor => exact zb_lor  hs hu hu2 hsub
  | lshl => exact zb_lshl  hs hu hu2 hsub
  | lshr => exact zb_lshr  hs hu hu2 hsub
  | lcmp => exact zb_lcmp  hs hu hu2 hsub
  | goto off => exact zb_goto off hs hu hu2 hsub
  | if_icmp c0 off => exact zb_if_icmp c0 off hs hu hu2 hsub
  | ifCond c0 off => exact zb_ifCond c0 off hs hu hu2 hsub
  | tableswitch d lo hi offs => exact zb_tableswitch d lo hi offs hs hu hu2 hsub
  | lookupswitch d ps => exact zb_lookupswitch d ps hs hu hu2 hsub
  | getfield ix => exact zb_getfield ix hs hu hu2 hsub
  | putfield ix => exact zb_putfield ix hs hu hu2 hsub
  | iaload => exact zb_iaload  hs hu hu2 hsub
  | baload => exact zb_baload  hs hu hu2 hsub
  | aaload => exact zb_aaload  hs hu hu2 hsub
  | iastore => exact zb_iastore  hs hu hu2 hsub
  | bastore => exact zb_bastore  hs hu hu2 hsub
  | aastore => exact zb_aastore  hs hu hu2 hsub
  | arraylength => exact zb_arraylength  hs hu hu2 hsub
  | new ix => exact zb_new ix hs hu hu2 hsub
  | newarray ty => exact zb_newarray ty hs hu hu2 hsub
  | anewarray ix => exact zb_anewarray ix hs hu hu2 hsub
  | invokespecial ix => exact zb_invokespecial ix hs hu hu2 hsub
  | invokestatic ix => exact zb_invokestatic ix hs hu hu2 hsub
  | _ => exact nomatch (show (none : Option Cfg) = some _ from hs)
theorem z_sub : ∀ (n : Nat) (scr : Option (Nat × (Nat → Int32))) (me : ME) (pc : Nat) (lv lv2 : LV) (st : List Value) (h : Hp) (x : Option Value × Hp), zRun scr n me pc lv2 st h = some x → uk lv → uk lv2 → Sub lv2 lv → zRun scr n me pc lv st h = some x := by
  intro n
  induction n with
  | zero => intro scr me pc lv lv2 st h x hrun; cases hrun
  | succ n ih =>
    intro scr me pc lv lv2 st h x hrun hu hu2 hsub
    rw [zRun] at hrun ⊢
    cases hlk : lkp me.2.2.2.2.2.1 pc with
    | none => rw [hlk] at hrun; cases hrun
    | some il =>
      obtain ⟨ins, len⟩ := il
      rw [hlk] at hrun
      dsimp only at hrun ⊢
      cases hz : zRet me.2.2.2.2.1 ins st with
      | some r => rw [hz] at hrun; exact hrun
      | none =>
        rw [hz] at hrun
        dsimp only at hrun ⊢
        cases hc : zCall me.1 h ins st with
        | some q =>
          obtain ⟨me', as, rest⟩ := q
          rw [hc] at hrun
          dsimp only at hrun ⊢
          cases h1 : zRun none n me' 0 (lv_args 0 as) [] h with
          | none => rw [h1] at hrun; cases hrun
          | some y =>
            obtain ⟨r1, h1'⟩ := y
            rw [h1] at hrun
            exact ih _ _ _ _ _ _ _ _ hrun hu hu2 hsub
        | none =>
          rw [hc] at hrun
          dsimp only at hrun ⊢
          cases hs : zStep scr me.1 me.2.2.2.1 pc (isIni me) ins len lv2 st h with
          | none => rw [hs] at hrun; cases hrun
          | some q =>
            obtain ⟨pc', l2, st', h2⟩ := q
            rw [hs] at hrun
            obtain ⟨l1, e1, u1, u2, s1⟩ := zStep_sub hs hu hu2 hsub
            rw [e1]
            exact ih _ _ _ _ _ _ _ _ hrun u1 u2 s1
def SubP : LV → LV → Prop
  | [], _ => True
  | (i, v) :: l, lv => lkp lv i = some v ∧ SubP l lv
theorem SubP.sub : ∀ {l lv : LV}, SubP l lv → Sub l lv
  | [], lv, _ => fun i v h => by cases h
  | (i, v) :: l, lv, ⟨h1, h2⟩ => fun j w h => by
    rw [lkp_cons] at h
    by_cases hij : i = j
    · rw [if_pos hij] at h; cases h; rw [← hij]; exact h1
    · rw [if_neg hij] at h; exact SubP.sub h2 j w h
def ukB : List Nat → Bool
  | [] => true
  | a :: l => !l.contains a && ukB l
theorem uk_of : ∀ {lv : LV}, ukB (lv.map (fun q => q.1)) = true → uk lv
  | [], _ => fun q hq => by cases hq
  | e :: l, h => by
    replace h : (!(l.map (fun q => q.1)).contains e.1 && ukB (l.map (fun q => q.1))) = true := h
    rw [Bool.and_eq_true] at h
    intro q hq
    rw [lkp_cons]
    rcases List.mem_cons.mp hq with rfl | hq
    · exact if_pos rfl
    · have hne : ¬ e.1 = q.1 := by
        intro he
        have h1 : (l.map (fun q => q.1)).contains e.1 = false := by simpa using h.1
        have h2 : (l.map (fun q => q.1)).contains e.1 = true := by
          rw [List.contains_iff_mem, he]
          exact List.mem_map.mpr ⟨q, hq, rfl⟩
        rw [h1] at h2
        cases h2
      rw [if_neg hne]
      exact uk_of h.2 q hq
section
variable {scr : Option (Nat × (Nat → Int32))} {me : ME} {pc t : Nat} {lv lv2 : LV} {st rest : List Value} {h h' : Hp} {r : Option Value} {off : Int}
theorem TT_sub (hu : ukB (lv.map (fun q => q.1)) = true) (hu2 : ukB (lv2.map (fun q => q.1)) = true) (hs : SubP lv2 lv) (k : TT scr me pc lv2 st h r h') : TT scr me pc lv st h r h' := by
  obtain ⟨n, hn⟩ := k
  exact ⟨n, z_sub n scr me pc lv lv2 st h _ hn (uk_of hu) (uk_of hu2) hs.sub⟩
theorem TT_ieq_t {x y : Int32} (hl : lkp me.2.2.2.2.2.1 pc = some (.if_icmp .eq off, 3)) (hj : jmp pc off = some t) (hc : x = y) (k : TT scr me t lv rest h r h') : TT scr me pc lv (.int y :: .int x :: rest) h r h' := by
  refine TT_step hl rfl rfl ?_ k
  show (match (generalizing := false) jmp pc off with | some t => if cnd .eq x y = true then some (t, lv, rest, h) else some (pc + 3, lv, rest, h) | none => none) = _
  rw [hj]
  exact if_pos (by simpa [cnd] using hc)
theorem TT_ieq_f {x y : Int32} (hl : lkp me.2.2.2.2.2.1 pc = some (.if_icmp .eq off, 3)) (hj : jmp pc off = some t) (hc : ¬ (x = y)) (k : TT scr me (pc + 3) lv rest h r h') : TT scr me pc lv (.int y :: .int x :: rest) h r h' := by
  refine TT_step hl rfl rfl ?_ k
  show (match (generalizing := false) jmp pc off with | some t => if cnd .eq x y = true then some (t, lv, rest, h) else some (pc + 3, lv, rest, h) | none => none) = _
  rw [hj]
  exact if_neg (by simpa [cnd] using hc)
theorem TT_zeq_t {x : Int32} (hl : lkp me.2.2.2.2.2.1 pc = some (.ifCond .eq off, 3)) (hj : jmp pc off = some t) (hc : x = 0) (k : TT scr me t lv rest h r h') : TT scr me pc lv (.int x :: rest) h r h' := by
  refine TT_step hl rfl rfl ?_ k
  show (match (generalizing := false) jmp pc off with | some t => if cnd .eq x 0 = true then some (t, lv, rest, h) else some (pc + 3, lv, rest, h) | none => none) = _
  rw [hj]
  exact if_pos (by simpa [cnd] using hc)
theorem TT_zeq_f {x : Int32} (hl : lkp me.2.2.2.2.2.1 pc = some (.ifCond .eq off, 3)) (hj : jmp pc off = some t) (hc : ¬ (x = 0)) (k : TT scr me (pc + 3) lv rest h r h') : TT scr me pc lv (.int x :: rest) h r h' := by
  refine TT_step hl rfl rfl ?_ k
  show (match (generalizing := false) jmp pc off with | some t => if cnd .eq x 0 = true then some (t, lv, rest, h) else some (pc + 3, lv, rest, h) | none => none) = _
  rw [hj]
  exact if_neg (by simpa [cnd] using hc)
theorem TT_ine_t {x y : Int32} (hl : lkp me.2.2.2.2.2.1 pc = some (.if_icmp .ne off, 3)) (hj : jmp pc off = some t) (hc : ¬ x = y) (k : TT scr me t lv rest h r h') : TT scr me pc lv (.int y :: .int x :: rest) h r h' := by
  refine TT_step hl rfl rfl ?_ k
  show (match (generalizing := false) jmp pc off with | some t => if cnd .ne x y = true then some (t, lv, rest, h) else some (pc + 3, lv, rest, h) | none => none) = _
  rw [hj]
  exact if_pos (by simpa [cnd] using hc)
theorem TT_ine_f {x y : Int32} (hl : lkp me.2.2.2.2.2.1 pc = some (.if_icmp .ne off, 3)) (hj : jmp pc off = some t) (hc : x = y) (k : TT scr me (pc + 3) lv rest h r h') : TT scr me pc lv (.int y :: .int x :: rest) h r h' := by
  refine TT_step hl rfl rfl ?_ k
  show (match (generalizing := false) jmp pc off with | some t => if cnd .ne x y = true then some (t, lv, rest, h) else some (pc + 3, lv, rest, h) | none => none) = _
  rw [hj]
  exact if_neg (by simpa [cnd] using hc)
theorem TT_zne_t {x : Int32} (hl : lkp me.2.2.2.2.2.1 pc = some (.ifCond .ne off, 3)) (hj : jmp pc off = some t) (hc : ¬ x = 0) (k : TT scr me t lv rest h r h') : TT scr me pc lv (.int x :: rest) h r h' := by
  refine TT_step hl rfl rfl ?_ k
  show (match (generalizing := false) jmp pc off with | some t => if cnd .ne x 0 = true then some (t, lv, rest, h) else some (pc + 3, lv, rest, h) | none => none) = _
  rw [hj]
  exact if_pos (by simpa [cnd] using hc)
theorem TT_zne_f {x : Int32} (hl : lkp me.2.2.2.2.2.1 pc = some (.ifCond .ne off, 3)) (hj : jmp pc off = some t) (hc : x = 0) (k : TT scr me (pc + 3) lv rest h r h') : TT scr me pc lv (.int x :: rest) h r h' := by
  refine TT_step hl rfl rfl ?_ k
  show (match (generalizing := false) jmp pc off with | some t => if cnd .ne x 0 = true then some (t, lv, rest, h) else some (pc + 3, lv, rest, h) | none => none) = _
  rw [hj]
  exact if_neg (by simpa [cnd] using hc)
theorem TT_ilt_t {x y : Int32} (hl : lkp me.2.2.2.2.2.1 pc = some (.if_icmp .lt off, 3)) (hj : jmp pc off = some t) (hc : x < y) (k : TT scr me t lv rest h r h') : TT scr me pc lv (.int y :: .int x :: rest) h r h' := by
  refine TT_step hl rfl rfl ?_ k
  show (match (generalizing := false) jmp pc off with | some t => if cnd .lt x y = true then some (t, lv, rest, h) else some (pc + 3, lv, rest, h) | none => none) = _
  rw [hj]
  exact if_pos (by simpa [cnd] using hc)
theorem TT_ilt_f {x y : Int32} (hl : lkp me.2.2.2.2.2.1 pc = some (.if_icmp .lt off, 3)) (hj : jmp pc off = some t) (hc : ¬ (x < y)) (k : TT scr me (pc + 3) lv rest h r h') : TT scr me pc lv (.int y :: .int x :: rest) h r h' := by
  refine TT_step hl rfl rfl ?_ k
  show (match (generalizing := false) jmp pc off with | some t => if cnd .lt x y = true then some (t, lv, rest, h) else some (pc + 3, lv, rest, h) | none => none) = _
  rw [hj]
  exact if_neg (by simpa [cnd] using hc)
theorem TT_zlt_t {x : Int32} (hl : lkp me.2.2.2.2.2.1 pc = some (.ifCond .lt off, 3)) (hj : jmp pc off = some t) (hc : x < 0) (k : TT scr me t lv rest h r h') : TT scr me pc lv (.int x :: rest) h r h' := by
  refine TT_step hl rfl rfl ?_ k
  show (match (generalizing := false) jmp pc off with | some t => if cnd .lt x 0 = true then some (t, lv, rest, h) else some (pc + 3, lv, rest, h) | none => none) = _
  rw [hj]
  exact if_pos (by simpa [cnd] using hc)
theorem TT_zlt_f {x : Int32} (hl : lkp me.2.2.2.2.2.1 pc = some (.ifCond .lt off, 3)) (hj : jmp pc off = some t) (hc : ¬ (x < 0)) (k : TT scr me (pc + 3) lv rest h r h') : TT scr me pc lv (.int x :: rest) h r h' := by
  refine TT_step hl rfl rfl ?_ k
  show (match (generalizing := false) jmp pc off with | some t => if cnd .lt x 0 = true then some (t, lv, rest, h) else some (pc + 3, lv, rest, h) | none => none) = _
  rw [hj]
  exact if_neg (by simpa [cnd] using hc)
theorem TT_ige_t {x y : Int32} (hl : lkp me.2.2.2.2.2.1 pc = some (.if_icmp .ge off, 3)) (hj : jmp pc off = some t) (hc : y ≤ x) (k : TT scr me t lv rest h r h') : TT scr me pc lv (.int y :: .int x :: rest) h r h' := by
  refine TT_step hl rfl rfl ?_ k
  show (match (generalizing := false) jmp pc off with | some t => if cnd .ge x y = true then some (t, lv, rest, h) else some (pc + 3, lv, rest, h) | none => none) = _
  rw [hj]
  exact if_pos (by simpa [cnd] using hc)
theorem TT_ige_f {x y : Int32} (hl : lkp me.2.2.2.2.2.1 pc = some (.if_icmp .ge off, 3)) (hj : jmp pc off = some t) (hc : ¬ (y ≤ x)) (k : TT scr me (pc + 3) lv rest h r h') : TT scr me pc lv (.int y :: .int x :: rest) h r h' := by
  refine TT_step hl rfl rfl ?_ k
  show (match (generalizing := false) jmp pc off with | some t => if cnd .ge x y = true then some (t, lv, rest, h) else some (pc + 3, lv, rest, h) | none => none) = _
  rw [hj]
  exact if_neg (by simpa [cnd] using hc)
theorem TT_zge_t {x : Int32} (hl : lkp me.2.2.2.2.2.1 pc = some (.ifCond .ge off, 3)) (hj : jmp pc off = some t) (hc : 0 ≤ x) (k : TT scr me t lv rest h r h') : TT scr me pc lv (.int x :: rest) h r h' := by
  refine TT_step hl rfl rfl ?_ k
  show (match (generalizing := false) jmp pc off with | some t => if cnd .ge x 0 = true then some (t, lv, rest, h) else some (pc + 3, lv, rest, h) | none => none) = _
  rw [hj]
  exact if_pos (by simpa [cnd] using hc)
theorem TT_zge_f {x : Int32} (hl : lkp me.2.2.2.2.2.1 pc = some (.ifCond .ge off, 3)) (hj : jmp pc off = some t) (hc : ¬ (0 ≤ x)) (k : TT scr me (pc + 3) lv rest h r h') : TT scr me pc lv (.int x :: rest) h r h' := by
  refine TT_step hl rfl rfl ?_ k
  show (match (generalizing := false) jmp pc off with | some t => if cnd .ge x 0 = true then some (t, lv, rest, h) else some (pc + 3, lv, rest, h) | none => none) = _
  rw [hj]
  exact if_neg (by simpa [cnd] using hc)
theorem TT_igt_t {x y : Int32} (hl : lkp me.2.2.2.2.2.1 pc = some (.if_icmp .gt off, 3)) (hj : jmp pc off = some t) (hc : y < x) (k : TT scr me t lv rest h r h') : TT scr me pc lv (.int y :: .int x :: rest) h r h' := by
  refine TT_step hl rfl rfl ?_ k
  show (match (generalizing := false) jmp pc off with | some t => if cnd .gt x y = true then some (t, lv, rest, h) else some (pc + 3, lv, rest, h) | none => none) = _
  rw [hj]
  exact if_pos (by simpa [cnd] using hc)
theorem TT_igt_f {x y : Int32} (hl : lkp me.2.2.2.2.2.1 pc = some (.if_icmp .gt off, 3)) (hj : jmp pc off = some t) (hc : ¬ (y < x)) (k : TT scr me (pc + 3) lv rest h r h') : TT scr me pc lv (.int y :: .int x :: rest) h r h' := by
  refine TT_step hl rfl rfl ?_ k
  show (match (generalizing := false) jmp pc off with | some t => if cnd .gt x y = true then some (t, lv, rest, h) else some (pc + 3, lv, rest, h) | none => none) = _
  rw [hj]
  exact if_neg (by simpa [cnd] using hc)
theorem TT_zgt_t {x : Int32} (hl : lkp me.2.2.2.2.2.1 pc = some (.ifCond .gt off, 3)) (hj : jmp pc off = some t) (hc : 0 < x) (k : TT scr me t lv rest h r h') : TT scr me pc lv (.int x :: rest) h r h' := by
  refine TT_step hl rfl rfl ?_ k
  show (match (generalizing := false) jmp pc off with | some t => if cnd .gt x 0 = true then some (t, lv, rest, h) else some (pc + 3, lv, rest, h) | none => none) = _
  rw [hj]
  exact if_pos (by simpa [cnd] using hc)
theorem TT_zgt_f {x : Int32} (hl : lkp me.2.2.2.2.2.1 pc = some (.ifCond .gt off, 3)) (hj : jmp pc off = some t) (hc : ¬ (0 < x)) (k : TT scr me (pc + 3) lv rest h r h') : TT scr me pc lv (.int x :: rest) h r h' := by
  refine TT_step hl rfl rfl ?_ k
  show (match (generalizing := false) jmp pc off with | some t => if cnd .gt x 0 = true then some (t, lv, rest, h) else some (pc + 3, lv, rest, h) | none => none) = _
  rw [hj]
  exact if_neg (by simpa [cnd] using hc)
theorem TT_ile_t {x y : Int32} (hl : lkp me.2.2.2.2.2.1 pc = some (.if_icmp .le off, 3)) (hj : jmp pc off = some t) (hc : x ≤ y) (k : TT scr me t lv rest h r h') : TT scr me pc lv (.int y :: .int x :: rest) h r h' := by
  refine TT_step hl rfl rfl ?_ k
  show (match (generalizing := false) jmp pc off with | some t => if cnd .le x y = true then some (t, lv, rest, h) else some (pc + 3, lv, rest, h) | none => none) = _
  rw [hj]
  exact if_pos (by simpa [cnd] using hc)
theorem TT_ile_f {x y : Int32} (hl : lkp me.2.2.2.2.2.1 pc = some (.if_icmp .le off, 3)) (hj : jmp pc off = some t) (hc : ¬ (x ≤ y)) (k : TT scr me (pc + 3) lv rest h r h') : TT scr me pc lv (.int y :: .int x :: rest) h r h' := by
  refine TT_step hl rfl rfl ?_ k
  show (match (generalizing := false) jmp pc off with | some t => if cnd .le x y = true then some (t, lv, rest, h) else some (pc + 3, lv, rest, h) | none => none) = _
  rw [hj]
  exact if_neg (by simpa [cnd] using hc)
theorem TT_zle_t {x : Int32} (hl : lkp me.2.2.2.2.2.1 pc = some (.ifCond .le off, 3)) (hj : jmp pc off = some t) (hc : x ≤ 0) (k : TT scr me t lv rest h r h') : TT scr me pc lv (.int x :: rest) h r h' := by
  refine TT_step hl rfl rfl ?_ k
  show (match (generalizing := false) jmp pc off with | some t => if cnd .le x 0 = true then some (t, lv, rest, h) else some (pc + 3, lv, rest, h) | none => none) = _
  rw [hj]
  exact if_pos (by simpa [cnd] using hc)
theorem TT_zle_f {x : Int32} (hl : lkp me.2.2.2.2.2.1 pc = some (.ifCond .le off, 3)) (hj : jmp pc off = some t) (hc : ¬ (x ≤ 0)) (k : TT scr me (pc + 3) lv rest h r h') : TT scr me pc lv (.int x :: rest) h r h' := by
  refine TT_step hl rfl rfl ?_ k
  show (match (generalizing := false) jmp pc off with | some t => if cnd .le x 0 = true then some (t, lv, rest, h) else some (pc + 3, lv, rest, h) | none => none) = _
  rw [hj]
  exact if_neg (by simpa [cnd] using hc)
theorem arrL_ns {h : Hp} {i t n : Nat} (ha : arrL h i t = some n) : Nat.beq i sId = false := by
  have := shp_lt (arrL_spec ha).2
  cases hb : Nat.beq i sId with
  | false => rfl
  | true => have := Nat.eq_of_beq_eq_true hb; unfold sId at this; omega
theorem TT_iald {i n : Nat} {j : Int32} (hl : lkp me.2.2.2.2.2.1 pc = some (.iaload, 1)) (ha : arrL h i 0 = some n) (hb : inB j n = true) (k : TT scr me (pc + 1) lv (.int (h.2.1 i j.toNatClampNeg) :: rest) h r h') : TT scr me pc lv (.int j :: .ref i :: rest) h r h' := by
  refine TT_step hl rfl rfl ?_ k
  show (bif Nat.beq i sId then _ else (match (generalizing := false) arrL h i 0 with | some n => bif inB j n then some (pc + 1, lv, Value.int (h.2.1 i j.toNatClampNeg) :: rest, h) else none | none => none)) = _
  rw [arrL_ns ha, ha]
  dsimp only
  rw [hb]
  rfl
theorem TT_bald {i n : Nat} {j : Int32} (hl : lkp me.2.2.2.2.2.1 pc = some (.baload, 1)) (ha : arrL h i 1 = some n) (hb : inB j n = true) (k : TT scr me (pc + 1) lv (.int (h.2.1 i j.toNatClampNeg) :: rest) h r h') : TT scr me pc lv (.int j :: .ref i :: rest) h r h' := by
  refine TT_step hl rfl rfl ?_ k
  show (match (generalizing := false) arrL h i 1 with | some n => bif inB j n then some (pc + 1, lv, Value.int (h.2.1 i j.toNatClampNeg) :: rest, h) else none | none => none) = _
  rw [ha]
  dsimp only
  rw [hb]
  rfl
theorem TT_iast {i n : Nat} {j x : Int32} (hl : lkp me.2.2.2.2.2.1 pc = some (.iastore, 1)) (ha : arrL h i 0 = some n) (hb : inB j n = true) (k : TT scr me (pc + 1) lv rest (h.1, up2 h.2.1 i j.toNatClampNeg x, h.2.2) r h') : TT scr me pc lv (.int x :: .int j :: .ref i :: rest) h r h' := by
  refine TT_step hl rfl rfl ?_ k
  show (match (generalizing := false) arrL h i 0 with | some n => bif inB j n then some (pc + 1, lv, rest, (h.1, up2 h.2.1 i j.toNatClampNeg x, h.2.2)) else none | none => none) = _
  rw [ha]
  dsimp only
  rw [hb]
  rfl
theorem TT_bast {i n : Nat} {j x : Int32} (hl : lkp me.2.2.2.2.2.1 pc = some (.bastore, 1)) (ha : arrL h i 1 = some n) (hb : inB j n = true) (k : TT scr me (pc + 1) lv rest (h.1, up2 h.2.1 i j.toNatClampNeg (vp_nar .byte x), h.2.2) r h') : TT scr me pc lv (.int x :: .int j :: .ref i :: rest) h r h' := by
  refine TT_step hl rfl rfl ?_ k
  show (match (generalizing := false) arrL h i 1 with | some n => bif inB j n then some (pc + 1, lv, rest, (h.1, up2 h.2.1 i j.toNatClampNeg (vp_nar .byte x), h.2.2)) else none | none => none) = _
  rw [ha]
  dsimp only
  rw [hb]
  rfl
theorem TT_idiv {x y : Int32} (hl : lkp me.2.2.2.2.2.1 pc = some (.idiv, 1)) (hb : ¬ y = 0) (k : TT scr me (pc + 1) lv (.int (x / y) :: rest) h r h') : TT scr me pc lv (.int y :: .int x :: rest) h r h' := by
  exact TT_step hl rfl rfl (if_neg hb) k
theorem TT_irem {x y : Int32} (hl : lkp me.2.2.2.2.2.1 pc = some (.irem, 1)) (hb : ¬ y = 0) (k : TT scr me (pc + 1) lv (.int (x - x / y * y) :: rest) h r h') : TT scr me pc lv (.int y :: .int x :: rest) h r h' := by
  exact TT_step hl rfl rfl (if_neg hb) k
theorem TT_ldiv {x y : Int64} (hl : lkp me.2.2.2.2.2.1 pc = some (.ldiv, 1)) (hb : ¬ y = 0) (k : TT scr me (pc + 1) lv (.long (x / y) :: rest) h r h') : TT scr me pc lv (.long y :: .long x :: rest) h r h' := by
  exact TT_step hl rfl rfl (if_neg hb) k
theorem TT_lrem {x y : Int64} (hl : lkp me.2.2.2.2.2.1 pc = some (.lrem, 1)) (hb : ¬ y = 0) (k : TT scr me (pc + 1) lv (.long (x - x / y * y) :: rest) h r h') : TT scr me pc lv (.long y :: .long x :: rest) h r h' := by
  exact TT_step hl rfl rfl (if_neg hb) k
theorem TT_tout {x : Int32} {d lo hi : Int} {offs : Array Int} {len : Nat} (hl : lkp me.2.2.2.2.2.1 pc = some (.tableswitch d lo hi offs, len)) (hx : x.toInt < lo ∨ hi < x.toInt) (hj : jmp pc d = some t) (k : TT scr me t lv rest h r h') : TT scr me pc lv (.int x :: rest) h r h' := by
  refine TT_step hl rfl rfl ?_ k
  show (if x.toInt < lo ∨ hi < x.toInt then (match (generalizing := false) jmp pc d with
        | some t => some (t, lv, rest, h)
        | none => none) else _) = _
  rw [if_pos hx, hj]
theorem TT_tin {x : Int32} {d lo hi off : Int} {offs : Array Int} {len : Nat} (hl : lkp me.2.2.2.2.2.1 pc = some (.tableswitch d lo hi offs, len)) (hx : ¬ (x.toInt < lo ∨ hi < x.toInt)) (ho : offs[(x.toInt - lo).toNat]? = some off) (hj : jmp pc off = some t) (k : TT scr me t lv rest h r h') : TT scr me pc lv (.int x :: rest) h r h' := by
  refine TT_step hl rfl rfl ?_ k
  show (if x.toInt < lo ∨ hi < x.toInt then _ else (match (generalizing := false) offs[(x.toInt - lo).toNat]? with
        | some off => (match (generalizing := false) jmp pc off with
          | some t => some (t, lv, rest, h)
          | none => none)
        | none => none)) = _
  rw [if_neg hx, ho]
  dsimp only
  rw [hj]
theorem TT_lsw {x : Int32} {d off : Int} {ps : Array (Int × Int)} {len : Nat} (hl : lkp me.2.2.2.2.2.1 pc = some (.lookupswitch d ps, len)) (hp : (ps.toList.zip (ps.toList.drop 1)).all (fun (a, next) => a.1 < next.1) = true) (ho : Op.lookupswitch.offset ps.toList d x.toInt = off) (hj : jmp pc off = some t) (k : TT scr me t lv rest h r h') : TT scr me pc lv (.int x :: rest) h r h' := by
  refine TT_step hl rfl rfl ?_ k
  show (bif (ps.toList.zip (ps.toList.drop 1)).all (fun (a, next) => a.1 < next.1) then (match (generalizing := false) jmp pc (Op.lookupswitch.offset ps.toList d x.toInt) with
        | some t => some (t, lv, rest, h)
        | none => none) else none) = _
  rw [hp, ho, hj]
  rfl
end
end
