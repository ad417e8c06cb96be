-- ===== PART A: goes FIRST, ahead of the names: the tables' words, and 'selects' of the private methods out of them =====
/-- a private method of a class that the tables say can be made, by its rows of tables_1 -/
def lw_okq (q : MethodName × Nat) : Prop := (q.1.cls ≠ "java/lang/invoke/MethodHandle" ∧ q.1.cls ≠ "java/lang/invoke/VarHandle") ∧ Cond.instantiable q.1.cls q.2 ∈ tables_1 ∧ Cond.privateMethod q.1 ∈ tables_1 ∧ Cond.instanceMethod q.1 ∈ tables_1
theorem lw_p0 : lw_okq (⟨"SandBank$Plan", "tiedToSome", "(I)I"⟩, 17) := ⟨⟨by decide +kernel, by decide +kernel⟩, List.mem_of_getElem? (i := 53) (by decide +kernel), List.mem_of_getElem? (i := 250) (by decide +kernel), List.mem_of_getElem? (i := 251) (by decide +kernel)⟩
theorem lw_p1 : lw_okq (⟨"SandBank$Reader", "readItem", "(LSandBank$Text;LSandBank$Plan;)Z"⟩, 2) := ⟨⟨by decide +kernel, by decide +kernel⟩, List.mem_of_getElem? (i := 39) (by decide +kernel), List.mem_of_getElem? (i := 328) (by decide +kernel), List.mem_of_getElem? (i := 329) (by decide +kernel)⟩
theorem lw_p2 : lw_okq (⟨"SandBank$Reader", "readNumber", "(LSandBank$Text;I)Z"⟩, 2) := ⟨⟨by decide +kernel, by decide +kernel⟩, List.mem_of_getElem? (i := 39) (by decide +kernel), List.mem_of_getElem? (i := 340) (by decide +kernel), List.mem_of_getElem? (i := 341) (by decide +kernel)⟩
theorem lw_p3 : lw_okq (⟨"SandBank$Reader", "addItem", "(ILSandBank$Plan;)Z"⟩, 2) := ⟨⟨by decide +kernel, by decide +kernel⟩, List.mem_of_getElem? (i := 39) (by decide +kernel), List.mem_of_getElem? (i := 345) (by decide +kernel), List.mem_of_getElem? (i := 346) (by decide +kernel)⟩
theorem lw_p4 : lw_okq (⟨"SandBank$Plan", "isTold", "(I)Z"⟩, 17) := ⟨⟨by decide +kernel, by decide +kernel⟩, List.mem_of_getElem? (i := 53) (by decide +kernel), List.mem_of_getElem? (i := 354) (by decide +kernel), List.mem_of_getElem? (i := 355) (by decide +kernel)⟩
theorem lw_p5 : lw_okq (⟨"SandBank", "isGlass", "(I)Z"⟩, 14) := ⟨⟨by decide +kernel, by decide +kernel⟩, List.mem_of_getElem? (i := 15) (by decide +kernel), List.mem_of_getElem? (i := 378) (by decide +kernel), List.mem_of_getElem? (i := 379) (by decide +kernel)⟩
theorem lw_p6 : lw_okq (⟨"SandBank$Changes", "makeRoom", "()V"⟩, 5) := ⟨⟨by decide +kernel, by decide +kernel⟩, List.mem_of_getElem? (i := 155) (by decide +kernel), List.mem_of_getElem? (i := 431) (by decide +kernel), List.mem_of_getElem? (i := 432) (by decide +kernel)⟩
theorem lw_p7 : lw_okq (⟨"SandBank", "lookAhead", "(III)LSandBank$Shelf;"⟩, 14) := ⟨⟨by decide +kernel, by decide +kernel⟩, List.mem_of_getElem? (i := 15) (by decide +kernel), List.mem_of_getElem? (i := 467) (by decide +kernel), List.mem_of_getElem? (i := 468) (by decide +kernel)⟩
theorem lw_p8 : lw_okq (⟨"SandBank", "isDelay", "(III)Z"⟩, 14) := ⟨⟨by decide +kernel, by decide +kernel⟩, List.mem_of_getElem? (i := 15) (by decide +kernel), List.mem_of_getElem? (i := 501) (by decide +kernel), List.mem_of_getElem? (i := 502) (by decide +kernel)⟩
theorem lw_p9 : lw_okq (⟨"SandBank", "countHoldings", "(LSandBank$Shelf;)I"⟩, 14) := ⟨⟨by decide +kernel, by decide +kernel⟩, List.mem_of_getElem? (i := 15) (by decide +kernel), List.mem_of_getElem? (i := 510) (by decide +kernel), List.mem_of_getElem? (i := 511) (by decide +kernel)⟩
theorem lw_p10 : lw_okq (⟨"SandBank$Rounds", "stoodBy", "(LSandBank$Plan;LSandBank$Shelf;II)I"⟩, 3) := ⟨⟨by decide +kernel, by decide +kernel⟩, List.mem_of_getElem? (i := 198) (by decide +kernel), List.mem_of_getElem? (i := 532) (by decide +kernel), List.mem_of_getElem? (i := 533) (by decide +kernel)⟩
theorem lw_p11 : lw_okq (⟨"SandBank$Rounds", "stepRow", "(II)V"⟩, 3) := ⟨⟨by decide +kernel, by decide +kernel⟩, List.mem_of_getElem? (i := 198) (by decide +kernel), List.mem_of_getElem? (i := 540) (by decide +kernel), List.mem_of_getElem? (i := 541) (by decide +kernel)⟩
theorem lw_p12 : lw_okq (⟨"SandBank$Tally", "exceedsEarlier", "(I)Z"⟩, 4) := ⟨⟨by decide +kernel, by decide +kernel⟩, List.mem_of_getElem? (i := 178) (by decide +kernel), List.mem_of_getElem? (i := 575) (by decide +kernel), List.mem_of_getElem? (i := 576) (by decide +kernel)⟩
theorem lw_p13 : lw_okq (⟨"SandBank", "comesFirst", "(IIII)Z"⟩, 14) := ⟨⟨by decide +kernel, by decide +kernel⟩, List.mem_of_getElem? (i := 15) (by decide +kernel), List.mem_of_getElem? (i := 583) (by decide +kernel), List.mem_of_getElem? (i := 584) (by decide +kernel)⟩
theorem lw_p14 : lw_okq (⟨"SandBank", "passNight", "(II)V"⟩, 14) := ⟨⟨by decide +kernel, by decide +kernel⟩, List.mem_of_getElem? (i := 15) (by decide +kernel), List.mem_of_getElem? (i := 594) (by decide +kernel), List.mem_of_getElem? (i := 595) (by decide +kernel)⟩
theorem lw_p15 : lw_okq (⟨"SandBank$Night", "befall", "(LSandBank$Plan;LSandBank$Shelf;II)V"⟩, 3) := ⟨⟨by decide +kernel, by decide +kernel⟩, List.mem_of_getElem? (i := 216) (by decide +kernel), List.mem_of_getElem? (i := 611) (by decide +kernel), List.mem_of_getElem? (i := 612) (by decide +kernel)⟩
def lw_privs_1 : List (MethodName × Nat) := [(⟨"SandBank$Plan", "tiedToSome", "(I)I"⟩, 17), (⟨"SandBank$Reader", "readItem", "(LSandBank$Text;LSandBank$Plan;)Z"⟩, 2), (⟨"SandBank$Reader", "readNumber", "(LSandBank$Text;I)Z"⟩, 2), (⟨"SandBank$Reader", "addItem", "(ILSandBank$Plan;)Z"⟩, 2), (⟨"SandBank$Plan", "isTold", "(I)Z"⟩, 17), (⟨"SandBank", "isGlass", "(I)Z"⟩, 14), (⟨"SandBank$Changes", "makeRoom", "()V"⟩, 5), (⟨"SandBank", "lookAhead", "(III)LSandBank$Shelf;"⟩, 14), (⟨"SandBank", "isDelay", "(III)Z"⟩, 14), (⟨"SandBank", "countHoldings", "(LSandBank$Shelf;)I"⟩, 14), (⟨"SandBank$Rounds", "stoodBy", "(LSandBank$Plan;LSandBank$Shelf;II)I"⟩, 3), (⟨"SandBank$Rounds", "stepRow", "(II)V"⟩, 3), (⟨"SandBank$Tally", "exceedsEarlier", "(I)Z"⟩, 4), (⟨"SandBank", "comesFirst", "(IIII)Z"⟩, 14), (⟨"SandBank", "passNight", "(II)V"⟩, 14), (⟨"SandBank$Night", "befall", "(LSandBank$Plan;LSandBank$Shelf;II)V"⟩, 3)]
theorem lw_r1 : ∀ q ∈ lw_privs_1, lw_okq q := List.forall_mem_cons.mpr ⟨lw_p0, List.forall_mem_cons.mpr ⟨lw_p1, List.forall_mem_cons.mpr ⟨lw_p2, List.forall_mem_cons.mpr ⟨lw_p3, List.forall_mem_cons.mpr ⟨lw_p4, List.forall_mem_cons.mpr ⟨lw_p5, List.forall_mem_cons.mpr ⟨lw_p6, List.forall_mem_cons.mpr ⟨lw_p7, List.forall_mem_cons.mpr ⟨lw_p8, List.forall_mem_cons.mpr ⟨lw_p9, List.forall_mem_cons.mpr ⟨lw_p10, List.forall_mem_cons.mpr ⟨lw_p11, List.forall_mem_cons.mpr ⟨lw_p12, List.forall_mem_cons.mpr ⟨lw_p13, List.forall_mem_cons.mpr ⟨lw_p14, List.forall_mem_cons.mpr ⟨lw_p15, fun _ h => absurd h List.not_mem_nil⟩⟩⟩⟩⟩⟩⟩⟩⟩⟩⟩⟩⟩⟩⟩⟩
theorem lw_p16 : lw_okq (⟨"SandBank$Night", "lose", "(LSandBank$Shelf;II)V"⟩, 3) := ⟨⟨by decide +kernel, by decide +kernel⟩, List.mem_of_getElem? (i := 216) (by decide +kernel), List.mem_of_getElem? (i := 615) (by decide +kernel), List.mem_of_getElem? (i := 616) (by decide +kernel)⟩
theorem lw_p17 : lw_okq (⟨"SandBankModel", "noShelf", "(I)V"⟩, 36) := ⟨⟨by decide +kernel, by decide +kernel⟩, List.mem_of_getElem? (i := 638) (by decide +kernel), List.mem_of_getElem? (i := 644) (by decide +kernel), List.mem_of_getElem? (i := 645) (by decide +kernel)⟩
theorem lw_p18 : lw_okq (⟨"SandBankModel", "layShelf", "()V"⟩, 36) := ⟨⟨by decide +kernel, by decide +kernel⟩, List.mem_of_getElem? (i := 638) (by decide +kernel), List.mem_of_getElem? (i := 648) (by decide +kernel), List.mem_of_getElem? (i := 649) (by decide +kernel)⟩
theorem lw_p19 : lw_okq (⟨"SandBankModel", "readAll", "()I"⟩, 36) := ⟨⟨by decide +kernel, by decide +kernel⟩, List.mem_of_getElem? (i := 638) (by decide +kernel), List.mem_of_getElem? (i := 778) (by decide +kernel), List.mem_of_getElem? (i := 779) (by decide +kernel)⟩
theorem lw_p20 : lw_okq (⟨"SandBankModel", "item", "()Z"⟩, 36) := ⟨⟨by decide +kernel, by decide +kernel⟩, List.mem_of_getElem? (i := 638) (by decide +kernel), List.mem_of_getElem? (i := 782) (by decide +kernel), List.mem_of_getElem? (i := 783) (by decide +kernel)⟩
theorem lw_p21 : lw_okq (⟨"SandBankModel", "byteAt", "(I)I"⟩, 36) := ⟨⟨by decide +kernel, by decide +kernel⟩, List.mem_of_getElem? (i := 638) (by decide +kernel), List.mem_of_getElem? (i := 786) (by decide +kernel), List.mem_of_getElem? (i := 787) (by decide +kernel)⟩
theorem lw_p22 : lw_okq (⟨"SandBankModel", "glassItem", "()Z"⟩, 36) := ⟨⟨by decide +kernel, by decide +kernel⟩, List.mem_of_getElem? (i := 638) (by decide +kernel), List.mem_of_getElem? (i := 790) (by decide +kernel), List.mem_of_getElem? (i := 791) (by decide +kernel)⟩
theorem lw_p23 : lw_okq (⟨"SandBankModel", "figures", "(I)Z"⟩, 36) := ⟨⟨by decide +kernel, by decide +kernel⟩, List.mem_of_getElem? (i := 638) (by decide +kernel), List.mem_of_getElem? (i := 794) (by decide +kernel), List.mem_of_getElem? (i := 795) (by decide +kernel)⟩
theorem lw_p24 : lw_okq (⟨"SandBankModel", "tieItem", "()Z"⟩, 36) := ⟨⟨by decide +kernel, by decide +kernel⟩, List.mem_of_getElem? (i := 638) (by decide +kernel), List.mem_of_getElem? (i := 802) (by decide +kernel), List.mem_of_getElem? (i := 803) (by decide +kernel)⟩
theorem lw_p25 : lw_okq (⟨"SandBankModel", "clerkItem", "()Z"⟩, 36) := ⟨⟨by decide +kernel, by decide +kernel⟩, List.mem_of_getElem? (i := 638) (by decide +kernel), List.mem_of_getElem? (i := 806) (by decide +kernel), List.mem_of_getElem? (i := 807) (by decide +kernel)⟩
theorem lw_p26 : lw_okq (⟨"SandBankModel", "isGlass", "(I)Z"⟩, 36) := ⟨⟨by decide +kernel, by decide +kernel⟩, List.mem_of_getElem? (i := 638) (by decide +kernel), List.mem_of_getElem? (i := 819) (by decide +kernel), List.mem_of_getElem? (i := 820) (by decide +kernel)⟩
theorem lw_p27 : lw_okq (⟨"SandBankModel", "hasOf", "(II)I"⟩, 36) := ⟨⟨by decide +kernel, by decide +kernel⟩, List.mem_of_getElem? (i := 638) (by decide +kernel), List.mem_of_getElem? (i := 831) (by decide +kernel), List.mem_of_getElem? (i := 832) (by decide +kernel)⟩
theorem lw_p28 : lw_okq (⟨"SandBankModel", "clerks", "(I)V"⟩, 36) := ⟨⟨by decide +kernel, by decide +kernel⟩, List.mem_of_getElem? (i := 638) (by decide +kernel), List.mem_of_getElem? (i := 841) (by decide +kernel), List.mem_of_getElem? (i := 842) (by decide +kernel)⟩
theorem lw_p29 : lw_okq (⟨"SandBankModel", "turnOf", "(II)I"⟩, 36) := ⟨⟨by decide +kernel, by decide +kernel⟩, List.mem_of_getElem? (i := 638) (by decide +kernel), List.mem_of_getElem? (i := 845) (by decide +kernel), List.mem_of_getElem? (i := 846) (by decide +kernel)⟩
theorem lw_p30 : lw_okq (⟨"SandBankModel", "tiedTo", "(I)I"⟩, 36) := ⟨⟨by decide +kernel, by decide +kernel⟩, List.mem_of_getElem? (i := 638) (by decide +kernel), List.mem_of_getElem? (i := 849) (by decide +kernel), List.mem_of_getElem? (i := 850) (by decide +kernel)⟩
theorem lw_p31 : lw_okq (⟨"SandBankModel", "fall", "(I)V"⟩, 36) := ⟨⟨by decide +kernel, by decide +kernel⟩, List.mem_of_getElem? (i := 638) (by decide +kernel), List.mem_of_getElem? (i := 856) (by decide +kernel), List.mem_of_getElem? (i := 857) (by decide +kernel)⟩
def lw_privs_2 : List (MethodName × Nat) := [(⟨"SandBank$Night", "lose", "(LSandBank$Shelf;II)V"⟩, 3), (⟨"SandBankModel", "noShelf", "(I)V"⟩, 36), (⟨"SandBankModel", "layShelf", "()V"⟩, 36), (⟨"SandBankModel", "readAll", "()I"⟩, 36), (⟨"SandBankModel", "item", "()Z"⟩, 36), (⟨"SandBankModel", "byteAt", "(I)I"⟩, 36), (⟨"SandBankModel", "glassItem", "()Z"⟩, 36), (⟨"SandBankModel", "figures", "(I)Z"⟩, 36), (⟨"SandBankModel", "tieItem", "()Z"⟩, 36), (⟨"SandBankModel", "clerkItem", "()Z"⟩, 36), (⟨"SandBankModel", "isGlass", "(I)Z"⟩, 36), (⟨"SandBankModel", "hasOf", "(II)I"⟩, 36), (⟨"SandBankModel", "clerks", "(I)V"⟩, 36), (⟨"SandBankModel", "turnOf", "(II)I"⟩, 36), (⟨"SandBankModel", "tiedTo", "(I)I"⟩, 36), (⟨"SandBankModel", "fall", "(I)V"⟩, 36)]
theorem lw_r2 : ∀ q ∈ lw_privs_2, lw_okq q := List.forall_mem_cons.mpr ⟨lw_p16, List.forall_mem_cons.mpr ⟨lw_p17, List.forall_mem_cons.mpr ⟨lw_p18, List.forall_mem_cons.mpr ⟨lw_p19, List.forall_mem_cons.mpr ⟨lw_p20, List.forall_mem_cons.mpr ⟨lw_p21, List.forall_mem_cons.mpr ⟨lw_p22, List.forall_mem_cons.mpr ⟨lw_p23, List.forall_mem_cons.mpr ⟨lw_p24, List.forall_mem_cons.mpr ⟨lw_p25, List.forall_mem_cons.mpr ⟨lw_p26, List.forall_mem_cons.mpr ⟨lw_p27, List.forall_mem_cons.mpr ⟨lw_p28, List.forall_mem_cons.mpr ⟨lw_p29, List.forall_mem_cons.mpr ⟨lw_p30, List.forall_mem_cons.mpr ⟨lw_p31, fun _ h => absurd h List.not_mem_nil⟩⟩⟩⟩⟩⟩⟩⟩⟩⟩⟩⟩⟩⟩⟩⟩
theorem lw_p32 : lw_okq (⟨"SandBankModel", "upper", "(II)I"⟩, 36) := ⟨⟨by decide +kernel, by decide +kernel⟩, List.mem_of_getElem? (i := 638) (by decide +kernel), List.mem_of_getElem? (i := 860) (by decide +kernel), List.mem_of_getElem? (i := 861) (by decide +kernel)⟩
theorem lw_p33 : lw_okq (⟨"SandBankModel", "lower", "(II)I"⟩, 36) := ⟨⟨by decide +kernel, by decide +kernel⟩, List.mem_of_getElem? (i := 638) (by decide +kernel), List.mem_of_getElem? (i := 864) (by decide +kernel), List.mem_of_getElem? (i := 865) (by decide +kernel)⟩
theorem lw_p34 : lw_okq (⟨"SandBankModel", "noteUndo", "(III)V"⟩, 36) := ⟨⟨by decide +kernel, by decide +kernel⟩, List.mem_of_getElem? (i := 638) (by decide +kernel), List.mem_of_getElem? (i := 872) (by decide +kernel), List.mem_of_getElem? (i := 873) (by decide +kernel)⟩
theorem lw_p35 : lw_okq (⟨"SandBankModel", "runOn", "(I)V"⟩, 36) := ⟨⟨by decide +kernel, by decide +kernel⟩, List.mem_of_getElem? (i := 638) (by decide +kernel), List.mem_of_getElem? (i := 893) (by decide +kernel), List.mem_of_getElem? (i := 894) (by decide +kernel)⟩
theorem lw_p36 : lw_okq (⟨"SandBankModel", "copy", "(II)V"⟩, 36) := ⟨⟨by decide +kernel, by decide +kernel⟩, List.mem_of_getElem? (i := 638) (by decide +kernel), List.mem_of_getElem? (i := 897) (by decide +kernel), List.mem_of_getElem? (i := 898) (by decide +kernel)⟩
theorem lw_p37 : lw_okq (⟨"SandBankModel", "standing", "(I)I"⟩, 36) := ⟨⟨by decide +kernel, by decide +kernel⟩, List.mem_of_getElem? (i := 638) (by decide +kernel), List.mem_of_getElem? (i := 901) (by decide +kernel), List.mem_of_getElem? (i := 902) (by decide +kernel)⟩
theorem lw_p38 : lw_okq (⟨"SandBankModel", "isLate", "(III)Z"⟩, 36) := ⟨⟨by decide +kernel, by decide +kernel⟩, List.mem_of_getElem? (i := 638) (by decide +kernel), List.mem_of_getElem? (i := 917) (by decide +kernel), List.mem_of_getElem? (i := 918) (by decide +kernel)⟩
theorem lw_p39 : lw_okq (⟨"SandBankModel", "layMore", "(III)V"⟩, 36) := ⟨⟨by decide +kernel, by decide +kernel⟩, List.mem_of_getElem? (i := 638) (by decide +kernel), List.mem_of_getElem? (i := 921) (by decide +kernel), List.mem_of_getElem? (i := 922) (by decide +kernel)⟩
theorem lw_p40 : lw_okq (⟨"SandBankModel", "lowestStanding", "()I"⟩, 36) := ⟨⟨by decide +kernel, by decide +kernel⟩, List.mem_of_getElem? (i := 638) (by decide +kernel), List.mem_of_getElem? (i := 935) (by decide +kernel), List.mem_of_getElem? (i := 936) (by decide +kernel)⟩
theorem lw_p41 : lw_okq (⟨"SandBankModel", "roundOf", "(III)I"⟩, 36) := ⟨⟨by decide +kernel, by decide +kernel⟩, List.mem_of_getElem? (i := 638) (by decide +kernel), List.mem_of_getElem? (i := 945) (by decide +kernel), List.mem_of_getElem? (i := 946) (by decide +kernel)⟩
theorem lw_p42 : lw_okq (⟨"SandBankModel", "figure", "(III)I"⟩, 36) := ⟨⟨by decide +kernel, by decide +kernel⟩, List.mem_of_getElem? (i := 638) (by decide +kernel), List.mem_of_getElem? (i := 949) (by decide +kernel), List.mem_of_getElem? (i := 950) (by decide +kernel)⟩
theorem lw_p43 : lw_okq (⟨"SandBankModel", "fewest", "(II)I"⟩, 36) := ⟨⟨by decide +kernel, by decide +kernel⟩, List.mem_of_getElem? (i := 638) (by decide +kernel), List.mem_of_getElem? (i := 961) (by decide +kernel), List.mem_of_getElem? (i := 962) (by decide +kernel)⟩
theorem lw_p44 : lw_okq (⟨"SandBankModel", "till", "(II)I"⟩, 36) := ⟨⟨by decide +kernel, by decide +kernel⟩, List.mem_of_getElem? (i := 638) (by decide +kernel), List.mem_of_getElem? (i := 965) (by decide +kernel), List.mem_of_getElem? (i := 966) (by decide +kernel)⟩
theorem lw_p45 : lw_okq (⟨"SandBankModel", "since", "(II)I"⟩, 36) := ⟨⟨by decide +kernel, by decide +kernel⟩, List.mem_of_getElem? (i := 638) (by decide +kernel), List.mem_of_getElem? (i := 969) (by decide +kernel), List.mem_of_getElem? (i := 970) (by decide +kernel)⟩
theorem lw_p46 : lw_okq (⟨"SandBankModel", "falseOnes", "(I)I"⟩, 36) := ⟨⟨by decide +kernel, by decide +kernel⟩, List.mem_of_getElem? (i := 638) (by decide +kernel), List.mem_of_getElem? (i := 973) (by decide +kernel), List.mem_of_getElem? (i := 974) (by decide +kernel)⟩
theorem lw_p47 : lw_okq (⟨"SandBankModel", "goNight", "(II)V"⟩, 36) := ⟨⟨by decide +kernel, by decide +kernel⟩, List.mem_of_getElem? (i := 638) (by decide +kernel), List.mem_of_getElem? (i := 989) (by decide +kernel), List.mem_of_getElem? (i := 990) (by decide +kernel)⟩
def lw_privs_3 : List (MethodName × Nat) := [(⟨"SandBankModel", "upper", "(II)I"⟩, 36), (⟨"SandBankModel", "lower", "(II)I"⟩, 36), (⟨"SandBankModel", "noteUndo", "(III)V"⟩, 36), (⟨"SandBankModel", "runOn", "(I)V"⟩, 36), (⟨"SandBankModel", "copy", "(II)V"⟩, 36), (⟨"SandBankModel", "standing", "(I)I"⟩, 36), (⟨"SandBankModel", "isLate", "(III)Z"⟩, 36), (⟨"SandBankModel", "layMore", "(III)V"⟩, 36), (⟨"SandBankModel", "lowestStanding", "()I"⟩, 36), (⟨"SandBankModel", "roundOf", "(III)I"⟩, 36), (⟨"SandBankModel", "figure", "(III)I"⟩, 36), (⟨"SandBankModel", "fewest", "(II)I"⟩, 36), (⟨"SandBankModel", "till", "(II)I"⟩, 36), (⟨"SandBankModel", "since", "(II)I"⟩, 36), (⟨"SandBankModel", "falseOnes", "(I)I"⟩, 36), (⟨"SandBankModel", "goNight", "(II)V"⟩, 36)]
theorem lw_r3 : ∀ q ∈ lw_privs_3, lw_okq q := List.forall_mem_cons.mpr ⟨lw_p32, List.forall_mem_cons.mpr ⟨lw_p33, List.forall_mem_cons.mpr ⟨lw_p34, List.forall_mem_cons.mpr ⟨lw_p35, List.forall_mem_cons.mpr ⟨lw_p36, List.forall_mem_cons.mpr ⟨lw_p37, List.forall_mem_cons.mpr ⟨lw_p38, List.forall_mem_cons.mpr ⟨lw_p39, List.forall_mem_cons.mpr ⟨lw_p40, List.forall_mem_cons.mpr ⟨lw_p41, List.forall_mem_cons.mpr ⟨lw_p42, List.forall_mem_cons.mpr ⟨lw_p43, List.forall_mem_cons.mpr ⟨lw_p44, List.forall_mem_cons.mpr ⟨lw_p45, List.forall_mem_cons.mpr ⟨lw_p46, List.forall_mem_cons.mpr ⟨lw_p47, fun _ h => absurd h List.not_mem_nil⟩⟩⟩⟩⟩⟩⟩⟩⟩⟩⟩⟩⟩⟩⟩⟩
theorem lw_p48 : lw_okq (⟨"SandBankModel", "suffer", "(II)V"⟩, 36) := ⟨⟨by decide +kernel, by decide +kernel⟩, List.mem_of_getElem? (i := 638) (by decide +kernel), List.mem_of_getElem? (i := 1001) (by decide +kernel), List.mem_of_getElem? (i := 1002) (by decide +kernel)⟩
theorem lw_p49 : lw_okq (⟨"SandBankModel", "copyCounts", "(II)V"⟩, 36) := ⟨⟨by decide +kernel, by decide +kernel⟩, List.mem_of_getElem? (i := 638) (by decide +kernel), List.mem_of_getElem? (i := 1013) (by decide +kernel), List.mem_of_getElem? (i := 1014) (by decide +kernel)⟩
def lw_privs_4 : List (MethodName × Nat) := [(⟨"SandBankModel", "suffer", "(II)V"⟩, 36), (⟨"SandBankModel", "copyCounts", "(II)V"⟩, 36)]
theorem lw_r4 : ∀ q ∈ lw_privs_4, lw_okq q := List.forall_mem_cons.mpr ⟨lw_p48, List.forall_mem_cons.mpr ⟨lw_p49, fun _ h => absurd h List.not_mem_nil⟩⟩
def lw_privs : List (MethodName × Nat) := lw_privs_1 ++ (lw_privs_2 ++ (lw_privs_3 ++ (lw_privs_4)))
def lw_tbl : List Cond := k2_sels lw_privs ++ tables_1
theorem lw_privs_ok : ∀ q ∈ lw_privs, lw_okq q := by
  show ∀ q ∈ lw_privs_1 ++ (lw_privs_2 ++ (lw_privs_3 ++ (lw_privs_4))), lw_okq q
  exact List.forall_mem_append.mpr ⟨lw_r1, List.forall_mem_append.mpr ⟨lw_r2, List.forall_mem_append.mpr ⟨lw_r3, lw_r4⟩⟩⟩
def RX0 : String := "SandBank$Changes"
def TX0 : u_T := fun k => match k with
  | 0 => ("SandBank$Changes", "size", "I", false)
  | 1 => ("SandBank$Changes", "turned", "[I", true)
  | 2 => ("SandBank$Changes", "from", "[I", true)
  | 3 => ("SandBank$Changes", "to", "[I", true)
  | _ => ("SandBank$Changes", "grains", "[I", true)
def tyX0 : Nat → FieldType := fun k => match k with
  | 0 => .int
  | 1 => .array .int
  | 2 => .array .int
  | 3 => .array .int
  | _ => .array .int
abbrev wsX00 : List Cond := u_ws RX0 TX0 5
theorem nmX0 : ∀ a, a < 5 → ∀ b, b < 5 → a ≠ b → (TX0 a).2.1 ≠ (TX0 b).2.1 := by decide +kernel
theorem tyX0_ok : ∀ k, k < 5 → parseFieldDescriptor (TX0 k).2.2.1 = some (tyX0 k) := by decide +kernel
abbrev cX0_init : ByteArray := prog_2_method_1_code
def yX0_init : MethodName := ⟨RX0, "<init>", "()V"⟩
abbrev cX0_noteTurn : ByteArray := prog_2_method_2_code
def yX0_noteTurn : MethodName := ⟨RX0, "noteTurn", "(I)V"⟩
abbrev cX0_notePouring : ByteArray := prog_2_method_3_code
def yX0_notePouring : MethodName := ⟨RX0, "notePouring", "(III)V"⟩
abbrev cX0_makeRoom : ByteArray := prog_2_method_4_code
def yX0_makeRoom : MethodName := ⟨RX0, "makeRoom", "()V"⟩
abbrev cX0_takeBack : ByteArray := prog_2_method_5_code
def yX0_takeBack : MethodName := ⟨RX0, "takeBack", "(LSandBank$Shelf;)V"⟩
def RX1 : String := "SandBank$Night"
def TX1 : u_T := fun k => match k with
  | 0 => ("SandBank$Night", "lost", "I", false)
  | 1 => ("SandBank$Night", "broken", "I", false)
  | _ => ("SandBank$Night", "shards", "I", false)
def tyX1 : Nat → FieldType := fun k => match k with
  | 0 => .int
  | 1 => .int
  | _ => .int
abbrev wsX10 : List Cond := u_ws RX1 TX1 3
theorem nmX1 : ∀ a, a < 3 → ∀ b, b < 3 → a ≠ b → (TX1 a).2.1 ≠ (TX1 b).2.1 := by decide +kernel
theorem tyX1_ok : ∀ k, k < 3 → parseFieldDescriptor (TX1 k).2.2.1 = some (tyX1 k) := by decide +kernel
abbrev cX1_init : ByteArray := prog_3_method_1_code
def yX1_init : MethodName := ⟨RX1, "<init>", "()V"⟩
abbrev cX1_pass : ByteArray := prog_3_method_2_code
def yX1_pass : MethodName := ⟨RX1, "pass", "(LSandBank$Plan;LSandBank$Shelf;II)V"⟩
abbrev cX1_befall : ByteArray := prog_3_method_3_code
def yX1_befall : MethodName := ⟨RX1, "befall", "(LSandBank$Plan;LSandBank$Shelf;II)V"⟩
abbrev cX1_lose : ByteArray := prog_3_method_4_code
def yX1_lose : MethodName := ⟨RX1, "lose", "(LSandBank$Shelf;II)V"⟩
abbrev cX1_draw : ByteArray := prog_3_method_5_code
def yX1_draw : MethodName := ⟨RX1, "draw", "(III)I"⟩
def RX2 : String := "SandBank$Plan"
def TX2 : u_T := fun k => match k with
  | 0 => ("SandBank$Plan", "glasses", "I", false)
  | 1 => ("SandBank$Plan", "kind", "[I", true)
  | 2 => ("SandBank$Plan", "neck", "[I", true)
  | 3 => ("SandBank$Plan", "partner", "[I", true)
  | 4 => ("SandBank$Plan", "owner", "[I", true)
  | 5 => ("SandBank$Plan", "told", "[I", true)
  | 6 => ("SandBank$Plan", "flow", "[I", true)
  | 7 => ("SandBank$Plan", "stickyFlow", "[I", true)
  | 8 => ("SandBank$Plan", "ties", "I", false)
  | 9 => ("SandBank$Plan", "tiedTo", "[I", true)
  | 10 => ("SandBank$Plan", "turnedWith", "[I", true)
  | 11 => ("SandBank$Plan", "clerks", "I", false)
  | 12 => ("SandBank$Plan", "clerkGlass", "[I", true)
  | 13 => ("SandBank$Plan", "clerkEvery", "[I", true)
  | 14 => ("SandBank$Plan", "clerkFirst", "[I", true)
  | 15 => ("SandBank$Plan", "breaks", "I", false)
  | _ => ("SandBank$Plan", "mice", "I", false)
def tyX2 : Nat → FieldType := fun k => match k with
  | 0 => .int
  | 1 => .array .int
  | 2 => .array .int
  | 3 => .array .int
  | 4 => .array .int
  | 5 => .array .int
  | 6 => .array .int
  | 7 => .array .int
  | 8 => .int
  | 9 => .array .int
  | 10 => .array .int
  | 11 => .int
  | 12 => .array .int
  | 13 => .array .int
  | 14 => .array .int
  | 15 => .int
  | _ => .int
abbrev wsX20 : List Cond := u_ws RX2 TX2 17
theorem nmX2 : ∀ a, a < 17 → ∀ b, b < 17 → a ≠ b → (TX2 a).2.1 ≠ (TX2 b).2.1 := by decide +kernel
theorem tyX2_ok : ∀ k, k < 17 → parseFieldDescriptor (TX2 k).2.2.1 = some (tyX2 k) := by decide +kernel
abbrev cX2_init : ByteArray := prog_4_method_1_code
def yX2_init : MethodName := ⟨RX2, "<init>", "()V"⟩
abbrev cX2_clear : ByteArray := prog_4_method_2_code
def yX2_clear : MethodName := ⟨RX2, "clear", "()V"⟩
abbrev cX2_isTold : ByteArray := prog_4_method_3_code
def yX2_isTold : MethodName := ⟨RX2, "isTold", "(I)Z"⟩
abbrev cX2_addGlass : ByteArray := prog_4_method_4_code
def yX2_addGlass : MethodName := ⟨RX2, "addGlass", "(IIIIII)Z"⟩
abbrev cX2_addTie : ByteArray := prog_4_method_5_code
def yX2_addTie : MethodName := ⟨RX2, "addTie", "(II)Z"⟩
abbrev cX2_addClerk : ByteArray := prog_4_method_6_code
def yX2_addClerk : MethodName := ⟨RX2, "addClerk", "(III)Z"⟩
abbrev cX2_setPartner : ByteArray := prog_4_method_7_code
def yX2_setPartner : MethodName := ⟨RX2, "setPartner", "(II)Z"⟩
abbrev cX2_setRisks : ByteArray := prog_4_method_8_code
def yX2_setRisks : MethodName := ⟨RX2, "setRisks", "(II)Z"⟩
abbrev cX2_bindTies : ByteArray := prog_4_method_9_code
def yX2_bindTies : MethodName := ⟨RX2, "bindTies", "()V"⟩
abbrev cX2_tiedToSome : ByteArray := prog_4_method_10_code
def yX2_tiedToSome : MethodName := ⟨RX2, "tiedToSome", "(I)I"⟩
def RX3 : String := "SandBank$Reader"
def TX3 : u_T := fun k => match k with
  | 0 => ("SandBank$Reader", "numbers", "[I", true)
  | _ => ("SandBank$Reader", "place", "I", false)
def tyX3 : Nat → FieldType := fun k => match k with
  | 0 => .array .int
  | _ => .int
abbrev wsX30 : List Cond := u_ws RX3 TX3 2
theorem nmX3 : ∀ a, a < 2 → ∀ b, b < 2 → a ≠ b → (TX3 a).2.1 ≠ (TX3 b).2.1 := by decide +kernel
theorem tyX3_ok : ∀ k, k < 2 → parseFieldDescriptor (TX3 k).2.2.1 = some (tyX3 k) := by decide +kernel
abbrev cX3_init : ByteArray := prog_5_method_1_code
def yX3_init : MethodName := ⟨RX3, "<init>", "()V"⟩
abbrev cX3_readText : ByteArray := prog_5_method_2_code
def yX3_readText : MethodName := ⟨RX3, "readText", "(LSandBank$Text;LSandBank$Plan;)I"⟩
abbrev cX3_readItem : ByteArray := prog_5_method_3_code
def yX3_readItem : MethodName := ⟨RX3, "readItem", "(LSandBank$Text;LSandBank$Plan;)Z"⟩
abbrev cX3_numbersOf : ByteArray := prog_5_method_4_code
def yX3_numbersOf : MethodName := ⟨RX3, "numbersOf", "(I)I"⟩
abbrev cX3_readNumber : ByteArray := prog_5_method_5_code
def yX3_readNumber : MethodName := ⟨RX3, "readNumber", "(LSandBank$Text;I)Z"⟩
abbrev cX3_addItem : ByteArray := prog_5_method_6_code
def yX3_addItem : MethodName := ⟨RX3, "addItem", "(ILSandBank$Plan;)Z"⟩
def RX4 : String := "SandBank$Rounds"
def TX4 : u_T := fun k => match k with
  | 0 => ("SandBank$Rounds", "row", "[I", true)
  | 1 => ("SandBank$Rounds", "best", "[I", true)
  | _ => ("SandBank$Rounds", "fewest", "I", false)
def tyX4 : Nat → FieldType := fun k => match k with
  | 0 => .array .int
  | 1 => .array .int
  | _ => .int
abbrev wsX40 : List Cond := u_ws RX4 TX4 3
theorem nmX4 : ∀ a, a < 3 → ∀ b, b < 3 → a ≠ b → (TX4 a).2.1 ≠ (TX4 b).2.1 := by decide +kernel
theorem tyX4_ok : ∀ k, k < 3 → parseFieldDescriptor (TX4 k).2.2.1 = some (tyX4 k) := by decide +kernel
abbrev cX4_init : ByteArray := prog_6_method_1_code
def yX4_init : MethodName := ⟨RX4, "<init>", "()V"⟩
abbrev cX4_search : ByteArray := prog_6_method_2_code
def yX4_search : MethodName := ⟨RX4, "search", "(LSandBank$Plan;LSandBank$Shelf;LSandBank$Shelf;II)V"⟩
abbrev cX4_stoodBy : ByteArray := prog_6_method_3_code
def yX4_stoodBy : MethodName := ⟨RX4, "stoodBy", "(LSandBank$Plan;LSandBank$Shelf;II)I"⟩
abbrev cX4_stepRow : ByteArray := prog_6_method_4_code
def yX4_stepRow : MethodName := ⟨RX4, "stepRow", "(II)V"⟩
def RX5 : String := "SandBank$Shelf"
def TX5 : u_T := fun k => match k with
  | 0 => ("SandBank$Shelf", "sand", "[I", true)
  | 1 => ("SandBank$Shelf", "up", "I", false)
  | _ => ("SandBank$Shelf", "minute", "I", false)
def tyX5 : Nat → FieldType := fun k => match k with
  | 0 => .array .int
  | 1 => .int
  | _ => .int
abbrev wsX50 : List Cond := u_ws RX5 TX5 3
theorem nmX5 : ∀ a, a < 3 → ∀ b, b < 3 → a ≠ b → (TX5 a).2.1 ≠ (TX5 b).2.1 := by decide +kernel
theorem tyX5_ok : ∀ k, k < 3 → parseFieldDescriptor (TX5 k).2.2.1 = some (tyX5 k) := by decide +kernel
abbrev cX5_init : ByteArray := prog_7_method_1_code
def yX5_init : MethodName := ⟨RX5, "<init>", "()V"⟩
abbrev cX5_fill : ByteArray := prog_7_method_2_code
def yX5_fill : MethodName := ⟨RX5, "fill", "(LSandBank$Plan;)V"⟩
abbrev cX5_copyFrom : ByteArray := prog_7_method_3_code
def yX5_copyFrom : MethodName := ⟨RX5, "copyFrom", "(LSandBank$Shelf;)V"⟩
abbrev cX5_upperSide : ByteArray := prog_7_method_4_code
def yX5_upperSide : MethodName := ⟨RX5, "upperSide", "(I)I"⟩
abbrev cX5_upperBulb : ByteArray := prog_7_method_5_code
def yX5_upperBulb : MethodName := ⟨RX5, "upperBulb", "(I)I"⟩
abbrev cX5_flip : ByteArray := prog_7_method_6_code
def yX5_flip : MethodName := ⟨RX5, "flip", "(I)V"⟩
abbrev cX5_move : ByteArray := prog_7_method_7_code
def yX5_move : MethodName := ⟨RX5, "move", "(III)V"⟩
abbrev cX5_goOn : ByteArray := prog_7_method_8_code
def yX5_goOn : MethodName := ⟨RX5, "goOn", "(LSandBank$Plan;III)V"⟩
abbrev cX5_letClerksTurn : ByteArray := prog_7_method_9_code
def yX5_letClerksTurn : MethodName := ⟨RX5, "letClerksTurn", "(LSandBank$Plan;II)V"⟩
abbrev cX5_letSandFall : ByteArray := prog_7_method_10_code
def yX5_letSandFall : MethodName := ⟨RX5, "letSandFall", "(LSandBank$Plan;)V"⟩
abbrev cX5_flowIn : ByteArray := prog_7_method_11_code
def yX5_flowIn : MethodName := ⟨RX5, "flowIn", "(LSandBank$Plan;I)[I"⟩
abbrev cX5_standing : ByteArray := prog_7_method_12_code
def yX5_standing : MethodName := ⟨RX5, "standing", "(LSandBank$Plan;)I"⟩
abbrev cX5_minutesLeft : ByteArray := prog_7_method_13_code
def yX5_minutesLeft : MethodName := ⟨RX5, "minutesLeft", "(LSandBank$Plan;I)I"⟩
abbrev cX5_grainsOf : ByteArray := prog_7_method_14_code
def yX5_grainsOf : MethodName := ⟨RX5, "grainsOf", "(LSandBank$Plan;I)I"⟩
def RX6 : String := "SandBank$Tally"
def TX6 : u_T := fun k => match k with
  | 0 => ("SandBank$Tally", "size", "I", false)
  | 1 => ("SandBank$Tally", "glass", "[I", true)
  | 2 => ("SandBank$Tally", "minute", "[I", true)
  | _ => ("SandBank$Tally", "grains", "[I", true)
def tyX6 : Nat → FieldType := fun k => match k with
  | 0 => .int
  | 1 => .array .int
  | 2 => .array .int
  | _ => .array .int
abbrev wsX60 : List Cond := u_ws RX6 TX6 4
theorem nmX6 : ∀ a, a < 4 → ∀ b, b < 4 → a ≠ b → (TX6 a).2.1 ≠ (TX6 b).2.1 := by decide +kernel
theorem tyX6_ok : ∀ k, k < 4 → parseFieldDescriptor (TX6 k).2.2.1 = some (tyX6 k) := by decide +kernel
abbrev cX6_init : ByteArray := prog_8_method_1_code
def yX6_init : MethodName := ⟨RX6, "<init>", "()V"⟩
abbrev cX6_note : ByteArray := prog_8_method_2_code
def yX6_note : MethodName := ⟨RX6, "note", "(III)V"⟩
abbrev cX6_missing : ByteArray := prog_8_method_3_code
def yX6_missing : MethodName := ⟨RX6, "missing", "(II)I"⟩
abbrev cX6_till : ByteArray := prog_8_method_4_code
def yX6_till : MethodName := ⟨RX6, "till", "(II)I"⟩
abbrev cX6_since : ByteArray := prog_8_method_5_code
def yX6_since : MethodName := ⟨RX6, "since", "(II)I"⟩
abbrev cX6_falseOnes : ByteArray := prog_8_method_6_code
def yX6_falseOnes : MethodName := ⟨RX6, "falseOnes", "(I)I"⟩
abbrev cX6_exceedsEarlier : ByteArray := prog_8_method_7_code
def yX6_exceedsEarlier : MethodName := ⟨RX6, "exceedsEarlier", "(I)Z"⟩
def RX7 : String := "SandBank$Text"
def TX7 : u_T := fun k => match k with
  | 0 => ("SandBank$Text", "bytes", "[B", true)
  | _ => ("SandBank$Text", "length", "I", false)
def tyX7 : Nat → FieldType := fun k => match k with
  | 0 => .array .byte
  | _ => .int
abbrev wsX70 : List Cond := u_ws RX7 TX7 2
theorem nmX7 : ∀ a, a < 2 → ∀ b, b < 2 → a ≠ b → (TX7 a).2.1 ≠ (TX7 b).2.1 := by decide +kernel
theorem tyX7_ok : ∀ k, k < 2 → parseFieldDescriptor (TX7 k).2.2.1 = some (tyX7 k) := by decide +kernel
abbrev cX7_init : ByteArray := prog_9_method_1_code
def yX7_init : MethodName := ⟨RX7, "<init>", "()V"⟩
abbrev cX7_append : ByteArray := prog_9_method_2_code
def yX7_append : MethodName := ⟨RX7, "append", "(IJ)V"⟩
abbrev cX7_at : ByteArray := prog_9_method_3_code
def yX7_at : MethodName := ⟨RX7, "at", "(I)I"⟩
def RX8 : String := "SandBank"
def TX8 : u_T := fun k => match k with
  | 0 => ("SandBank", "text", "LSandBank$Text;", true)
  | 1 => ("SandBank", "reader", "LSandBank$Reader;", true)
  | 2 => ("SandBank", "plan", "LSandBank$Plan;", false)
  | 3 => ("SandBank", "draft", "LSandBank$Plan;", false)
  | 4 => ("SandBank", "shelf", "LSandBank$Shelf;", true)
  | 5 => ("SandBank", "ahead", "LSandBank$Shelf;", true)
  | 6 => ("SandBank", "changes", "LSandBank$Changes;", true)
  | 7 => ("SandBank", "tally", "LSandBank$Tally;", true)
  | 8 => ("SandBank", "rounds", "LSandBank$Rounds;", true)
  | 9 => ("SandBank", "dark", "LSandBank$Night;", true)
  | 10 => ("SandBank", "keptShelves", "[LSandBank$Shelf;", true)
  | 11 => ("SandBank", "keptCounts", "[I", true)
  | 12 => ("SandBank", "kept", "I", false)
  | _ => ("SandBank", "holdings", "[I", true)
def tyX8 : Nat → FieldType := fun k => match k with
  | 0 => .object "SandBank$Text"
  | 1 => .object "SandBank$Reader"
  | 2 => .object "SandBank$Plan"
  | 3 => .object "SandBank$Plan"
  | 4 => .object "SandBank$Shelf"
  | 5 => .object "SandBank$Shelf"
  | 6 => .object "SandBank$Changes"
  | 7 => .object "SandBank$Tally"
  | 8 => .object "SandBank$Rounds"
  | 9 => .object "SandBank$Night"
  | 10 => .array (.object "SandBank$Shelf")
  | 11 => .array .int
  | 12 => .int
  | _ => .array .int
abbrev wsX80 : List Cond := u_ws RX8 TX8 14
theorem nmX8 : ∀ a, a < 14 → ∀ b, b < 14 → a ≠ b → (TX8 a).2.1 ≠ (TX8 b).2.1 := by decide +kernel
theorem tyX8_ok : ∀ k, k < 14 → parseFieldDescriptor (TX8 k).2.2.1 = some (tyX8 k) := by decide +kernel
abbrev cX8_init : ByteArray := prog_1_method_1_code
def yX8_init : MethodName := ⟨RX8, "<init>", "()V"⟩
abbrev cX8_write : ByteArray := prog_1_method_2_code
def yX8_write : MethodName := ⟨RX8, "write", "(IJ)I"⟩
abbrev cX8_wipe : ByteArray := prog_1_method_3_code
def yX8_wipe : MethodName := ⟨RX8, "wipe", "()I"⟩
abbrev cX8_fault : ByteArray := prog_1_method_4_code
def yX8_fault : MethodName := ⟨RX8, "fault", "()I"⟩
abbrev cX8_lay : ByteArray := prog_1_method_5_code
def yX8_lay : MethodName := ⟨RX8, "lay", "()I"⟩
abbrev cX8_glass : ByteArray := prog_1_method_6_code
def yX8_glass : MethodName := ⟨RX8, "glass", "(II)I"⟩
abbrev cX8_has : ByteArray := prog_1_method_7_code
def yX8_has : MethodName := ⟨RX8, "has", "(I)I"⟩
abbrev cX8_minutes : ByteArray := prog_1_method_8_code
def yX8_minutes : MethodName := ⟨RX8, "minutes", "(I)I"⟩
abbrev cX8_turn : ByteArray := prog_1_method_9_code
def yX8_turn : MethodName := ⟨RX8, "turn", "(I)I"⟩
abbrev cX8_pour : ByteArray := prog_1_method_10_code
def yX8_pour : MethodName := ⟨RX8, "pour", "(IIIII)I"⟩
abbrev cX8_undo : ByteArray := prog_1_method_11_code
def yX8_undo : MethodName := ⟨RX8, "undo", "()I"⟩
abbrev cX8_later : ByteArray := prog_1_method_12_code
def yX8_later : MethodName := ⟨RX8, "later", "(II)I"⟩
abbrev cX8_falls : ByteArray := prog_1_method_13_code
def yX8_falls : MethodName := ⟨RX8, "falls", "(III)I"⟩
abbrev cX8_empty : ByteArray := prog_1_method_14_code
def yX8_empty : MethodName := ⟨RX8, "empty", "(I)I"⟩
abbrev cX8_late : ByteArray := prog_1_method_15_code
def yX8_late : MethodName := ⟨RX8, "late", "(IIII)I"⟩
abbrev cX8_gains : ByteArray := prog_1_method_16_code
def yX8_gains : MethodName := ⟨RX8, "gains", "(IIII)I"⟩
abbrev cX8_run : ByteArray := prog_1_method_17_code
def yX8_run : MethodName := ⟨RX8, "run", "(I)I"⟩
abbrev cX8_round : ByteArray := prog_1_method_18_code
def yX8_round : MethodName := ⟨RX8, "round", "(III)I"⟩
abbrev cX8_counted : ByteArray := prog_1_method_19_code
def yX8_counted : MethodName := ⟨RX8, "counted", "(III)I"⟩
abbrev cX8_stolen : ByteArray := prog_1_method_20_code
def yX8_stolen : MethodName := ⟨RX8, "stolen", "(II)I"⟩
abbrev cX8_split : ByteArray := prog_1_method_21_code
def yX8_split : MethodName := ⟨RX8, "split", "(II)I"⟩
abbrev cX8_night : ByteArray := prog_1_method_22_code
def yX8_night : MethodName := ⟨RX8, "night", "(III)I"⟩
abbrev cX8_nightHas : ByteArray := prog_1_method_23_code
def yX8_nightHas : MethodName := ⟨RX8, "nightHas", "(III)I"⟩
abbrev cX8_keep : ByteArray := prog_1_method_24_code
def yX8_keep : MethodName := ⟨RX8, "keep", "()I"⟩
abbrev cX8_back : ByteArray := prog_1_method_25_code
def yX8_back : MethodName := ⟨RX8, "back", "()I"⟩
abbrev cX8_count : ByteArray := prog_1_method_26_code
def yX8_count : MethodName := ⟨RX8, "count", "(I)I"⟩
abbrev cX8_within : ByteArray := prog_1_method_27_code
def yX8_within : MethodName := ⟨RX8, "within", "(III)Z"⟩
abbrev cX8_isHand : ByteArray := prog_1_method_28_code
def yX8_isHand : MethodName := ⟨RX8, "isHand", "(I)Z"⟩
abbrev cX8_isGlass : ByteArray := prog_1_method_29_code
def yX8_isGlass : MethodName := ⟨RX8, "isGlass", "(I)Z"⟩
abbrev cX8_isDelay : ByteArray := prog_1_method_30_code
def yX8_isDelay : MethodName := ⟨RX8, "isDelay", "(III)Z"⟩
abbrev cX8_isNight : ByteArray := prog_1_method_31_code
def yX8_isNight : MethodName := ⟨RX8, "isNight", "(II)Z"⟩
abbrev cX8_lookAhead : ByteArray := prog_1_method_32_code
def yX8_lookAhead : MethodName := ⟨RX8, "lookAhead", "(III)LSandBank$Shelf;"⟩
abbrev cX8_passNight : ByteArray := prog_1_method_33_code
def yX8_passNight : MethodName := ⟨RX8, "passNight", "(II)V"⟩
abbrev cX8_countHoldings : ByteArray := prog_1_method_34_code
def yX8_countHoldings : MethodName := ⟨RX8, "countHoldings", "(LSandBank$Shelf;)I"⟩
abbrev cX8_comesFirst : ByteArray := prog_1_method_35_code
def yX8_comesFirst : MethodName := ⟨RX8, "comesFirst", "(IIII)Z"⟩
def RX9 : String := "SandBankModel"
def TX9 : u_T := fun k => match k with
  | 0 => ("SandBankModel", "length", "I", false)
  | 1 => ("SandBankModel", "text", "[I", true)
  | 2 => ("SandBankModel", "glassMany", "[I", true)
  | 3 => ("SandBankModel", "kinds", "[I", true)
  | 4 => ("SandBankModel", "handA", "[I", true)
  | 5 => ("SandBankModel", "handB", "[I", true)
  | 6 => ("SandBankModel", "necks", "[I", true)
  | 7 => ("SandBankModel", "toldA", "[I", true)
  | 8 => ("SandBankModel", "toldB", "[I", true)
  | 9 => ("SandBankModel", "partners", "[I", true)
  | 10 => ("SandBankModel", "tieMany", "[I", true)
  | 11 => ("SandBankModel", "ties", "[I", true)
  | 12 => ("SandBankModel", "newTies", "[I", true)
  | 13 => ("SandBankModel", "clerkMany", "[I", true)
  | 14 => ("SandBankModel", "clerkGlass", "[I", true)
  | 15 => ("SandBankModel", "clerkEach", "[I", true)
  | 16 => ("SandBankModel", "clerkFirst", "[I", true)
  | 17 => ("SandBankModel", "breaks", "[I", true)
  | 18 => ("SandBankModel", "mice", "[I", true)
  | 19 => ("SandBankModel", "bulbs", "[I", true)
  | 20 => ("SandBankModel", "ups", "[I", true)
  | 21 => ("SandBankModel", "minute", "[I", true)
  | 22 => ("SandBankModel", "countMany", "[I", true)
  | 23 => ("SandBankModel", "counts", "[I", true)
  | 24 => ("SandBankModel", "keptMany", "I", false)
  | 25 => ("SandBankModel", "undoMany", "I", false)
  | 26 => ("SandBankModel", "undos", "[I", true)
  | 27 => ("SandBankModel", "place", "I", false)
  | 28 => ("SandBankModel", "told", "[I", true)
  | 29 => ("SandBankModel", "lateClerk", "I", false)
  | 30 => ("SandBankModel", "lateBy", "I", false)
  | 31 => ("SandBankModel", "fell", "[I", true)
  | 32 => ("SandBankModel", "emptyMinutes", "I", false)
  | 33 => ("SandBankModel", "more", "[I", true)
  | 34 => ("SandBankModel", "lost", "I", false)
  | _ => ("SandBankModel", "brokenSet", "I", false)
def tyX9 : Nat → FieldType := fun k => match k with
  | 0 => .int
  | 1 => .array .int
  | 2 => .array .int
  | 3 => .array .int
  | 4 => .array .int
  | 5 => .array .int
  | 6 => .array .int
  | 7 => .array .int
  | 8 => .array .int
  | 9 => .array .int
  | 10 => .array .int
  | 11 => .array .int
  | 12 => .array .int
  | 13 => .array .int
  | 14 => .array .int
  | 15 => .array .int
  | 16 => .array .int
  | 17 => .array .int
  | 18 => .array .int
  | 19 => .array .int
  | 20 => .array .int
  | 21 => .array .int
  | 22 => .array .int
  | 23 => .array .int
  | 24 => .int
  | 25 => .int
  | 26 => .array .int
  | 27 => .int
  | 28 => .array .int
  | 29 => .int
  | 30 => .int
  | 31 => .array .int
  | 32 => .int
  | 33 => .array .int
  | 34 => .int
  | _ => .int
abbrev wsX90 : List Cond := u_ws RX9 TX9 36
theorem nmX9 : ∀ a, a < 36 → ∀ b, b < 36 → a ≠ b → (TX9 a).2.1 ≠ (TX9 b).2.1 := by decide +kernel
theorem tyX9_ok : ∀ k, k < 36 → parseFieldDescriptor (TX9 k).2.2.1 = some (tyX9 k) := by decide +kernel
abbrev cX9_init : ByteArray := prog_11_method_1_code
def yX9_init : MethodName := ⟨RX9, "<init>", "()V"⟩
abbrev cX9_in : ByteArray := prog_11_method_2_code
def yX9_in : MethodName := ⟨RX9, "in", "(JJJ)Z"⟩
abbrev cX9_has1 : ByteArray := prog_11_method_3_code
def yX9_has1 : MethodName := ⟨RX9, "has1", "(II)Z"⟩
abbrev cX9_noShelf : ByteArray := prog_11_method_4_code
def yX9_noShelf : MethodName := ⟨RX9, "noShelf", "(I)V"⟩
abbrev cX9_write : ByteArray := prog_11_method_5_code
def yX9_write : MethodName := ⟨RX9, "write", "(IJ)I"⟩
abbrev cX9_wipe : ByteArray := prog_11_method_6_code
def yX9_wipe : MethodName := ⟨RX9, "wipe", "()I"⟩
abbrev cX9_byteAt : ByteArray := prog_11_method_7_code
def yX9_byteAt : MethodName := ⟨RX9, "byteAt", "(I)I"⟩
abbrev cX9_figures : ByteArray := prog_11_method_8_code
def yX9_figures : MethodName := ⟨RX9, "figures", "(I)Z"⟩
abbrev cX9_glassItem : ByteArray := prog_11_method_9_code
def yX9_glassItem : MethodName := ⟨RX9, "glassItem", "()Z"⟩
abbrev cX9_tieItem : ByteArray := prog_11_method_10_code
def yX9_tieItem : MethodName := ⟨RX9, "tieItem", "()Z"⟩
abbrev cX9_clerkItem : ByteArray := prog_11_method_11_code
def yX9_clerkItem : MethodName := ⟨RX9, "clerkItem", "()Z"⟩
abbrev cX9_item : ByteArray := prog_11_method_12_code
def yX9_item : MethodName := ⟨RX9, "item", "()Z"⟩
abbrev cX9_readAll : ByteArray := prog_11_method_13_code
def yX9_readAll : MethodName := ⟨RX9, "readAll", "()I"⟩
abbrev cX9_fault : ByteArray := prog_11_method_14_code
def yX9_fault : MethodName := ⟨RX9, "fault", "()I"⟩
abbrev cX9_layShelf : ByteArray := prog_11_method_15_code
def yX9_layShelf : MethodName := ⟨RX9, "layShelf", "()V"⟩
abbrev cX9_lay : ByteArray := prog_11_method_16_code
def yX9_lay : MethodName := ⟨RX9, "lay", "()I"⟩
abbrev cX9_isGlass : ByteArray := prog_11_method_17_code
def yX9_isGlass : MethodName := ⟨RX9, "isGlass", "(I)Z"⟩
abbrev cX9_isHand : ByteArray := prog_11_method_18_code
def yX9_isHand : MethodName := ⟨RX9, "isHand", "(I)Z"⟩
abbrev cX9_glass : ByteArray := prog_11_method_19_code
def yX9_glass : MethodName := ⟨RX9, "glass", "(II)I"⟩
abbrev cX9_copy : ByteArray := prog_11_method_20_code
def yX9_copy : MethodName := ⟨RX9, "copy", "(II)V"⟩
abbrev cX9_hasOf : ByteArray := prog_11_method_21_code
def yX9_hasOf : MethodName := ⟨RX9, "hasOf", "(II)I"⟩
abbrev cX9_has : ByteArray := prog_11_method_22_code
def yX9_has : MethodName := ⟨RX9, "has", "(I)I"⟩
abbrev cX9_tiedTo : ByteArray := prog_11_method_23_code
def yX9_tiedTo : MethodName := ⟨RX9, "tiedTo", "(I)I"⟩
abbrev cX9_turnOf : ByteArray := prog_11_method_24_code
def yX9_turnOf : MethodName := ⟨RX9, "turnOf", "(II)I"⟩
abbrev cX9_clerks : ByteArray := prog_11_method_25_code
def yX9_clerks : MethodName := ⟨RX9, "clerks", "(I)V"⟩
abbrev cX9_upper : ByteArray := prog_11_method_26_code
def yX9_upper : MethodName := ⟨RX9, "upper", "(II)I"⟩
abbrev cX9_lower : ByteArray := prog_11_method_27_code
def yX9_lower : MethodName := ⟨RX9, "lower", "(II)I"⟩
abbrev cX9_standing : ByteArray := prog_11_method_28_code
def yX9_standing : MethodName := ⟨RX9, "standing", "(I)I"⟩
abbrev cX9_fall : ByteArray := prog_11_method_29_code
def yX9_fall : MethodName := ⟨RX9, "fall", "(I)V"⟩
abbrev cX9_minutes : ByteArray := prog_11_method_30_code
def yX9_minutes : MethodName := ⟨RX9, "minutes", "(I)I"⟩
abbrev cX9_noteUndo : ByteArray := prog_11_method_31_code
def yX9_noteUndo : MethodName := ⟨RX9, "noteUndo", "(III)V"⟩
abbrev cX9_turn : ByteArray := prog_11_method_32_code
def yX9_turn : MethodName := ⟨RX9, "turn", "(I)I"⟩
abbrev cX9_pour : ByteArray := prog_11_method_33_code
def yX9_pour : MethodName := ⟨RX9, "pour", "(IIIII)I"⟩
abbrev cX9_undo : ByteArray := prog_11_method_34_code
def yX9_undo : MethodName := ⟨RX9, "undo", "()I"⟩
abbrev cX9_runOn : ByteArray := prog_11_method_35_code
def yX9_runOn : MethodName := ⟨RX9, "runOn", "(I)V"⟩
abbrev cX9_isLater : ByteArray := prog_11_method_36_code
def yX9_isLater : MethodName := ⟨RX9, "isLater", "(I)Z"⟩
abbrev cX9_later : ByteArray := prog_11_method_37_code
def yX9_later : MethodName := ⟨RX9, "later", "(II)I"⟩
abbrev cX9_falls : ByteArray := prog_11_method_38_code
def yX9_falls : MethodName := ⟨RX9, "falls", "(III)I"⟩
abbrev cX9_empty : ByteArray := prog_11_method_39_code
def yX9_empty : MethodName := ⟨RX9, "empty", "(I)I"⟩
abbrev cX9_isLate : ByteArray := prog_11_method_40_code
def yX9_isLate : MethodName := ⟨RX9, "isLate", "(III)Z"⟩
abbrev cX9_layMore : ByteArray := prog_11_method_41_code
def yX9_layMore : MethodName := ⟨RX9, "layMore", "(III)V"⟩
abbrev cX9_late : ByteArray := prog_11_method_42_code
def yX9_late : MethodName := ⟨RX9, "late", "(IIII)I"⟩
abbrev cX9_gains : ByteArray := prog_11_method_43_code
def yX9_gains : MethodName := ⟨RX9, "gains", "(IIII)I"⟩
abbrev cX9_run : ByteArray := prog_11_method_44_code
def yX9_run : MethodName := ⟨RX9, "run", "(I)I"⟩
abbrev cX9_lowestStanding : ByteArray := prog_11_method_45_code
def yX9_lowestStanding : MethodName := ⟨RX9, "lowestStanding", "()I"⟩
abbrev cX9_roundOf : ByteArray := prog_11_method_46_code
def yX9_roundOf : MethodName := ⟨RX9, "roundOf", "(III)I"⟩
abbrev cX9_figure : ByteArray := prog_11_method_47_code
def yX9_figure : MethodName := ⟨RX9, "figure", "(III)I"⟩
abbrev cX9_round : ByteArray := prog_11_method_48_code
def yX9_round : MethodName := ⟨RX9, "round", "(III)I"⟩
abbrev cX9_counted : ByteArray := prog_11_method_49_code
def yX9_counted : MethodName := ⟨RX9, "counted", "(III)I"⟩
abbrev cX9_fewest : ByteArray := prog_11_method_50_code
def yX9_fewest : MethodName := ⟨RX9, "fewest", "(II)I"⟩
abbrev cX9_till : ByteArray := prog_11_method_51_code
def yX9_till : MethodName := ⟨RX9, "till", "(II)I"⟩
abbrev cX9_since : ByteArray := prog_11_method_52_code
def yX9_since : MethodName := ⟨RX9, "since", "(II)I"⟩
abbrev cX9_falseOnes : ByteArray := prog_11_method_53_code
def yX9_falseOnes : MethodName := ⟨RX9, "falseOnes", "(I)I"⟩
abbrev cX9_stolen : ByteArray := prog_11_method_54_code
def yX9_stolen : MethodName := ⟨RX9, "stolen", "(II)I"⟩
abbrev cX9_split : ByteArray := prog_11_method_55_code
def yX9_split : MethodName := ⟨RX9, "split", "(II)I"⟩
abbrev cX9_draw : ByteArray := prog_11_method_56_code
def yX9_draw : MethodName := ⟨RX9, "draw", "(III)I"⟩
abbrev cX9_goNight : ByteArray := prog_11_method_57_code
def yX9_goNight : MethodName := ⟨RX9, "goNight", "(II)V"⟩
abbrev cX9_suffer : ByteArray := prog_11_method_58_code
def yX9_suffer : MethodName := ⟨RX9, "suffer", "(II)V"⟩
abbrev cX9_isNight : ByteArray := prog_11_method_59_code
def yX9_isNight : MethodName := ⟨RX9, "isNight", "(II)Z"⟩
abbrev cX9_night : ByteArray := prog_11_method_60_code
def yX9_night : MethodName := ⟨RX9, "night", "(III)I"⟩
abbrev cX9_nightHas : ByteArray := prog_11_method_61_code
def yX9_nightHas : MethodName := ⟨RX9, "nightHas", "(III)I"⟩
abbrev cX9_copyCounts : ByteArray := prog_11_method_62_code
def yX9_copyCounts : MethodName := ⟨RX9, "copyCounts", "(II)V"⟩
abbrev cX9_keep : ByteArray := prog_11_method_63_code
def yX9_keep : MethodName := ⟨RX9, "keep", "()I"⟩
abbrev cX9_back : ByteArray := prog_11_method_64_code
def yX9_back : MethodName := ⟨RX9, "back", "()I"⟩
abbrev cX9_count : ByteArray := prog_11_method_65_code
def yX9_count : MethodName := ⟨RX9, "count", "(I)I"⟩
def RJ6 : String := "java/lang/Integer"
abbrev cJ6_bitCount_0f7a4 : ByteArray := prog_12_method_49_code
def yJ6_bitCount_0f7a4 : MethodName := ⟨RJ6, "bitCount", "(I)I"⟩
def RJ9 : String := "java/lang/Math"
abbrev cJ9_max_7cf53 : ByteArray := prog_13_method_65_code
def yJ9_max_7cf53 : MethodName := ⟨RJ9, "max", "(II)I"⟩
abbrev cJ9_min_7cf53 : ByteArray := prog_13_method_69_code
def yJ9_min_7cf53 : MethodName := ⟨RJ9, "min", "(II)I"⟩
def RJ10 : String := "java/lang/System"
def RL : String := "SandBankLaw"
abbrev vwCl : List vw_C := [(RX0, TX0, 5), (RX1, TX1, 3), (RX2, TX2, 17), (RX3, TX3, 2), (RX4, TX4, 3), (RX5, TX5, 3), (RX6, TX6, 4), (RX7, TX7, 2), (RX8, TX8, 14), (RX9, TX9, 36)]
