section
-- ===== PART A: goes FIRST, ahead of the names: the tables' words, and 'selects' of the private methods out of them =====
/-- a private method of a class that the tables say can be made, by its rows of tables_1 -/
def lw_okq (q : MethodName × Nat) : Prop := (q.1.cls ≠ "java/lang/invoke/MethodHandle" ∧ q.1.cls ≠ "java/lang/invoke/VarHandle") ∧ Cond.instantiable q.1.cls q.2 ∈ tables_1 ∧ Cond.privateMethod q.1 ∈ tables_1 ∧ Cond.instanceMethod q.1 ∈ tables_1
theorem lw_p0 : lw_okq (⟨"FoolVotes", "textOf", "(I)LFoolVotes$Text;"⟩, 14) := ⟨⟨by decide +kernel, by decide +kernel⟩, List.mem_of_getElem? (i := 12) (by decide +kernel), List.mem_of_getElem? (i := 238) (by decide +kernel), List.mem_of_getElem? (i := 239) (by decide +kernel)⟩
theorem lw_p1 : lw_okq (⟨"FoolVotes", "retell", "()V"⟩, 14) := ⟨⟨by decide +kernel, by decide +kernel⟩, List.mem_of_getElem? (i := 12) (by decide +kernel), List.mem_of_getElem? (i := 242) (by decide +kernel), List.mem_of_getElem? (i := 243) (by decide +kernel)⟩
theorem lw_p2 : lw_okq (⟨"FoolVotes$Votes", "lookAtYear", "(LFoolVotes$Canton;II)V"⟩, 13) := ⟨⟨by decide +kernel, by decide +kernel⟩, List.mem_of_getElem? (i := 113) (by decide +kernel), List.mem_of_getElem? (i := 268) (by decide +kernel), List.mem_of_getElem? (i := 269) (by decide +kernel)⟩
theorem lw_p3 : lw_okq (⟨"FoolVotes$Votes", "speak", "(LFoolVotes$Canton;II)V"⟩, 13) := ⟨⟨by decide +kernel, by decide +kernel⟩, List.mem_of_getElem? (i := 113) (by decide +kernel), List.mem_of_getElem? (i := 275) (by decide +kernel), List.mem_of_getElem? (i := 276) (by decide +kernel)⟩
theorem lw_p4 : lw_okq (⟨"FoolVotes$Votes", "decide", "(III)V"⟩, 13) := ⟨⟨by decide +kernel, by decide +kernel⟩, List.mem_of_getElem? (i := 113) (by decide +kernel), List.mem_of_getElem? (i := 284) (by decide +kernel), List.mem_of_getElem? (i := 285) (by decide +kernel)⟩
theorem lw_p5 : lw_okq (⟨"FoolVotes$Votes", "remember", "(LFoolVotes$Canton;I)V"⟩, 13) := ⟨⟨by decide +kernel, by decide +kernel⟩, List.mem_of_getElem? (i := 113) (by decide +kernel), List.mem_of_getElem? (i := 288) (by decide +kernel), List.mem_of_getElem? (i := 289) (by decide +kernel)⟩
theorem lw_p6 : lw_okq (⟨"FoolVotes", "found", "(I)I"⟩, 14) := ⟨⟨by decide +kernel, by decide +kernel⟩, List.mem_of_getElem? (i := 12) (by decide +kernel), List.mem_of_getElem? (i := 333) (by decide +kernel), List.mem_of_getElem? (i := 334) (by decide +kernel)⟩
theorem lw_p7 : lw_okq (⟨"FoolVotes", "tryHearts", "()V"⟩, 14) := ⟨⟨by decide +kernel, by decide +kernel⟩, List.mem_of_getElem? (i := 12) (by decide +kernel), List.mem_of_getElem? (i := 400) (by decide +kernel), List.mem_of_getElem? (i := 401) (by decide +kernel)⟩
theorem lw_p8 : lw_okq (⟨"FoolVotes", "keepsCoats", "(I)Z"⟩, 14) := ⟨⟨by decide +kernel, by decide +kernel⟩, List.mem_of_getElem? (i := 12) (by decide +kernel), List.mem_of_getElem? (i := 412) (by decide +kernel), List.mem_of_getElem? (i := 413) (by decide +kernel)⟩
theorem lw_p9 : lw_okq (⟨"FoolVotes", "outcomeOf", "(I)I"⟩, 14) := ⟨⟨by decide +kernel, by decide +kernel⟩, List.mem_of_getElem? (i := 12) (by decide +kernel), List.mem_of_getElem? (i := 416) (by decide +kernel), List.mem_of_getElem? (i := 417) (by decide +kernel)⟩
theorem lw_p10 : lw_okq (⟨"FoolVotes", "neverBits", "()I"⟩, 14) := ⟨⟨by decide +kernel, by decide +kernel⟩, List.mem_of_getElem? (i := 12) (by decide +kernel), List.mem_of_getElem? (i := 442) (by decide +kernel), List.mem_of_getElem? (i := 443) (by decide +kernel)⟩
theorem lw_p11 : lw_okq (⟨"FoolVotes", "fitsSeen", "(I)Z"⟩, 14) := ⟨⟨by decide +kernel, by decide +kernel⟩, List.mem_of_getElem? (i := 12) (by decide +kernel), List.mem_of_getElem? (i := 446) (by decide +kernel), List.mem_of_getElem? (i := 447) (by decide +kernel)⟩
theorem lw_p12 : lw_okq (⟨"FoolVotes", "heartBits", "()I"⟩, 14) := ⟨⟨by decide +kernel, by decide +kernel⟩, List.mem_of_getElem? (i := 12) (by decide +kernel), List.mem_of_getElem? (i := 450) (by decide +kernel), List.mem_of_getElem? (i := 451) (by decide +kernel)⟩
theorem lw_p13 : lw_okq (⟨"FoolVotes", "mostAlike", "(II)I"⟩, 14) := ⟨⟨by decide +kernel, by decide +kernel⟩, List.mem_of_getElem? (i := 12) (by decide +kernel), List.mem_of_getElem? (i := 462) (by decide +kernel), List.mem_of_getElem? (i := 463) (by decide +kernel)⟩
theorem lw_p14 : lw_okq (⟨"FoolVotes", "weightOf", "(II)J"⟩, 14) := ⟨⟨by decide +kernel, by decide +kernel⟩, List.mem_of_getElem? (i := 12) (by decide +kernel), List.mem_of_getElem? (i := 474) (by decide +kernel), List.mem_of_getElem? (i := 475) (by decide +kernel)⟩
theorem lw_p15 : lw_okq (⟨"FoolVotes", "lowestTerm", "(JI)J"⟩, 14) := ⟨⟨by decide +kernel, by decide +kernel⟩, List.mem_of_getElem? (i := 12) (by decide +kernel), List.mem_of_getElem? (i := 478) (by decide +kernel), List.mem_of_getElem? (i := 479) (by decide +kernel)⟩
def lw_privs_1 : List (MethodName × Nat) := [(⟨"FoolVotes", "textOf", "(I)LFoolVotes$Text;"⟩, 14), (⟨"FoolVotes", "retell", "()V"⟩, 14), (⟨"FoolVotes$Votes", "lookAtYear", "(LFoolVotes$Canton;II)V"⟩, 13), (⟨"FoolVotes$Votes", "speak", "(LFoolVotes$Canton;II)V"⟩, 13), (⟨"FoolVotes$Votes", "decide", "(III)V"⟩, 13), (⟨"FoolVotes$Votes", "remember", "(LFoolVotes$Canton;I)V"⟩, 13), (⟨"FoolVotes", "found", "(I)I"⟩, 14), (⟨"FoolVotes", "tryHearts", "()V"⟩, 14), (⟨"FoolVotes", "keepsCoats", "(I)Z"⟩, 14), (⟨"FoolVotes", "outcomeOf", "(I)I"⟩, 14), (⟨"FoolVotes", "neverBits", "()I"⟩, 14), (⟨"FoolVotes", "fitsSeen", "(I)Z"⟩, 14), (⟨"FoolVotes", "heartBits", "()I"⟩, 14), (⟨"FoolVotes", "mostAlike", "(II)I"⟩, 14), (⟨"FoolVotes", "weightOf", "(II)J"⟩, 14), (⟨"FoolVotes", "lowestTerm", "(JI)J"⟩, 14)]
theorem lw_r1 : ∀ q ∈ lw_privs_1, lw_okq q := List.forall_mem_cons.mpr ⟨lw_p0, List.forall_mem_cons.mpr ⟨lw_p1, List.forall_mem_cons.mpr ⟨lw_p2, List.forall_mem_cons.mpr ⟨lw_p3, List.forall_mem_cons.mpr ⟨lw_p4, List.forall_mem_cons.mpr ⟨lw_p5, List.forall_mem_cons.mpr ⟨lw_p6, List.forall_mem_cons.mpr ⟨lw_p7, List.forall_mem_cons.mpr ⟨lw_p8, List.forall_mem_cons.mpr ⟨lw_p9, List.forall_mem_cons.mpr ⟨lw_p10, List.forall_mem_cons.mpr ⟨lw_p11, List.forall_mem_cons.mpr ⟨lw_p12, List.forall_mem_cons.mpr ⟨lw_p13, List.forall_mem_cons.mpr ⟨lw_p14, List.forall_mem_cons.mpr ⟨lw_p15, fun _ h => absurd h List.not_mem_nil⟩⟩⟩⟩⟩⟩⟩⟩⟩⟩⟩⟩⟩⟩⟩⟩
theorem lw_p16 : lw_okq (⟨"FoolVotes", "refusalOfItem", "(III)I"⟩, 14) := ⟨⟨by decide +kernel, by decide +kernel⟩, List.mem_of_getElem? (i := 12) (by decide +kernel), List.mem_of_getElem? (i := 507) (by decide +kernel), List.mem_of_getElem? (i := 508) (by decide +kernel)⟩
theorem lw_p17 : lw_okq (⟨"FoolVotes", "withMeasure", "(JI)J"⟩, 14) := ⟨⟨by decide +kernel, by decide +kernel⟩, List.mem_of_getElem? (i := 12) (by decide +kernel), List.mem_of_getElem? (i := 547) (by decide +kernel), List.mem_of_getElem? (i := 548) (by decide +kernel)⟩
theorem lw_p18 : lw_okq (⟨"FoolVotes", "withVoter", "(JI)J"⟩, 14) := ⟨⟨by decide +kernel, by decide +kernel⟩, List.mem_of_getElem? (i := 12) (by decide +kernel), List.mem_of_getElem? (i := 556) (by decide +kernel), List.mem_of_getElem? (i := 557) (by decide +kernel)⟩
theorem lw_p19 : lw_okq (⟨"FoolVotes", "withTrials", "(J)J"⟩, 14) := ⟨⟨by decide +kernel, by decide +kernel⟩, List.mem_of_getElem? (i := 12) (by decide +kernel), List.mem_of_getElem? (i := 567) (by decide +kernel), List.mem_of_getElem? (i := 568) (by decide +kernel)⟩
theorem lw_p20 : lw_okq (⟨"FoolVotesModel", "finds", "(I)I"⟩, 31) := ⟨⟨by decide +kernel, by decide +kernel⟩, List.mem_of_getElem? (i := 577) (by decide +kernel), List.mem_of_getElem? (i := 690) (by decide +kernel), List.mem_of_getElem? (i := 691) (by decide +kernel)⟩
theorem lw_p21 : lw_okq (⟨"FoolVotesModel", "lacks", "(III)I"⟩, 31) := ⟨⟨by decide +kernel, by decide +kernel⟩, List.mem_of_getElem? (i := 577) (by decide +kernel), List.mem_of_getElem? (i := 702) (by decide +kernel), List.mem_of_getElem? (i := 703) (by decide +kernel)⟩
theorem lw_p22 : lw_okq (⟨"FoolVotesModel", "readsText", "(I)I"⟩, 31) := ⟨⟨by decide +kernel, by decide +kernel⟩, List.mem_of_getElem? (i := 577) (by decide +kernel), List.mem_of_getElem? (i := 738) (by decide +kernel), List.mem_of_getElem? (i := 739) (by decide +kernel)⟩
theorem lw_p23 : lw_okq (⟨"FoolVotesModel", "readsVoters", "()I"⟩, 31) := ⟨⟨by decide +kernel, by decide +kernel⟩, List.mem_of_getElem? (i := 577) (by decide +kernel), List.mem_of_getElem? (i := 742) (by decide +kernel), List.mem_of_getElem? (i := 743) (by decide +kernel)⟩
theorem lw_p24 : lw_okq (⟨"FoolVotesModel", "readsMeasures", "()I"⟩, 31) := ⟨⟨by decide +kernel, by decide +kernel⟩, List.mem_of_getElem? (i := 577) (by decide +kernel), List.mem_of_getElem? (i := 753) (by decide +kernel), List.mem_of_getElem? (i := 754) (by decide +kernel)⟩
theorem lw_p25 : lw_okq (⟨"FoolVotesModel", "isVoter", "(I)Z"⟩, 31) := ⟨⟨by decide +kernel, by decide +kernel⟩, List.mem_of_getElem? (i := 577) (by decide +kernel), List.mem_of_getElem? (i := 766) (by decide +kernel), List.mem_of_getElem? (i := 767) (by decide +kernel)⟩
theorem lw_p26 : lw_okq (⟨"FoolVotesModel", "isMeasure", "(I)Z"⟩, 31) := ⟨⟨by decide +kernel, by decide +kernel⟩, List.mem_of_getElem? (i := 577) (by decide +kernel), List.mem_of_getElem? (i := 774) (by decide +kernel), List.mem_of_getElem? (i := 775) (by decide +kernel)⟩
theorem lw_p27 : lw_okq (⟨"FoolVotesModel", "find", "()V"⟩, 31) := ⟨⟨by decide +kernel, by decide +kernel⟩, List.mem_of_getElem? (i := 577) (by decide +kernel), List.mem_of_getElem? (i := 802) (by decide +kernel), List.mem_of_getElem? (i := 803) (by decide +kernel)⟩
theorem lw_p28 : lw_okq (⟨"FoolVotesModel", "lives", "()V"⟩, 31) := ⟨⟨by decide +kernel, by decide +kernel⟩, List.mem_of_getElem? (i := 577) (by decide +kernel), List.mem_of_getElem? (i := 806) (by decide +kernel), List.mem_of_getElem? (i := 807) (by decide +kernel)⟩
theorem lw_p29 : lw_okq (⟨"FoolVotesModel", "votes", "(I)V"⟩, 31) := ⟨⟨by decide +kernel, by decide +kernel⟩, List.mem_of_getElem? (i := 577) (by decide +kernel), List.mem_of_getElem? (i := 810) (by decide +kernel), List.mem_of_getElem? (i := 811) (by decide +kernel)⟩
theorem lw_p30 : lw_okq (⟨"FoolVotesModel", "isTold", "(III)Z"⟩, 31) := ⟨⟨by decide +kernel, by decide +kernel⟩, List.mem_of_getElem? (i := 577) (by decide +kernel), List.mem_of_getElem? (i := 814) (by decide +kernel), List.mem_of_getElem? (i := 815) (by decide +kernel)⟩
theorem lw_p31 : lw_okq (⟨"FoolVotesModel", "says", "(IIIII)I"⟩, 31) := ⟨⟨by decide +kernel, by decide +kernel⟩, List.mem_of_getElem? (i := 577) (by decide +kernel), List.mem_of_getElem? (i := 821) (by decide +kernel), List.mem_of_getElem? (i := 822) (by decide +kernel)⟩
def lw_privs_2 : List (MethodName × Nat) := [(⟨"FoolVotes", "refusalOfItem", "(III)I"⟩, 14), (⟨"FoolVotes", "withMeasure", "(JI)J"⟩, 14), (⟨"FoolVotes", "withVoter", "(JI)J"⟩, 14), (⟨"FoolVotes", "withTrials", "(J)J"⟩, 14), (⟨"FoolVotesModel", "finds", "(I)I"⟩, 31), (⟨"FoolVotesModel", "lacks", "(III)I"⟩, 31), (⟨"FoolVotesModel", "readsText", "(I)I"⟩, 31), (⟨"FoolVotesModel", "readsVoters", "()I"⟩, 31), (⟨"FoolVotesModel", "readsMeasures", "()I"⟩, 31), (⟨"FoolVotesModel", "isVoter", "(I)Z"⟩, 31), (⟨"FoolVotesModel", "isMeasure", "(I)Z"⟩, 31), (⟨"FoolVotesModel", "find", "()V"⟩, 31), (⟨"FoolVotesModel", "lives", "()V"⟩, 31), (⟨"FoolVotesModel", "votes", "(I)V"⟩, 31), (⟨"FoolVotesModel", "isTold", "(III)Z"⟩, 31), (⟨"FoolVotesModel", "says", "(IIIII)I"⟩, 31)]
theorem lw_r2 : ∀ q ∈ lw_privs_2, lw_okq q := List.forall_mem_cons.mpr ⟨lw_p16, List.forall_mem_cons.mpr ⟨lw_p17, List.forall_mem_cons.mpr ⟨lw_p18, List.forall_mem_cons.mpr ⟨lw_p19, List.forall_mem_cons.mpr ⟨lw_p20, List.forall_mem_cons.mpr ⟨lw_p21, List.forall_mem_cons.mpr ⟨lw_p22, List.forall_mem_cons.mpr ⟨lw_p23, List.forall_mem_cons.mpr ⟨lw_p24, List.forall_mem_cons.mpr ⟨lw_p25, List.forall_mem_cons.mpr ⟨lw_p26, List.forall_mem_cons.mpr ⟨lw_p27, List.forall_mem_cons.mpr ⟨lw_p28, List.forall_mem_cons.mpr ⟨lw_p29, List.forall_mem_cons.mpr ⟨lw_p30, List.forall_mem_cons.mpr ⟨lw_p31, fun _ h => absurd h List.not_mem_nil⟩⟩⟩⟩⟩⟩⟩⟩⟩⟩⟩⟩⟩⟩⟩⟩
theorem lw_p32 : lw_okq (⟨"FoolVotesModel", "comesOut", "(I)V"⟩, 31) := ⟨⟨by decide +kernel, by decide +kernel⟩, List.mem_of_getElem? (i := 577) (by decide +kernel), List.mem_of_getElem? (i := 831) (by decide +kernel), List.mem_of_getElem? (i := 832) (by decide +kernel)⟩
theorem lw_p33 : lw_okq (⟨"FoolVotesModel", "tallyBy", "(II)I"⟩, 31) := ⟨⟨by decide +kernel, by decide +kernel⟩, List.mem_of_getElem? (i := 577) (by decide +kernel), List.mem_of_getElem? (i := 840) (by decide +kernel), List.mem_of_getElem? (i := 841) (by decide +kernel)⟩
theorem lw_p34 : lw_okq (⟨"FoolVotesModel", "atBy", "(II)I"⟩, 31) := ⟨⟨by decide +kernel, by decide +kernel⟩, List.mem_of_getElem? (i := 577) (by decide +kernel), List.mem_of_getElem? (i := 848) (by decide +kernel), List.mem_of_getElem? (i := 849) (by decide +kernel)⟩
theorem lw_p35 : lw_okq (⟨"FoolVotesModel", "sumBy", "(I)I"⟩, 31) := ⟨⟨by decide +kernel, by decide +kernel⟩, List.mem_of_getElem? (i := 577) (by decide +kernel), List.mem_of_getElem? (i := 856) (by decide +kernel), List.mem_of_getElem? (i := 857) (by decide +kernel)⟩
theorem lw_p36 : lw_okq (⟨"FoolVotesModel", "loyalNow", "()I"⟩, 31) := ⟨⟨by decide +kernel, by decide +kernel⟩, List.mem_of_getElem? (i := 577) (by decide +kernel), List.mem_of_getElem? (i := 868) (by decide +kernel), List.mem_of_getElem? (i := 869) (by decide +kernel)⟩
theorem lw_p37 : lw_okq (⟨"FoolVotesModel", "bitterNow", "()I"⟩, 31) := ⟨⟨by decide +kernel, by decide +kernel⟩, List.mem_of_getElem? (i := 577) (by decide +kernel), List.mem_of_getElem? (i := 876) (by decide +kernel), List.mem_of_getElem? (i := 877) (by decide +kernel)⟩
theorem lw_p38 : lw_okq (⟨"FoolVotesModel", "putOf", "(II)I"⟩, 31) := ⟨⟨by decide +kernel, by decide +kernel⟩, List.mem_of_getElem? (i := 577) (by decide +kernel), List.mem_of_getElem? (i := 887) (by decide +kernel), List.mem_of_getElem? (i := 888) (by decide +kernel)⟩
theorem lw_p39 : lw_okq (⟨"FoolVotesModel", "swapBy", "(I)I"⟩, 31) := ⟨⟨by decide +kernel, by decide +kernel⟩, List.mem_of_getElem? (i := 577) (by decide +kernel), List.mem_of_getElem? (i := 898) (by decide +kernel), List.mem_of_getElem? (i := 899) (by decide +kernel)⟩
theorem lw_p40 : lw_okq (⟨"FoolVotesModel", "wishBy", "(I)I"⟩, 31) := ⟨⟨by decide +kernel, by decide +kernel⟩, List.mem_of_getElem? (i := 577) (by decide +kernel), List.mem_of_getElem? (i := 906) (by decide +kernel), List.mem_of_getElem? (i := 907) (by decide +kernel)⟩
theorem lw_p41 : lw_okq (⟨"FoolVotesModel", "spareBy", "(I)I"⟩, 31) := ⟨⟨by decide +kernel, by decide +kernel⟩, List.mem_of_getElem? (i := 577) (by decide +kernel), List.mem_of_getElem? (i := 915) (by decide +kernel), List.mem_of_getElem? (i := 916) (by decide +kernel)⟩
theorem lw_p42 : lw_okq (⟨"FoolVotesModel", "isSpared", "(I)Z"⟩, 31) := ⟨⟨by decide +kernel, by decide +kernel⟩, List.mem_of_getElem? (i := 577) (by decide +kernel), List.mem_of_getElem? (i := 919) (by decide +kernel), List.mem_of_getElem? (i := 920) (by decide +kernel)⟩
theorem lw_p43 : lw_okq (⟨"FoolVotesModel", "coatsNow", "()I"⟩, 31) := ⟨⟨by decide +kernel, by decide +kernel⟩, List.mem_of_getElem? (i := 577) (by decide +kernel), List.mem_of_getElem? (i := 923) (by decide +kernel), List.mem_of_getElem? (i := 924) (by decide +kernel)⟩
theorem lw_p44 : lw_okq (⟨"FoolVotesModel", "mightBy", "(I)I"⟩, 31) := ⟨⟨by decide +kernel, by decide +kernel⟩, List.mem_of_getElem? (i := 577) (by decide +kernel), List.mem_of_getElem? (i := 940) (by decide +kernel), List.mem_of_getElem? (i := 941) (by decide +kernel)⟩
theorem lw_p45 : lw_okq (⟨"FoolVotesModel", "neverNow", "()I"⟩, 31) := ⟨⟨by decide +kernel, by decide +kernel⟩, List.mem_of_getElem? (i := 577) (by decide +kernel), List.mem_of_getElem? (i := 944) (by decide +kernel), List.mem_of_getElem? (i := 945) (by decide +kernel)⟩
theorem lw_p46 : lw_okq (⟨"FoolVotesModel", "isSeen", "()Z"⟩, 31) := ⟨⟨by decide +kernel, by decide +kernel⟩, List.mem_of_getElem? (i := 577) (by decide +kernel), List.mem_of_getElem? (i := 948) (by decide +kernel), List.mem_of_getElem? (i := 949) (by decide +kernel)⟩
theorem lw_p47 : lw_okq (⟨"FoolVotesModel", "heartNow", "()I"⟩, 31) := ⟨⟨by decide +kernel, by decide +kernel⟩, List.mem_of_getElem? (i := 577) (by decide +kernel), List.mem_of_getElem? (i := 952) (by decide +kernel), List.mem_of_getElem? (i := 953) (by decide +kernel)⟩
def lw_privs_3 : List (MethodName × Nat) := [(⟨"FoolVotesModel", "comesOut", "(I)V"⟩, 31), (⟨"FoolVotesModel", "tallyBy", "(II)I"⟩, 31), (⟨"FoolVotesModel", "atBy", "(II)I"⟩, 31), (⟨"FoolVotesModel", "sumBy", "(I)I"⟩, 31), (⟨"FoolVotesModel", "loyalNow", "()I"⟩, 31), (⟨"FoolVotesModel", "bitterNow", "()I"⟩, 31), (⟨"FoolVotesModel", "putOf", "(II)I"⟩, 31), (⟨"FoolVotesModel", "swapBy", "(I)I"⟩, 31), (⟨"FoolVotesModel", "wishBy", "(I)I"⟩, 31), (⟨"FoolVotesModel", "spareBy", "(I)I"⟩, 31), (⟨"FoolVotesModel", "isSpared", "(I)Z"⟩, 31), (⟨"FoolVotesModel", "coatsNow", "()I"⟩, 31), (⟨"FoolVotesModel", "mightBy", "(I)I"⟩, 31), (⟨"FoolVotesModel", "neverNow", "()I"⟩, 31), (⟨"FoolVotesModel", "isSeen", "()Z"⟩, 31), (⟨"FoolVotesModel", "heartNow", "()I"⟩, 31)]
theorem lw_r3 : ∀ q ∈ lw_privs_3, lw_okq q := List.forall_mem_cons.mpr ⟨lw_p32, List.forall_mem_cons.mpr ⟨lw_p33, List.forall_mem_cons.mpr ⟨lw_p34, List.forall_mem_cons.mpr ⟨lw_p35, List.forall_mem_cons.mpr ⟨lw_p36, List.forall_mem_cons.mpr ⟨lw_p37, List.forall_mem_cons.mpr ⟨lw_p38, List.forall_mem_cons.mpr ⟨lw_p39, List.forall_mem_cons.mpr ⟨lw_p40, List.forall_mem_cons.mpr ⟨lw_p41, List.forall_mem_cons.mpr ⟨lw_p42, List.forall_mem_cons.mpr ⟨lw_p43, List.forall_mem_cons.mpr ⟨lw_p44, List.forall_mem_cons.mpr ⟨lw_p45, List.forall_mem_cons.mpr ⟨lw_p46, List.forall_mem_cons.mpr ⟨lw_p47, fun _ h => absurd h List.not_mem_nil⟩⟩⟩⟩⟩⟩⟩⟩⟩⟩⟩⟩⟩⟩⟩⟩
theorem lw_p48 : lw_okq (⟨"FoolVotesModel", "wasOf", "(II)I"⟩, 31) := ⟨⟨by decide +kernel, by decide +kernel⟩, List.mem_of_getElem? (i := 577) (by decide +kernel), List.mem_of_getElem? (i := 960) (by decide +kernel), List.mem_of_getElem? (i := 961) (by decide +kernel)⟩
theorem lw_p49 : lw_okq (⟨"FoolVotesModel", "askNow", "()I"⟩, 31) := ⟨⟨by decide +kernel, by decide +kernel⟩, List.mem_of_getElem? (i := 577) (by decide +kernel), List.mem_of_getElem? (i := 968) (by decide +kernel), List.mem_of_getElem? (i := 969) (by decide +kernel)⟩
theorem lw_p50 : lw_okq (⟨"FoolVotesModel", "alike", "(II)I"⟩, 31) := ⟨⟨by decide +kernel, by decide +kernel⟩, List.mem_of_getElem? (i := 577) (by decide +kernel), List.mem_of_getElem? (i := 972) (by decide +kernel), List.mem_of_getElem? (i := 973) (by decide +kernel)⟩
theorem lw_p51 : lw_okq (⟨"FoolVotesModel", "chanceOf", "(III)J"⟩, 31) := ⟨⟨by decide +kernel, by decide +kernel⟩, List.mem_of_getElem? (i := 577) (by decide +kernel), List.mem_of_getElem? (i := 981) (by decide +kernel), List.mem_of_getElem? (i := 982) (by decide +kernel)⟩
theorem lw_p52 : lw_okq (⟨"FoolVotesModel", "agesOf", "(III)I"⟩, 31) := ⟨⟨by decide +kernel, by decide +kernel⟩, List.mem_of_getElem? (i := 577) (by decide +kernel), List.mem_of_getElem? (i := 997) (by decide +kernel), List.mem_of_getElem? (i := 998) (by decide +kernel)⟩
theorem lw_p53 : lw_okq (⟨"FoolVotesModel", "lot", "(I)I"⟩, 31) := ⟨⟨by decide +kernel, by decide +kernel⟩, List.mem_of_getElem? (i := 577) (by decide +kernel), List.mem_of_getElem? (i := 1001) (by decide +kernel), List.mem_of_getElem? (i := 1002) (by decide +kernel)⟩
theorem lw_p54 : lw_okq (⟨"FoolVotesModel", "tellsMeasure", "(JI)J"⟩, 31) := ⟨⟨by decide +kernel, by decide +kernel⟩, List.mem_of_getElem? (i := 577) (by decide +kernel), List.mem_of_getElem? (i := 1021) (by decide +kernel), List.mem_of_getElem? (i := 1022) (by decide +kernel)⟩
theorem lw_p55 : lw_okq (⟨"FoolVotesModel", "tellsVoter", "(JI)J"⟩, 31) := ⟨⟨by decide +kernel, by decide +kernel⟩, List.mem_of_getElem? (i := 577) (by decide +kernel), List.mem_of_getElem? (i := 1025) (by decide +kernel), List.mem_of_getElem? (i := 1026) (by decide +kernel)⟩
def lw_privs_4 : List (MethodName × Nat) := [(⟨"FoolVotesModel", "wasOf", "(II)I"⟩, 31), (⟨"FoolVotesModel", "askNow", "()I"⟩, 31), (⟨"FoolVotesModel", "alike", "(II)I"⟩, 31), (⟨"FoolVotesModel", "chanceOf", "(III)J"⟩, 31), (⟨"FoolVotesModel", "agesOf", "(III)I"⟩, 31), (⟨"FoolVotesModel", "lot", "(I)I"⟩, 31), (⟨"FoolVotesModel", "tellsMeasure", "(JI)J"⟩, 31), (⟨"FoolVotesModel", "tellsVoter", "(JI)J"⟩, 31)]
theorem lw_r4 : ∀ q ∈ lw_privs_4, lw_okq q := List.forall_mem_cons.mpr ⟨lw_p48, List.forall_mem_cons.mpr ⟨lw_p49, List.forall_mem_cons.mpr ⟨lw_p50, List.forall_mem_cons.mpr ⟨lw_p51, List.forall_mem_cons.mpr ⟨lw_p52, List.forall_mem_cons.mpr ⟨lw_p53, List.forall_mem_cons.mpr ⟨lw_p54, List.forall_mem_cons.mpr ⟨lw_p55, fun _ h => absurd h List.not_mem_nil⟩⟩⟩⟩⟩⟩⟩⟩
def lw_privs : List (MethodName × Nat) := lw_privs_1 ++ (lw_privs_2 ++ (lw_privs_3 ++ (lw_privs_4)))
def lw_tbl : List Cond := k2_sels lw_privs ++ tables_1
theorem lw_privs_ok : ∀ q ∈ lw_privs, lw_okq q := by
  show ∀ q ∈ lw_privs_1 ++ (lw_privs_2 ++ (lw_privs_3 ++ (lw_privs_4))), lw_okq q
  exact List.forall_mem_append.mpr ⟨lw_r1, List.forall_mem_append.mpr ⟨lw_r2, List.forall_mem_append.mpr ⟨lw_r3, lw_r4⟩⟩⟩
/-- the words that a change of the tables by linking keeps -/
def zt_G : List Cond := lw_tbl.filter goodWord
theorem zt_good : ∀ w ∈ zt_G, (w.onTables && w.keeps) = true ∨ ∃ ty, w = .arrayClass ty := fun w h => good_of_word (List.mem_filter.mp h).2
theorem zt_in {w : Cond} (i : Nat) (h : tables_1[i]? = some w) (g : goodWord w = true) : w ∈ zt_G := List.mem_filter.mpr ⟨List.mem_append_right _ (List.mem_of_getElem? h), g⟩
theorem zt_sel {q : MethodName × Nat} (h : q ∈ lw_privs) : Cond.selects q.1.cls q.1 q.1 ∈ zt_G := List.mem_filter.mpr ⟨List.mem_append_left _ (List.mem_map.mpr ⟨q, h, rfl⟩), rfl⟩
end
section
def zn_Fv : String := "FoolVotes"
def zn_Ca : String := "FoolVotes$Canton"
def zn_Sh : String := "FoolVotes$Sheets"
def zn_Te : String := "FoolVotes$Text"
def zn_Vo : String := "FoolVotes$Votes"
def zn_Mo : String := "FoolVotesModel"
def zn_In : String := "java/lang/Integer"
def zn_Ma : String := "java/lang/Math"
def zn_Ar : String := "java/util/Arrays"
def zT_Fv : u_T := fun k => match k with
  | 0 => ("FoolVotes", "voterText", "LFoolVotes$Text;", true)
  | 1 => ("FoolVotes", "measureText", "LFoolVotes$Text;", true)
  | 2 => ("FoolVotes", "told", "LFoolVotes$Canton;", true)
  | 3 => ("FoolVotes", "votes", "LFoolVotes$Votes;", true)
  | 4 => ("FoolVotes", "trial", "LFoolVotes$Canton;", true)
  | 5 => ("FoolVotes", "tried", "LFoolVotes$Votes;", true)
  | 6 => ("FoolVotes", "seenMeasure", "[I", true)
  | 7 => ("FoolVotes", "seenIs", "[I", true)
  | 8 => ("FoolVotes", "passedByHeart", "[I", true)
  | 9 => ("FoolVotes", "outcomes", "[I", true)
  | 10 => ("FoolVotes", "sheets", "LFoolVotes$Sheets;", true)
  | 11 => ("FoolVotes", "seenCount", "I", false)
  | 12 => ("FoolVotes", "latestFinding", "I", false)
  | _ => ("FoolVotes", "outcomesStale", "Z", false)
def zy_Fv : Nat → FieldType := fun k => match k with
  | 0 => .object "FoolVotes$Text"
  | 1 => .object "FoolVotes$Text"
  | 2 => .object "FoolVotes$Canton"
  | 3 => .object "FoolVotes$Votes"
  | 4 => .object "FoolVotes$Canton"
  | 5 => .object "FoolVotes$Votes"
  | 6 => .array .int
  | 7 => .array .int
  | 8 => .array .int
  | 9 => .array .int
  | 10 => .object "FoolVotes$Sheets"
  | 11 => .int
  | 12 => .int
  | _ => .boolean
theorem zN_Fv : ∀ a, a < 14 → ∀ b, b < 14 → a ≠ b → (zT_Fv a).2.1 ≠ (zT_Fv b).2.1 := by decide +kernel
theorem zY_Fv : ∀ k, k < 14 → parseFieldDescriptor (zT_Fv k).2.2.1 = some (zy_Fv k) := by decide +kernel
theorem zI_Fv : ∀ w ∈ u_ws zn_Fv zT_Fv 14, w ∈ zt_G := by
  intro w hw
  obtain ⟨k, hk, rfl⟩ := List.mem_map.mp hw
  have hk := List.mem_range.mp hk
  match k, hk with
  | 0, _ => exact zt_in 201 (by decide +kernel) rfl
  | 1, _ => exact zt_in 203 (by decide +kernel) rfl
  | 2, _ => exact zt_in 205 (by decide +kernel) rfl
  | 3, _ => exact zt_in 207 (by decide +kernel) rfl
  | 4, _ => exact zt_in 209 (by decide +kernel) rfl
  | 5, _ => exact zt_in 211 (by decide +kernel) rfl
  | 6, _ => exact zt_in 213 (by decide +kernel) rfl
  | 7, _ => exact zt_in 215 (by decide +kernel) rfl
  | 8, _ => exact zt_in 217 (by decide +kernel) rfl
  | 9, _ => exact zt_in 219 (by decide +kernel) rfl
  | 10, _ => exact zt_in 221 (by decide +kernel) rfl
  | 11, _ => exact zt_in 223 (by decide +kernel) rfl
  | 12, _ => exact zt_in 225 (by decide +kernel) rfl
  | 13, _ => exact zt_in 227 (by decide +kernel) rfl
  | k + 14, h => exact absurd h (by omega)
def zT_Ca : u_T := fun k => match k with
  | 0 => ("FoolVotes$Canton", "voters", "I", false)
  | 1 => ("FoolVotes$Canton", "sort", "[I", true)
  | 2 => ("FoolVotes$Canton", "likes", "[I", true)
  | 3 => ("FoolVotes$Canton", "grudge", "[I", true)
  | 4 => ("FoolVotes$Canton", "speaker", "[I", true)
  | 5 => ("FoolVotes$Canton", "measures", "I", false)
  | 6 => ("FoolVotes$Canton", "year", "[I", true)
  | 7 => ("FoolVotes$Canton", "traits", "[I", true)
  | 8 => ("FoolVotes$Canton", "turn", "[I", true)
  | 9 => ("FoolVotes$Canton", "events", "I", false)
  | 10 => ("FoolVotes$Canton", "kind", "[I", true)
  | 11 => ("FoolVotes$Canton", "when", "[I", true)
  | 12 => ("FoolVotes$Canton", "number", "[I", true)
  | 13 => ("FoolVotes$Canton", "foolLikes", "I", false)
  | _ => ("FoolVotes$Canton", "weight", "I", false)
def zy_Ca : Nat → FieldType := fun k => match k with
  | 0 => .int
  | 1 => .array .int
  | 2 => .array .int
  | 3 => .array .int
  | 4 => .array .int
  | 5 => .int
  | 6 => .array .int
  | 7 => .array .int
  | 8 => .array .int
  | 9 => .int
  | 10 => .array .int
  | 11 => .array .int
  | 12 => .array .int
  | 13 => .int
  | _ => .int
theorem zN_Ca : ∀ a, a < 15 → ∀ b, b < 15 → a ≠ b → (zT_Ca a).2.1 ≠ (zT_Ca b).2.1 := by decide +kernel
theorem zY_Ca : ∀ k, k < 15 → parseFieldDescriptor (zT_Ca k).2.2.1 = some (zy_Ca k) := by decide +kernel
theorem zI_Ca : ∀ w ∈ u_ws zn_Ca zT_Ca 15, w ∈ zt_G := by
  intro w hw
  obtain ⟨k, hk, rfl⟩ := List.mem_map.mp hw
  have hk := List.mem_range.mp hk
  match k, hk with
  | 0, _ => exact zt_in 81 (by decide +kernel) rfl
  | 1, _ => exact zt_in 83 (by decide +kernel) rfl
  | 2, _ => exact zt_in 85 (by decide +kernel) rfl
  | 3, _ => exact zt_in 87 (by decide +kernel) rfl
  | 4, _ => exact zt_in 89 (by decide +kernel) rfl
  | 5, _ => exact zt_in 91 (by decide +kernel) rfl
  | 6, _ => exact zt_in 93 (by decide +kernel) rfl
  | 7, _ => exact zt_in 95 (by decide +kernel) rfl
  | 8, _ => exact zt_in 97 (by decide +kernel) rfl
  | 9, _ => exact zt_in 99 (by decide +kernel) rfl
  | 10, _ => exact zt_in 101 (by decide +kernel) rfl
  | 11, _ => exact zt_in 103 (by decide +kernel) rfl
  | 12, _ => exact zt_in 105 (by decide +kernel) rfl
  | 13, _ => exact zt_in 107 (by decide +kernel) rfl
  | 14, _ => exact zt_in 109 (by decide +kernel) rfl
  | k + 15, h => exact absurd h (by omega)
def zT_Sh : u_T := fun k => match k with
  | 0 => ("FoolVotes$Sheets", "form", "[I", true)
  | 1 => ("FoolVotes$Sheets", "size", "[I", true)
  | _ => ("FoolVotes$Sheets", "items", "[I", true)
def zy_Sh : Nat → FieldType := fun k => match k with
  | 0 => .array .int
  | 1 => .array .int
  | _ => .array .int
theorem zN_Sh : ∀ a, a < 3 → ∀ b, b < 3 → a ≠ b → (zT_Sh a).2.1 ≠ (zT_Sh b).2.1 := by decide +kernel
theorem zY_Sh : ∀ k, k < 3 → parseFieldDescriptor (zT_Sh k).2.2.1 = some (zy_Sh k) := by decide +kernel
theorem zI_Sh : ∀ w ∈ u_ws zn_Sh zT_Sh 3, w ∈ zt_G := by
  intro w hw
  obtain ⟨k, hk, rfl⟩ := List.mem_map.mp hw
  have hk := List.mem_range.mp hk
  match k, hk with
  | 0, _ => exact zt_in 180 (by decide +kernel) rfl
  | 1, _ => exact zt_in 182 (by decide +kernel) rfl
  | 2, _ => exact zt_in 184 (by decide +kernel) rfl
  | k + 3, h => exact absurd h (by omega)
def zT_Te : u_T := fun k => match k with
  | 0 => ("FoolVotes$Text", "bytes", "[I", true)
  | _ => ("FoolVotes$Text", "length", "I", false)
def zy_Te : Nat → FieldType := fun k => match k with
  | 0 => .array .int
  | _ => .int
theorem zN_Te : ∀ a, a < 2 → ∀ b, b < 2 → a ≠ b → (zT_Te a).2.1 ≠ (zT_Te b).2.1 := by decide +kernel
theorem zY_Te : ∀ k, k < 2 → parseFieldDescriptor (zT_Te k).2.2.1 = some (zy_Te k) := by decide +kernel
theorem zI_Te : ∀ w ∈ u_ws zn_Te zT_Te 2, w ∈ zt_G := by
  intro w hw
  obtain ⟨k, hk, rfl⟩ := List.mem_map.mp hw
  have hk := List.mem_range.mp hk
  match k, hk with
  | 0, _ => exact zt_in 28 (by decide +kernel) rfl
  | 1, _ => exact zt_in 30 (by decide +kernel) rfl
  | k + 2, h => exact absurd h (by omega)
def zT_Vo : u_T := fun k => match k with
  | 0 => ("FoolVotes$Votes", "said", "[I", true)
  | 1 => ("FoolVotes$Votes", "ayes", "[I", true)
  | 2 => ("FoolVotes$Votes", "noes", "[I", true)
  | 3 => ("FoolVotes$Votes", "foolDid", "[I", true)
  | 4 => ("FoolVotes$Votes", "passed", "I", false)
  | 5 => ("FoolVotes$Votes", "decided", "I", false)
  | 6 => ("FoolVotes$Votes", "likes", "[I", true)
  | 7 => ("FoolVotes$Votes", "grudge", "[I", true)
  | 8 => ("FoolVotes$Votes", "coats", "[I", true)
  | 9 => ("FoolVotes$Votes", "otherwise", "[I", true)
  | 10 => ("FoolVotes$Votes", "withDog", "Z", false)
  | 11 => ("FoolVotes$Votes", "withApple", "Z", false)
  | _ => ("FoolVotes$Votes", "hushed", "I", false)
def zy_Vo : Nat → FieldType := fun k => match k with
  | 0 => .array .int
  | 1 => .array .int
  | 2 => .array .int
  | 3 => .array .int
  | 4 => .int
  | 5 => .int
  | 6 => .array .int
  | 7 => .array .int
  | 8 => .array .int
  | 9 => .array .int
  | 10 => .boolean
  | 11 => .boolean
  | _ => .int
theorem zN_Vo : ∀ a, a < 13 → ∀ b, b < 13 → a ≠ b → (zT_Vo a).2.1 ≠ (zT_Vo b).2.1 := by decide +kernel
theorem zY_Vo : ∀ k, k < 13 → parseFieldDescriptor (zT_Vo k).2.2.1 = some (zy_Vo k) := by decide +kernel
theorem zI_Vo : ∀ w ∈ u_ws zn_Vo zT_Vo 13, w ∈ zt_G := by
  intro w hw
  obtain ⟨k, hk, rfl⟩ := List.mem_map.mp hw
  have hk := List.mem_range.mp hk
  match k, hk with
  | 0, _ => exact zt_in 141 (by decide +kernel) rfl
  | 1, _ => exact zt_in 143 (by decide +kernel) rfl
  | 2, _ => exact zt_in 145 (by decide +kernel) rfl
  | 3, _ => exact zt_in 147 (by decide +kernel) rfl
  | 4, _ => exact zt_in 149 (by decide +kernel) rfl
  | 5, _ => exact zt_in 151 (by decide +kernel) rfl
  | 6, _ => exact zt_in 153 (by decide +kernel) rfl
  | 7, _ => exact zt_in 155 (by decide +kernel) rfl
  | 8, _ => exact zt_in 157 (by decide +kernel) rfl
  | 9, _ => exact zt_in 159 (by decide +kernel) rfl
  | 10, _ => exact zt_in 161 (by decide +kernel) rfl
  | 11, _ => exact zt_in 163 (by decide +kernel) rfl
  | 12, _ => exact zt_in 165 (by decide +kernel) rfl
  | k + 13, h => exact absurd h (by omega)
def zT_Mo : u_T := fun k => match k with
  | 0 => ("FoolVotesModel", "forms", "[I", true)
  | 1 => ("FoolVotesModel", "sizes", "[I", true)
  | 2 => ("FoolVotesModel", "items", "[I", true)
  | 3 => ("FoolVotesModel", "moved", "[I", true)
  | 4 => ("FoolVotesModel", "latest", "I", false)
  | 5 => ("FoolVotesModel", "bytes", "[I", true)
  | 6 => ("FoolVotesModel", "typed", "[I", true)
  | 7 => ("FoolVotesModel", "voters", "I", false)
  | 8 => ("FoolVotesModel", "voter", "[I", true)
  | 9 => ("FoolVotesModel", "measures", "I", false)
  | 10 => ("FoolVotesModel", "measure", "[I", true)
  | 11 => ("FoolVotesModel", "fools", "[I", true)
  | 12 => ("FoolVotesModel", "events", "I", false)
  | 13 => ("FoolVotesModel", "event", "[I", true)
  | 14 => ("FoolVotesModel", "gone", "I", false)
  | 15 => ("FoolVotesModel", "speaks", "[I", true)
  | 16 => ("FoolVotesModel", "likes", "[I", true)
  | 17 => ("FoolVotesModel", "grudge", "[I", true)
  | 18 => ("FoolVotesModel", "coats", "[I", true)
  | 19 => ("FoolVotesModel", "others", "[I", true)
  | 20 => ("FoolVotesModel", "saidBy", "[I", true)
  | 21 => ("FoolVotesModel", "ayes", "[I", true)
  | 22 => ("FoolVotesModel", "noes", "[I", true)
  | 23 => ("FoolVotesModel", "fooled", "[I", true)
  | 24 => ("FoolVotesModel", "passed", "[Z", true)
  | 25 => ("FoolVotesModel", "decided", "[Z", true)
  | 26 => ("FoolVotesModel", "level", "I", false)
  | 27 => ("FoolVotesModel", "sights", "I", false)
  | 28 => ("FoolVotesModel", "sight", "[I", true)
  | 29 => ("FoolVotesModel", "ways", "[I", true)
  | _ => ("FoolVotesModel", "drawn", "I", false)
def zy_Mo : Nat → FieldType := fun k => match k with
  | 0 => .array .int
  | 1 => .array .int
  | 2 => .array .int
  | 3 => .array .int
  | 4 => .int
  | 5 => .array .int
  | 6 => .array .int
  | 7 => .int
  | 8 => .array .int
  | 9 => .int
  | 10 => .array .int
  | 11 => .array .int
  | 12 => .int
  | 13 => .array .int
  | 14 => .int
  | 15 => .array .int
  | 16 => .array .int
  | 17 => .array .int
  | 18 => .array .int
  | 19 => .array .int
  | 20 => .array .int
  | 21 => .array .int
  | 22 => .array .int
  | 23 => .array .int
  | 24 => .array .boolean
  | 25 => .array .boolean
  | 26 => .int
  | 27 => .int
  | 28 => .array .int
  | 29 => .array .int
  | _ => .int
theorem zN_Mo : ∀ a, a < 31 → ∀ b, b < 31 → a ≠ b → (zT_Mo a).2.1 ≠ (zT_Mo b).2.1 := by decide +kernel
theorem zY_Mo : ∀ k, k < 31 → parseFieldDescriptor (zT_Mo k).2.2.1 = some (zy_Mo k) := by decide +kernel
theorem zI_Mo : ∀ w ∈ u_ws zn_Mo zT_Mo 31, w ∈ zt_G := by
  intro w hw
  obtain ⟨k, hk, rfl⟩ := List.mem_map.mp hw
  have hk := List.mem_range.mp hk
  match k, hk with
  | 0, _ => exact zt_in 613 (by decide +kernel) rfl
  | 1, _ => exact zt_in 615 (by decide +kernel) rfl
  | 2, _ => exact zt_in 617 (by decide +kernel) rfl
  | 3, _ => exact zt_in 619 (by decide +kernel) rfl
  | 4, _ => exact zt_in 621 (by decide +kernel) rfl
  | 5, _ => exact zt_in 623 (by decide +kernel) rfl
  | 6, _ => exact zt_in 625 (by decide +kernel) rfl
  | 7, _ => exact zt_in 627 (by decide +kernel) rfl
  | 8, _ => exact zt_in 629 (by decide +kernel) rfl
  | 9, _ => exact zt_in 631 (by decide +kernel) rfl
  | 10, _ => exact zt_in 633 (by decide +kernel) rfl
  | 11, _ => exact zt_in 635 (by decide +kernel) rfl
  | 12, _ => exact zt_in 637 (by decide +kernel) rfl
  | 13, _ => exact zt_in 639 (by decide +kernel) rfl
  | 14, _ => exact zt_in 641 (by decide +kernel) rfl
  | 15, _ => exact zt_in 643 (by decide +kernel) rfl
  | 16, _ => exact zt_in 645 (by decide +kernel) rfl
  | 17, _ => exact zt_in 647 (by decide +kernel) rfl
  | 18, _ => exact zt_in 649 (by decide +kernel) rfl
  | 19, _ => exact zt_in 651 (by decide +kernel) rfl
  | 20, _ => exact zt_in 653 (by decide +kernel) rfl
  | 21, _ => exact zt_in 655 (by decide +kernel) rfl
  | 22, _ => exact zt_in 657 (by decide +kernel) rfl
  | 23, _ => exact zt_in 659 (by decide +kernel) rfl
  | 24, _ => exact zt_in 661 (by decide +kernel) rfl
  | 25, _ => exact zt_in 663 (by decide +kernel) rfl
  | 26, _ => exact zt_in 665 (by decide +kernel) rfl
  | 27, _ => exact zt_in 667 (by decide +kernel) rfl
  | 28, _ => exact zt_in 669 (by decide +kernel) rfl
  | 29, _ => exact zt_in 671 (by decide +kernel) rfl
  | 30, _ => exact zt_in 673 (by decide +kernel) rfl
  | k + 31, h => exact absurd h (by omega)
/-- the classes whose objects the worlds hold -/
abbrev zc_cl : List vw_C := [(zn_Fv, zT_Fv, 14), (zn_Ca, zT_Ca, 15), (zn_Sh, zT_Sh, 3), (zn_Te, zT_Te, 2), (zn_Vo, zT_Vo, 13), (zn_Mo, zT_Mo, 31)]
/-- the world: an array (0: of ints, 1: of booleans; its length), or an object (its class; for each field the cell that it names, or none: a number) -/
def zs_sh : List ((Nat × Nat) ⊕ (Nat × List (Option Nat))) := [
  .inr (0, [some 1, some 3, some 5, some 16, some 25, some 36, some 45, some 46, some 47, some 48, some 49, none, none, none]),
  .inr (3, [some 2, none]),
  .inl (0, 31),
  .inr (3, [some 4, none]),
  .inl (0, 35),
  .inr (1, [none, some 6, some 7, some 8, some 9, none, some 10, some 11, some 12, none, some 13, some 14, some 15, none, none]),
  .inl (0, 8),
  .inl (0, 8),
  .inl (0, 8),
  .inl (0, 8),
  .inl (0, 12),
  .inl (0, 12),
  .inl (0, 12),
  .inl (0, 8),
  .inl (0, 8),
  .inl (0, 8),
  .inr (4, [some 17, some 18, some 19, some 20, none, none, some 21, some 22, some 23, some 24, none, none, none]),
  .inl (0, 96),
  .inl (0, 12),
  .inl (0, 12),
  .inl (0, 12),
  .inl (0, 8),
  .inl (0, 8),
  .inl (0, 8),
  .inl (0, 8),
  .inr (1, [none, some 26, some 27, some 28, some 29, none, some 30, some 31, some 32, none, some 33, some 34, some 35, none, none]),
  .inl (0, 8),
  .inl (0, 8),
  .inl (0, 8),
  .inl (0, 8),
  .inl (0, 12),
  .inl (0, 12),
  .inl (0, 12),
  .inl (0, 8),
  .inl (0, 8),
  .inl (0, 8),
  .inr (4, [some 37, some 38, some 39, some 40, none, none, some 41, some 42, some 43, some 44, none, none, none]),
  .inl (0, 96),
  .inl (0, 12),
  .inl (0, 12),
  .inl (0, 12),
  .inl (0, 8),
  .inl (0, 8),
  .inl (0, 8),
  .inl (0, 8),
  .inl (0, 8),
  .inl (0, 8),
  .inl (0, 8),
  .inl (0, 256),
  .inr (2, [some 50, some 51, some 52]),
  .inl (0, 4),
  .inl (0, 4),
  .inl (0, 240),
  .inr (5, [some 54, some 55, some 56, some 57, none, some 58, some 59, none, some 60, none, some 61, some 62, none, some 63, none, some 64, some 65, some 66, some 67, some 68, some 69, some 70, some 71, some 72, some 73, some 74, none, none, some 75, some 76, none]),
  .inl (0, 4),
  .inl (0, 4),
  .inl (0, 240),
  .inl (0, 60),
  .inl (0, 72),
  .inl (0, 2),
  .inl (0, 24),
  .inl (0, 24),
  .inl (0, 2),
  .inl (0, 24),
  .inl (0, 8),
  .inl (0, 8),
  .inl (0, 8),
  .inl (0, 8),
  .inl (0, 8),
  .inl (0, 96),
  .inl (0, 12),
  .inl (0, 12),
  .inl (0, 12),
  .inl (1, 12),
  .inl (1, 12),
  .inl (0, 16),
  .inl (0, 8)]
/-- which number fields are booleans -/
def zs_isZ (c j : Nat) : Bool := ([(0, 13), (4, 10), (4, 11)] : List (Nat × Nat)).contains (c, j)
end
section
/-- own class, name, code, locals, answer, static, arguments (its object among them), frames, words -/
abbrev zh_T : Type := Nat × MethodName × ByteArray × Nat × Option FieldType × Bool × Nat × Nat × Nat
def zn_c (c : Nat) : String := ([zn_Fv, zn_Ca, zn_Sh, zn_Te, zn_Vo, zn_Mo, zn_In, zn_Ma, zn_Ar] : List String).getD c ""
abbrev zr_0 : zh_T := (0, ⟨"FoolVotes", "below", "(II)Z"⟩, prog_1_method_41_code, 2, (some .boolean), true, 2, 0, 0)
abbrev zr_1 : zh_T := (0, ⟨"FoolVotes", "textOf", "(I)LFoolVotes$Text;"⟩, prog_1_method_44_code, 2, (some (.object "FoolVotes$Text")), false, 2, 0, 0)
abbrev zr_2 : zh_T := (0, ⟨"FoolVotes", "fitsVoter", "(II)Z"⟩, prog_1_method_45_code, 2, (some .boolean), true, 2, 0, 0)
abbrev zr_3 : zh_T := (0, ⟨"FoolVotes", "fitsMeasure", "(II)Z"⟩, prog_1_method_46_code, 2, (some .boolean), true, 2, 0, 0)
abbrev zr_4 : zh_T := (0, ⟨"FoolVotes", "fault", "(I)I"⟩, prog_1_method_5_code, 6, (some .int), false, 2, 1, 21)
abbrev zr_5 : zh_T := (1, ⟨"FoolVotes$Canton", "addVoter", "(III)V"⟩, prog_2_method_2_code, 4, none, false, 4, 0, 0)
abbrev zr_6 : zh_T := (1, ⟨"FoolVotes$Canton", "addMeasure", "(II)V"⟩, prog_2_method_3_code, 4, none, false, 3, 0, 0)
abbrev zr_7 : zh_T := (0, ⟨"FoolVotes", "bit", "(II)I"⟩, prog_1_method_42_code, 2, (some .int), true, 2, 0, 0)
abbrev zr_8 : zh_T := (4, ⟨"FoolVotes$Votes", "lookAtYear", "(LFoolVotes$Canton;II)V"⟩, prog_5_method_4_code, 5, none, false, 4, 1, 21)
abbrev zr_9 : zh_T := (4, ⟨"FoolVotes$Votes", "isFor", "(II)I"⟩, prog_5_method_8_code, 4, (some .int), true, 2, 0, 0)
abbrev zr_10 : zh_T := (4, ⟨"FoolVotes$Votes", "speak", "(LFoolVotes$Canton;II)V"⟩, prog_5_method_5_code, 10, none, false, 4, 1, 23)
abbrev zr_11 : zh_T := (4, ⟨"FoolVotes$Votes", "decide", "(III)V"⟩, prog_5_method_6_code, 6, none, false, 4, 0, 0)
abbrev zr_12 : zh_T := (4, ⟨"FoolVotes$Votes", "remember", "(LFoolVotes$Canton;I)V"⟩, prog_5_method_7_code, 6, none, false, 3, 1, 21)
abbrev zr_13 : zh_T := (4, ⟨"FoolVotes$Votes", "hold", "(LFoolVotes$Canton;I)V"⟩, prog_5_method_2_code, 6, none, false, 3, 2, 52)
abbrev zr_14 : zh_T := (0, ⟨"FoolVotes", "retell", "()V"⟩, prog_1_method_47_code, 4, none, false, 1, 3, 77)
abbrev zr_15 : zh_T := (0, ⟨"FoolVotes", "type", "(II)I"⟩, prog_1_method_2_code, 4, (some .int), false, 3, 4, 100)
abbrev zr_16 : zh_T := (0, ⟨"FoolVotes", "wipe", "(I)I"⟩, prog_1_method_3_code, 4, (some .int), false, 2, 4, 100)
abbrev zr_17 : zh_T := (0, ⟨"FoolVotes", "undo", "(I)I"⟩, prog_1_method_4_code, 3, (some .int), false, 2, 4, 100)
abbrev zr_18 : zh_T := (0, ⟨"FoolVotes", "voter", "(II)I"⟩, prog_1_method_6_code, 3, (some .int), false, 3, 1, 21)
abbrev zr_19 : zh_T := (0, ⟨"FoolVotes", "measure", "(II)I"⟩, prog_1_method_7_code, 3, (some .int), false, 3, 1, 21)
abbrev zr_20 : zh_T := (0, ⟨"FoolVotes", "fool", "(II)I"⟩, prog_1_method_8_code, 4, (some .int), false, 3, 4, 100)
abbrev zr_21 : zh_T := (1, ⟨"FoolVotes$Canton", "addEvent", "(III)V"⟩, prog_2_method_4_code, 4, none, false, 4, 0, 0)
abbrev zr_22 : zh_T := (0, ⟨"FoolVotes", "event", "(III)I"⟩, prog_1_method_9_code, 4, (some .int), false, 4, 4, 100)
abbrev zr_23 : zh_T := (0, ⟨"FoolVotes", "back", "()I"⟩, prog_1_method_10_code, 1, (some .int), false, 1, 4, 100)
abbrev zr_24 : zh_T := (2, ⟨"FoolVotes$Sheets", "isLost", "(I)Z"⟩, prog_3_method_2_code, 2, (some .boolean), false, 2, 0, 0)
abbrev zr_25 : zh_T := (0, ⟨"FoolVotes", "found", "(I)I"⟩, prog_1_method_43_code, 2, (some .int), false, 2, 0, 0)
abbrev zr_26 : zh_T := (2, ⟨"FoolVotes$Sheets", "item", "(II)I"⟩, prog_3_method_4_code, 3, (some .int), false, 3, 0, 0)
abbrev zr_27 : zh_T := (0, ⟨"FoolVotes", "read", "(I)I"⟩, prog_1_method_11_code, 5, (some .int), false, 2, 5, 123)
abbrev zr_28 : zh_T := (0, ⟨"FoolVotes", "said", "(II)I"⟩, prog_1_method_12_code, 3, (some .int), false, 3, 1, 21)
abbrev zr_29 : zh_T := (0, ⟨"FoolVotes", "tally", "(II)I"⟩, prog_1_method_13_code, 3, (some .int), false, 3, 1, 21)
abbrev zr_30 : zh_T := (0, ⟨"FoolVotes", "at", "(II)I"⟩, prog_1_method_14_code, 3, (some .int), false, 3, 1, 21)
abbrev zr_31 : zh_T := (6, ⟨"java/lang/Integer", "bitCount", "(I)I"⟩, prog_8_method_49_code, 1, (some .int), true, 1, 0, 0)
abbrev zr_32 : zh_T := (0, ⟨"FoolVotes", "sum", "(I)I"⟩, prog_1_method_15_code, 2, (some .int), false, 2, 1, 21)
abbrev zr_33 : zh_T := (0, ⟨"FoolVotes", "level", "()I"⟩, prog_1_method_16_code, 3, (some .int), false, 1, 0, 0)
abbrev zr_34 : zh_T := (0, ⟨"FoolVotes", "loyal", "()I"⟩, prog_1_method_17_code, 3, (some .int), false, 1, 0, 0)
abbrev zr_35 : zh_T := (0, ⟨"FoolVotes", "bitter", "()I"⟩, prog_1_method_18_code, 4, (some .int), false, 1, 0, 0)
abbrev zr_36 : zh_T := (1, ⟨"FoolVotes$Canton", "become", "(LFoolVotes$Canton;)V"⟩, prog_2_method_7_code, 2, none, false, 2, 1, 35)
abbrev zr_37 : zh_T := (0, ⟨"FoolVotes", "put", "(II)I"⟩, prog_1_method_19_code, 7, (some .int), false, 3, 3, 77)
abbrev zr_38 : zh_T := (1, ⟨"FoolVotes$Canton", "changePlaces", "(II)V"⟩, prog_2_method_6_code, 4, none, false, 3, 0, 0)
abbrev zr_39 : zh_T := (0, ⟨"FoolVotes", "swap", "(I)I"⟩, prog_1_method_20_code, 8, (some .int), false, 2, 3, 77)
abbrev zr_40 : zh_T := (0, ⟨"FoolVotes", "tryHearts", "()V"⟩, prog_1_method_53_code, 2, none, false, 1, 3, 77)
abbrev zr_41 : zh_T := (0, ⟨"FoolVotes", "wish", "(I)I"⟩, prog_1_method_21_code, 6, (some .int), false, 2, 4, 98)
abbrev zr_42 : zh_T := (1, ⟨"FoolVotes$Canton", "eventBits", "()I"⟩, prog_2_method_5_code, 1, (some .int), false, 1, 0, 0)
abbrev zr_43 : zh_T := (8, ⟨"java/util/Arrays", "fill", "([II)V"⟩, prog_11_method_103_code, 4, none, true, 2, 0, 0)
abbrev zr_44 : zh_T := (4, ⟨"FoolVotes$Votes", "coatsInAll", "(I)I"⟩, prog_5_method_3_code, 4, (some .int), false, 2, 0, 0)
abbrev zr_45 : zh_T := (0, ⟨"FoolVotes", "outcomeOf", "(I)I"⟩, prog_1_method_48_code, 3, (some .int), false, 2, 3, 77)
abbrev zr_46 : zh_T := (0, ⟨"FoolVotes", "keepsCoats", "(I)Z"⟩, prog_1_method_49_code, 2, (some .boolean), false, 2, 4, 99)
abbrev zr_47 : zh_T := (0, ⟨"FoolVotes", "spared", "(IIII)I"⟩, prog_1_method_50_code, 4, (some .int), true, 4, 0, 0)
abbrev zr_48 : zh_T := (0, ⟨"FoolVotes", "spare", "(I)I"⟩, prog_1_method_22_code, 5, (some .int), false, 2, 5, 120)
abbrev zr_49 : zh_T := (0, ⟨"FoolVotes", "seen", "(II)I"⟩, prog_1_method_23_code, 3, (some .int), false, 3, 1, 21)
abbrev zr_50 : zh_T := (0, ⟨"FoolVotes", "forget", "()I"⟩, prog_1_method_24_code, 2, (some .int), false, 1, 0, 0)
abbrev zr_51 : zh_T := (0, ⟨"FoolVotes", "fitsSeen", "(I)Z"⟩, prog_1_method_51_code, 3, (some .boolean), false, 2, 1, 21)
abbrev zr_52 : zh_T := (0, ⟨"FoolVotes", "neverBits", "()I"⟩, prog_1_method_52_code, 4, (some .int), false, 1, 4, 99)
abbrev zr_53 : zh_T := (0, ⟨"FoolVotes", "heartBits", "()I"⟩, prog_1_method_54_code, 3, (some .int), false, 1, 2, 43)
abbrev zr_54 : zh_T := (0, ⟨"FoolVotes", "might", "(I)I"⟩, prog_1_method_25_code, 2, (some .int), false, 2, 5, 122)
abbrev zr_55 : zh_T := (0, ⟨"FoolVotes", "was", "(II)I"⟩, prog_1_method_26_code, 6, (some .int), false, 3, 3, 77)
abbrev zr_56 : zh_T := (0, ⟨"FoolVotes", "mostAlike", "(II)I"⟩, prog_1_method_55_code, 5, (some .int), false, 3, 1, 40)
abbrev zr_57 : zh_T := (0, ⟨"FoolVotes", "ask", "()I"⟩, prog_1_method_27_code, 6, (some .int), false, 1, 4, 98)
abbrev zr_58 : zh_T := (0, ⟨"FoolVotes", "weightOf", "(II)J"⟩, prog_1_method_56_code, 6, (some .long), false, 3, 0, 0)
abbrev zr_59 : zh_T := (0, ⟨"FoolVotes", "lowestTerm", "(JI)J"⟩, prog_1_method_57_code, 10, (some .long), false, 3, 0, 0)
abbrev zr_60 : zh_T := (0, ⟨"FoolVotes", "chance", "(III)J"⟩, prog_1_method_28_code, 10, (some .long), false, 4, 4, 99)
abbrev zr_61 : zh_T := (0, ⟨"FoolVotes", "nextSeed", "(I)I"⟩, prog_1_method_58_code, 1, (some .int), true, 1, 0, 0)
abbrev zr_62 : zh_T := (0, ⟨"FoolVotes", "ages", "(III)I"⟩, prog_1_method_29_code, 7, (some .int), false, 4, 3, 77)
abbrev zr_63 : zh_T := (2, ⟨"FoolVotes$Sheets", "renew", "(III)V"⟩, prog_3_method_3_code, 5, none, false, 4, 0, 0)
abbrev zr_64 : zh_T := (0, ⟨"FoolVotes", "sheet", "(III)I"⟩, prog_1_method_30_code, 4, (some .int), false, 4, 1, 24)
abbrev zr_65 : zh_T := (0, ⟨"FoolVotes", "lose", "(I)I"⟩, prog_1_method_31_code, 3, (some .int), false, 2, 1, 21)
abbrev zr_66 : zh_T := (0, ⟨"FoolVotes", "refusalOfItem", "(III)I"⟩, prog_1_method_59_code, 4, (some .int), false, 4, 1, 21)
abbrev zr_67 : zh_T := (2, ⟨"FoolVotes$Sheets", "setItem", "(III)V"⟩, prog_3_method_5_code, 5, none, false, 4, 0, 0)
abbrev zr_68 : zh_T := (0, ⟨"FoolVotes", "lay", "(IIII)I"⟩, prog_1_method_32_code, 6, (some .int), false, 5, 2, 44)
abbrev zr_69 : zh_T := (0, ⟨"FoolVotes", "get", "(III)I"⟩, prog_1_method_33_code, 4, (some .int), false, 4, 2, 44)
abbrev zr_70 : zh_T := (2, ⟨"FoolVotes$Sheets", "hasSpan", "(III)Z"⟩, prog_3_method_6_code, 4, (some .boolean), false, 4, 0, 0)
abbrev zr_71 : zh_T := (0, ⟨"FoolVotes", "copy", "(IIIII)I"⟩, prog_1_method_34_code, 6, (some .int), false, 6, 1, 35)
abbrev zr_72 : zh_T := (0, ⟨"FoolVotes", "write", "(I)I"⟩, prog_1_method_35_code, 4, (some .int), false, 2, 1, 40)
abbrev zr_73 : zh_T := (0, ⟨"FoolVotes", "count", "(I)I"⟩, prog_1_method_36_code, 2, (some .int), false, 2, 1, 23)
abbrev zr_74 : zh_T := (0, ⟨"FoolVotes", "withMeasure", "(JI)J"⟩, prog_1_method_38_code, 7, (some .long), false, 3, 5, 128)
abbrev zr_75 : zh_T := (0, ⟨"FoolVotes", "withVoter", "(JI)J"⟩, prog_1_method_39_code, 7, (some .long), false, 3, 4, 102)
abbrev zr_76 : zh_T := (0, ⟨"FoolVotes", "withTrials", "(J)J"⟩, prog_1_method_40_code, 6, (some .long), false, 2, 6, 144)
abbrev zr_77 : zh_T := (0, ⟨"FoolVotes", "digest", "()J"⟩, prog_1_method_37_code, 4, (some .long), false, 1, 7, 169)
abbrev zr_78 : zh_T := (5, ⟨"FoolVotesModel", "in", "(JJJ)Z"⟩, prog_7_method_3_code, 6, (some .boolean), true, 3, 0, 0)
abbrev zr_79 : zh_T := (5, ⟨"FoolVotesModel", "isSheet", "(I)Z"⟩, prog_7_method_12_code, 1, (some .boolean), true, 1, 1, 25)
abbrev zr_80 : zh_T := (5, ⟨"FoolVotesModel", "finds", "(I)I"⟩, prog_7_method_11_code, 2, (some .int), false, 2, 0, 0)
abbrev zr_81 : zh_T := (5, ⟨"FoolVotesModel", "sheet", "(III)I"⟩, prog_7_method_13_code, 5, (some .int), false, 4, 2, 45)
abbrev zr_82 : zh_T := (5, ⟨"FoolVotesModel", "lose", "(I)I"⟩, prog_7_method_14_code, 2, (some .int), false, 2, 2, 45)
abbrev zr_83 : zh_T := (5, ⟨"FoolVotesModel", "lacks", "(III)I"⟩, prog_7_method_15_code, 4, (some .int), false, 4, 1, 25)
abbrev zr_84 : zh_T := (5, ⟨"FoolVotesModel", "cut", "(II)I"⟩, prog_7_method_16_code, 2, (some .int), true, 2, 0, 0)
abbrev zr_85 : zh_T := (5, ⟨"FoolVotesModel", "lay", "(IIII)I"⟩, prog_7_method_17_code, 6, (some .int), false, 5, 2, 48)
abbrev zr_86 : zh_T := (5, ⟨"FoolVotesModel", "get", "(III)I"⟩, prog_7_method_18_code, 4, (some .int), false, 4, 2, 48)
abbrev zr_87 : zh_T := (5, ⟨"FoolVotesModel", "copy", "(IIIII)I"⟩, prog_7_method_19_code, 7, (some .int), false, 6, 2, 45)
abbrev zr_88 : zh_T := (5, ⟨"FoolVotesModel", "isTwo", "(I)Z"⟩, prog_7_method_5_code, 1, (some .boolean), true, 1, 1, 25)
abbrev zr_89 : zh_T := (5, ⟨"FoolVotesModel", "type", "(II)I"⟩, prog_7_method_20_code, 3, (some .int), false, 3, 2, 45)
abbrev zr_90 : zh_T := (5, ⟨"FoolVotesModel", "wipe", "(I)I"⟩, prog_7_method_21_code, 3, (some .int), false, 2, 2, 45)
abbrev zr_91 : zh_T := (5, ⟨"FoolVotesModel", "undo", "(I)I"⟩, prog_7_method_22_code, 2, (some .int), false, 2, 2, 45)
abbrev zr_92 : zh_T := (5, ⟨"FoolVotesModel", "figureOf", "(II)I"⟩, prog_7_method_23_code, 2, (some .int), true, 2, 1, 25)
abbrev zr_93 : zh_T := (5, ⟨"FoolVotesModel", "voterOf", "(II)I"⟩, prog_7_method_24_code, 2, (some .int), true, 2, 2, 46)
abbrev zr_94 : zh_T := (5, ⟨"FoolVotesModel", "readsVoters", "()I"⟩, prog_7_method_25_code, 5, (some .int), false, 1, 3, 67)
abbrev zr_95 : zh_T := (5, ⟨"FoolVotesModel", "measureOf", "(II)I"⟩, prog_7_method_26_code, 2, (some .int), true, 2, 2, 46)
abbrev zr_96 : zh_T := (5, ⟨"FoolVotesModel", "readsMeasures", "()I"⟩, prog_7_method_27_code, 5, (some .int), false, 1, 3, 67)
abbrev zr_97 : zh_T := (5, ⟨"FoolVotesModel", "readsText", "(I)I"⟩, prog_7_method_28_code, 2, (some .int), false, 2, 4, 91)
abbrev zr_98 : zh_T := (5, ⟨"FoolVotesModel", "fault", "(I)I"⟩, prog_7_method_29_code, 2, (some .int), false, 2, 5, 112)
abbrev zr_99 : zh_T := (5, ⟨"FoolVotesModel", "isVoter", "(I)Z"⟩, prog_7_method_30_code, 2, (some .boolean), false, 2, 1, 25)
abbrev zr_100 : zh_T := (5, ⟨"FoolVotesModel", "voter", "(II)I"⟩, prog_7_method_32_code, 3, (some .int), false, 3, 4, 91)
abbrev zr_101 : zh_T := (5, ⟨"FoolVotesModel", "isMeasure", "(I)Z"⟩, prog_7_method_31_code, 2, (some .boolean), false, 2, 1, 25)
abbrev zr_102 : zh_T := (5, ⟨"FoolVotesModel", "measure", "(II)I"⟩, prog_7_method_33_code, 3, (some .int), false, 3, 4, 91)
abbrev zr_103 : zh_T := (5, ⟨"FoolVotesModel", "fool", "(II)I"⟩, prog_7_method_34_code, 4, (some .int), false, 3, 2, 45)
abbrev zr_104 : zh_T := (5, ⟨"FoolVotesModel", "event", "(III)I"⟩, prog_7_method_35_code, 4, (some .int), false, 4, 1, 25)
abbrev zr_105 : zh_T := (5, ⟨"FoolVotesModel", "back", "()I"⟩, prog_7_method_36_code, 1, (some .int), false, 1, 0, 0)
abbrev zr_106 : zh_T := (5, ⟨"FoolVotesModel", "read", "(I)I"⟩, prog_7_method_37_code, 5, (some .int), false, 2, 2, 48)
abbrev zr_107 : zh_T := (5, ⟨"FoolVotesModel", "isIn", "(II)Z"⟩, prog_7_method_6_code, 2, (some .boolean), true, 2, 0, 0)
abbrev zr_108 : zh_T := (5, ⟨"FoolVotesModel", "isTold", "(III)Z"⟩, prog_7_method_38_code, 7, (some .boolean), false, 4, 1, 21)
abbrev zr_109 : zh_T := (5, ⟨"FoolVotesModel", "ones", "(I)I"⟩, prog_7_method_7_code, 3, (some .int), true, 1, 0, 0)
abbrev zr_110 : zh_T := (5, ⟨"FoolVotesModel", "isFor", "(II)Z"⟩, prog_7_method_39_code, 2, (some .boolean), true, 2, 1, 22)
abbrev zr_111 : zh_T := (5, ⟨"FoolVotesModel", "says", "(IIIII)I"⟩, prog_7_method_40_code, 7, (some .int), false, 6, 2, 43)
abbrev zr_112 : zh_T := (5, ⟨"FoolVotesModel", "comesOut", "(I)V"⟩, prog_7_method_42_code, 5, none, false, 2, 0, 0)
abbrev zr_113 : zh_T := (5, ⟨"FoolVotesModel", "votes", "(I)V"⟩, prog_7_method_41_code, 11, none, false, 2, 3, 69)
abbrev zr_114 : zh_T := (5, ⟨"FoolVotesModel", "lives", "()V"⟩, prog_7_method_43_code, 3, none, false, 1, 4, 99)
abbrev zr_115 : zh_T := (5, ⟨"FoolVotesModel", "find", "()V"⟩, prog_7_method_44_code, 2, none, false, 1, 5, 121)
abbrev zr_116 : zh_T := (5, ⟨"FoolVotesModel", "said", "(II)I"⟩, prog_7_method_45_code, 3, (some .int), false, 3, 6, 142)
abbrev zr_117 : zh_T := (5, ⟨"FoolVotesModel", "tallyBy", "(II)I"⟩, prog_7_method_46_code, 3, (some .int), false, 3, 0, 0)
abbrev zr_118 : zh_T := (5, ⟨"FoolVotesModel", "tally", "(II)I"⟩, prog_7_method_47_code, 3, (some .int), false, 3, 6, 142)
abbrev zr_119 : zh_T := (5, ⟨"FoolVotesModel", "atBy", "(II)I"⟩, prog_7_method_48_code, 3, (some .int), false, 3, 0, 0)
abbrev zr_120 : zh_T := (5, ⟨"FoolVotesModel", "at", "(II)I"⟩, prog_7_method_49_code, 3, (some .int), false, 3, 6, 142)
abbrev zr_121 : zh_T := (5, ⟨"FoolVotesModel", "sumBy", "(I)I"⟩, prog_7_method_50_code, 4, (some .int), false, 2, 1, 22)
abbrev zr_122 : zh_T := (5, ⟨"FoolVotesModel", "sum", "(I)I"⟩, prog_7_method_51_code, 2, (some .int), false, 2, 6, 142)
abbrev zr_123 : zh_T := (5, ⟨"FoolVotesModel", "level", "()I"⟩, prog_7_method_52_code, 1, (some .int), false, 1, 6, 142)
abbrev zr_124 : zh_T := (5, ⟨"FoolVotesModel", "loyalNow", "()I"⟩, prog_7_method_53_code, 3, (some .int), false, 1, 0, 0)
abbrev zr_125 : zh_T := (5, ⟨"FoolVotesModel", "loyal", "()I"⟩, prog_7_method_54_code, 1, (some .int), false, 1, 6, 142)
abbrev zr_126 : zh_T := (5, ⟨"FoolVotesModel", "greater", "(II)I"⟩, prog_7_method_9_code, 2, (some .int), true, 2, 0, 0)
abbrev zr_127 : zh_T := (5, ⟨"FoolVotesModel", "bitterNow", "()I"⟩, prog_7_method_55_code, 4, (some .int), false, 1, 1, 21)
abbrev zr_128 : zh_T := (5, ⟨"FoolVotesModel", "bitter", "()I"⟩, prog_7_method_56_code, 1, (some .int), false, 1, 6, 142)
abbrev zr_129 : zh_T := (5, ⟨"FoolVotesModel", "lesser", "(II)I"⟩, prog_7_method_8_code, 2, (some .int), true, 2, 0, 0)
abbrev zr_130 : zh_T := (5, ⟨"FoolVotesModel", "putOf", "(II)I"⟩, prog_7_method_58_code, 8, (some .int), false, 3, 5, 121)
abbrev zr_131 : zh_T := (5, ⟨"FoolVotesModel", "put", "(II)I"⟩, prog_7_method_59_code, 3, (some .int), false, 3, 6, 148)
abbrev zr_132 : zh_T := (5, ⟨"FoolVotesModel", "swapBy", "(I)I"⟩, prog_7_method_60_code, 7, (some .int), false, 2, 5, 121)
abbrev zr_133 : zh_T := (5, ⟨"FoolVotesModel", "swap", "(I)I"⟩, prog_7_method_61_code, 2, (some .int), false, 2, 6, 147)
abbrev zr_134 : zh_T := (5, ⟨"FoolVotesModel", "wishBy", "(I)I"⟩, prog_7_method_62_code, 7, (some .int), false, 2, 5, 121)
abbrev zr_135 : zh_T := (5, ⟨"FoolVotesModel", "wish", "(I)I"⟩, prog_7_method_63_code, 2, (some .int), false, 2, 6, 147)
abbrev zr_136 : zh_T := (5, ⟨"FoolVotesModel", "coatsNow", "()I"⟩, prog_7_method_57_code, 3, (some .int), false, 1, 0, 0)
abbrev zr_137 : zh_T := (5, ⟨"FoolVotesModel", "isSpared", "(I)Z"⟩, prog_7_method_64_code, 2, (some .boolean), false, 2, 5, 121)
abbrev zr_138 : zh_T := (5, ⟨"FoolVotesModel", "spareBy", "(I)I"⟩, prog_7_method_65_code, 4, (some .int), false, 2, 6, 142)
abbrev zr_139 : zh_T := (5, ⟨"FoolVotesModel", "spare", "(I)I"⟩, prog_7_method_66_code, 2, (some .int), false, 2, 7, 165)
abbrev zr_140 : zh_T := (5, ⟨"FoolVotesModel", "seen", "(II)I"⟩, prog_7_method_67_code, 3, (some .int), false, 3, 2, 45)
abbrev zr_141 : zh_T := (5, ⟨"FoolVotesModel", "forget", "()I"⟩, prog_7_method_68_code, 2, (some .int), false, 1, 0, 0)
abbrev zr_142 : zh_T := (5, ⟨"FoolVotesModel", "isSeen", "()Z"⟩, prog_7_method_69_code, 4, (some .boolean), false, 1, 5, 121)
abbrev zr_143 : zh_T := (5, ⟨"FoolVotesModel", "neverNow", "()I"⟩, prog_7_method_70_code, 3, (some .int), false, 1, 6, 144)
abbrev zr_144 : zh_T := (5, ⟨"FoolVotesModel", "heartNow", "()I"⟩, prog_7_method_71_code, 5, (some .int), false, 1, 6, 144)
abbrev zr_145 : zh_T := (5, ⟨"FoolVotesModel", "mightBy", "(I)I"⟩, prog_7_method_72_code, 2, (some .int), false, 2, 7, 168)
abbrev zr_146 : zh_T := (5, ⟨"FoolVotesModel", "might", "(I)I"⟩, prog_7_method_73_code, 2, (some .int), false, 2, 8, 189)
abbrev zr_147 : zh_T := (5, ⟨"FoolVotesModel", "wasOf", "(II)I"⟩, prog_7_method_74_code, 7, (some .int), false, 3, 6, 144)
abbrev zr_148 : zh_T := (5, ⟨"FoolVotesModel", "was", "(II)I"⟩, prog_7_method_75_code, 3, (some .int), false, 3, 7, 170)
abbrev zr_149 : zh_T := (5, ⟨"FoolVotesModel", "alike", "(II)I"⟩, prog_7_method_76_code, 7, (some .int), false, 3, 1, 21)
abbrev zr_150 : zh_T := (5, ⟨"FoolVotesModel", "askNow", "()I"⟩, prog_7_method_77_code, 4, (some .int), false, 1, 7, 168)
abbrev zr_151 : zh_T := (5, ⟨"FoolVotesModel", "ask", "()I"⟩, prog_7_method_78_code, 1, (some .int), false, 1, 8, 191)
abbrev zr_152 : zh_T := (5, ⟨"FoolVotesModel", "part", "(JJI)J"⟩, prog_7_method_10_code, 11, (some .long), true, 3, 0, 0)
abbrev zr_153 : zh_T := (5, ⟨"FoolVotesModel", "chanceOf", "(III)J"⟩, prog_7_method_79_code, 10, (some .long), false, 4, 5, 121)
abbrev zr_154 : zh_T := (5, ⟨"FoolVotesModel", "no", "(I)J"⟩, prog_7_method_4_code, 1, (some .long), true, 1, 0, 0)
abbrev zr_155 : zh_T := (5, ⟨"FoolVotesModel", "chance", "(III)J"⟩, prog_7_method_80_code, 4, (some .long), false, 4, 6, 150)
abbrev zr_156 : zh_T := (5, ⟨"FoolVotesModel", "lot", "(I)I"⟩, prog_7_method_81_code, 2, (some .int), false, 2, 0, 0)
abbrev zr_157 : zh_T := (5, ⟨"FoolVotesModel", "agesOf", "(III)I"⟩, prog_7_method_82_code, 5, (some .int), false, 4, 5, 121)
abbrev zr_158 : zh_T := (5, ⟨"FoolVotesModel", "ages", "(III)I"⟩, prog_7_method_83_code, 4, (some .int), false, 4, 6, 145)
abbrev zr_159 : zh_T := (5, ⟨"FoolVotesModel", "write", "(I)I"⟩, prog_7_method_84_code, 4, (some .int), false, 2, 6, 142)
abbrev zr_160 : zh_T := (5, ⟨"FoolVotesModel", "count", "(I)I"⟩, prog_7_method_85_code, 2, (some .int), false, 2, 6, 142)
abbrev zr_161 : zh_T := (5, ⟨"FoolVotesModel", "tellsMeasure", "(JI)J"⟩, prog_7_method_86_code, 7, (some .long), false, 3, 6, 150)
abbrev zr_162 : zh_T := (5, ⟨"FoolVotesModel", "tellsVoter", "(JI)J"⟩, prog_7_method_87_code, 7, (some .long), false, 3, 7, 170)
abbrev zr_163 : zh_T := (5, ⟨"FoolVotesModel", "digest", "()J"⟩, prog_7_method_88_code, 4, (some .long), false, 1, 8, 196)
def zh_L : List zh_T := [zr_0, zr_1, zr_2, zr_3, zr_4, zr_5, zr_6, zr_7, zr_8, zr_9, zr_10, zr_11, zr_12, zr_13, zr_14, zr_15, zr_16, zr_17, zr_18, zr_19, zr_20, zr_21, zr_22, zr_23, zr_24, zr_25, zr_26, zr_27, zr_28, zr_29, zr_30, zr_31, zr_32, zr_33, zr_34, zr_35, zr_36, zr_37, zr_38, zr_39, zr_40, zr_41, zr_42, zr_43, zr_44, zr_45, zr_46, zr_47, zr_48, zr_49, zr_50, zr_51, zr_52, zr_53, zr_54, zr_55, zr_56, zr_57, zr_58, zr_59, zr_60, zr_61, zr_62, zr_63, zr_64, zr_65, zr_66, zr_67, zr_68, zr_69, zr_70, zr_71, zr_72, zr_73, zr_74, zr_75, zr_76, zr_77, zr_78, zr_79, zr_80, zr_81, zr_82, zr_83, zr_84, zr_85, zr_86, zr_87, zr_88, zr_89, zr_90, zr_91, zr_92, zr_93, zr_94, zr_95, zr_96, zr_97, zr_98, zr_99, zr_100, zr_101, zr_102, zr_103, zr_104, zr_105, zr_106, zr_107, zr_108, zr_109, zr_110, zr_111, zr_112, zr_113, zr_114, zr_115, zr_116, zr_117, zr_118, zr_119, zr_120, zr_121, zr_122, zr_123, zr_124, zr_125, zr_126, zr_127, zr_128, zr_129, zr_130, zr_131, zr_132, zr_133, zr_134, zr_135, zr_136, zr_137, zr_138, zr_139, zr_140, zr_141, zr_142, zr_143, zr_144, zr_145, zr_146, zr_147, zr_148, zr_149, zr_150, zr_151, zr_152, zr_153, zr_154, zr_155, zr_156, zr_157, zr_158, zr_159, zr_160, zr_161, zr_162, zr_163]
def zh (k : Nat) : zh_T := zh_L.getD k zr_0
abbrev hO (k : Nat) : Nat := (zh k).1
abbrev hY (k : Nat) : MethodName := (zh k).2.1
abbrev hB (k : Nat) : ByteArray := (zh k).2.2.1
abbrev hL (k : Nat) : Nat := (zh k).2.2.2.1
abbrev hR (k : Nat) : Option FieldType := (zh k).2.2.2.2.1
abbrev hS (k : Nat) : Bool := (zh k).2.2.2.2.2.1
abbrev hN (k : Nat) : Nat := (zh k).2.2.2.2.2.2.1
abbrev hF (k : Nat) : Nat := (zh k).2.2.2.2.2.2.2.1
abbrev hW (k : Nat) : Nat := (zh k).2.2.2.2.2.2.2.2
/-- what the tables say of a method -/
def zh_ok (r : zh_T) : Prop := Cond.code r.2.1 r.2.2.1 r.2.2.2.1 r.2.2.2.2.1 ∈ zt_G ∧ Cond.initialized r.2.1.cls ∈ zt_G ∧ (if r.2.2.2.2.2.1 = true then Cond.static r.2.1 ∈ zt_G else Cond.instanceMethod r.2.1 ∈ zt_G ∧ Cond.selects r.2.1.cls r.2.1 r.2.1 ∈ zt_G) ∧ (plainName r.2.1.cls = true ∧ r.2.1.cls = zn_c r.1 ∧ r.2.1.cls ≠ "java/lang/invoke/MethodHandle" ∧ r.2.1.cls ≠ "java/lang/invoke/VarHandle" ∧ (parseMethodDescriptor r.2.1.desc).map (fun d => d.parameters.length) = some (r.2.2.2.2.2.2.1 - (if r.2.2.2.2.2.1 = true then 0 else 1)))
theorem zr_ok0 : zh_ok zr_0 := ⟨zt_in 236 (by decide +kernel) rfl, zt_in 1 (by decide +kernel) rfl, (by rw [if_pos rfl]; exact zt_in 235 (by decide +kernel) rfl), by decide +kernel⟩
theorem zr_ok1 : zh_ok zr_1 := ⟨zt_in 240 (by decide +kernel) rfl, zt_in 1 (by decide +kernel) rfl, (by rw [if_neg (by decide)]; exact ⟨zt_in 239 (by decide +kernel) rfl, zt_sel (q := (⟨"FoolVotes", "textOf", "(I)LFoolVotes$Text;"⟩, 14)) (List.mem_of_getElem? (i := 0) (by decide +kernel))⟩), by decide +kernel⟩
theorem zr_ok2 : zh_ok zr_2 := ⟨zt_in 251 (by decide +kernel) rfl, zt_in 1 (by decide +kernel) rfl, (by rw [if_pos rfl]; exact zt_in 250 (by decide +kernel) rfl), by decide +kernel⟩
theorem zr_ok3 : zh_ok zr_3 := ⟨zt_in 254 (by decide +kernel) rfl, zt_in 1 (by decide +kernel) rfl, (by rw [if_pos rfl]; exact zt_in 253 (by decide +kernel) rfl), by decide +kernel⟩
theorem zr_ok4 : zh_ok zr_4 := ⟨zt_in 248 (by decide +kernel) rfl, zt_in 1 (by decide +kernel) rfl, (by rw [if_neg (by decide)]; exact ⟨zt_in 246 (by decide +kernel) rfl, zt_in 247 (by decide +kernel) rfl⟩), by decide +kernel⟩
theorem zr_ok5 : zh_ok zr_5 := ⟨zt_in 258 (by decide +kernel) rfl, zt_in 3 (by decide +kernel) rfl, (by rw [if_neg (by decide)]; exact ⟨zt_in 256 (by decide +kernel) rfl, zt_in 257 (by decide +kernel) rfl⟩), by decide +kernel⟩
theorem zr_ok6 : zh_ok zr_6 := ⟨zt_in 262 (by decide +kernel) rfl, zt_in 3 (by decide +kernel) rfl, (by rw [if_neg (by decide)]; exact ⟨zt_in 260 (by decide +kernel) rfl, zt_in 261 (by decide +kernel) rfl⟩), by decide +kernel⟩
theorem zr_ok7 : zh_ok zr_7 := ⟨zt_in 273 (by decide +kernel) rfl, zt_in 1 (by decide +kernel) rfl, (by rw [if_pos rfl]; exact zt_in 272 (by decide +kernel) rfl), by decide +kernel⟩
theorem zr_ok8 : zh_ok zr_8 := ⟨zt_in 270 (by decide +kernel) rfl, zt_in 4 (by decide +kernel) rfl, (by rw [if_neg (by decide)]; exact ⟨zt_in 269 (by decide +kernel) rfl, zt_sel (q := (⟨"FoolVotes$Votes", "lookAtYear", "(LFoolVotes$Canton;II)V"⟩, 13)) (List.mem_of_getElem? (i := 2) (by decide +kernel))⟩), by decide +kernel⟩
theorem zr_ok9 : zh_ok zr_9 := ⟨zt_in 280 (by decide +kernel) rfl, zt_in 4 (by decide +kernel) rfl, (by rw [if_pos rfl]; exact zt_in 279 (by decide +kernel) rfl), by decide +kernel⟩
theorem zr_ok10 : zh_ok zr_10 := ⟨zt_in 277 (by decide +kernel) rfl, zt_in 4 (by decide +kernel) rfl, (by rw [if_neg (by decide)]; exact ⟨zt_in 276 (by decide +kernel) rfl, zt_sel (q := (⟨"FoolVotes$Votes", "speak", "(LFoolVotes$Canton;II)V"⟩, 13)) (List.mem_of_getElem? (i := 3) (by decide +kernel))⟩), by decide +kernel⟩
theorem zr_ok11 : zh_ok zr_11 := ⟨zt_in 286 (by decide +kernel) rfl, zt_in 4 (by decide +kernel) rfl, (by rw [if_neg (by decide)]; exact ⟨zt_in 285 (by decide +kernel) rfl, zt_sel (q := (⟨"FoolVotes$Votes", "decide", "(III)V"⟩, 13)) (List.mem_of_getElem? (i := 4) (by decide +kernel))⟩), by decide +kernel⟩
theorem zr_ok12 : zh_ok zr_12 := ⟨zt_in 290 (by decide +kernel) rfl, zt_in 4 (by decide +kernel) rfl, (by rw [if_neg (by decide)]; exact ⟨zt_in 289 (by decide +kernel) rfl, zt_sel (q := (⟨"FoolVotes$Votes", "remember", "(LFoolVotes$Canton;I)V"⟩, 13)) (List.mem_of_getElem? (i := 5) (by decide +kernel))⟩), by decide +kernel⟩
theorem zr_ok13 : zh_ok zr_13 := ⟨zt_in 266 (by decide +kernel) rfl, zt_in 4 (by decide +kernel) rfl, (by rw [if_neg (by decide)]; exact ⟨zt_in 264 (by decide +kernel) rfl, zt_in 265 (by decide +kernel) rfl⟩), by decide +kernel⟩
theorem zr_ok14 : zh_ok zr_14 := ⟨zt_in 244 (by decide +kernel) rfl, zt_in 1 (by decide +kernel) rfl, (by rw [if_neg (by decide)]; exact ⟨zt_in 243 (by decide +kernel) rfl, zt_sel (q := (⟨"FoolVotes", "retell", "()V"⟩, 14)) (List.mem_of_getElem? (i := 1) (by decide +kernel))⟩), by decide +kernel⟩
theorem zr_ok15 : zh_ok zr_15 := ⟨zt_in 233 (by decide +kernel) rfl, zt_in 1 (by decide +kernel) rfl, (by rw [if_neg (by decide)]; exact ⟨zt_in 231 (by decide +kernel) rfl, zt_in 232 (by decide +kernel) rfl⟩), by decide +kernel⟩
theorem zr_ok16 : zh_ok zr_16 := ⟨zt_in 294 (by decide +kernel) rfl, zt_in 1 (by decide +kernel) rfl, (by rw [if_neg (by decide)]; exact ⟨zt_in 292 (by decide +kernel) rfl, zt_in 293 (by decide +kernel) rfl⟩), by decide +kernel⟩
theorem zr_ok17 : zh_ok zr_17 := ⟨zt_in 298 (by decide +kernel) rfl, zt_in 1 (by decide +kernel) rfl, (by rw [if_neg (by decide)]; exact ⟨zt_in 296 (by decide +kernel) rfl, zt_in 297 (by decide +kernel) rfl⟩), by decide +kernel⟩
theorem zr_ok18 : zh_ok zr_18 := ⟨zt_in 303 (by decide +kernel) rfl, zt_in 1 (by decide +kernel) rfl, (by rw [if_neg (by decide)]; exact ⟨zt_in 301 (by decide +kernel) rfl, zt_in 302 (by decide +kernel) rfl⟩), by decide +kernel⟩
theorem zr_ok19 : zh_ok zr_19 := ⟨zt_in 307 (by decide +kernel) rfl, zt_in 1 (by decide +kernel) rfl, (by rw [if_neg (by decide)]; exact ⟨zt_in 305 (by decide +kernel) rfl, zt_in 306 (by decide +kernel) rfl⟩), by decide +kernel⟩
theorem zr_ok20 : zh_ok zr_20 := ⟨zt_in 311 (by decide +kernel) rfl, zt_in 1 (by decide +kernel) rfl, (by rw [if_neg (by decide)]; exact ⟨zt_in 309 (by decide +kernel) rfl, zt_in 310 (by decide +kernel) rfl⟩), by decide +kernel⟩
theorem zr_ok21 : zh_ok zr_21 := ⟨zt_in 319 (by decide +kernel) rfl, zt_in 3 (by decide +kernel) rfl, (by rw [if_neg (by decide)]; exact ⟨zt_in 317 (by decide +kernel) rfl, zt_in 318 (by decide +kernel) rfl⟩), by decide +kernel⟩
theorem zr_ok22 : zh_ok zr_22 := ⟨zt_in 315 (by decide +kernel) rfl, zt_in 1 (by decide +kernel) rfl, (by rw [if_neg (by decide)]; exact ⟨zt_in 313 (by decide +kernel) rfl, zt_in 314 (by decide +kernel) rfl⟩), by decide +kernel⟩
theorem zr_ok23 : zh_ok zr_23 := ⟨zt_in 323 (by decide +kernel) rfl, zt_in 1 (by decide +kernel) rfl, (by rw [if_neg (by decide)]; exact ⟨zt_in 321 (by decide +kernel) rfl, zt_in 322 (by decide +kernel) rfl⟩), by decide +kernel⟩
theorem zr_ok24 : zh_ok zr_24 := ⟨zt_in 331 (by decide +kernel) rfl, zt_in 5 (by decide +kernel) rfl, (by rw [if_neg (by decide)]; exact ⟨zt_in 329 (by decide +kernel) rfl, zt_in 330 (by decide +kernel) rfl⟩), by decide +kernel⟩
theorem zr_ok25 : zh_ok zr_25 := ⟨zt_in 335 (by decide +kernel) rfl, zt_in 1 (by decide +kernel) rfl, (by rw [if_neg (by decide)]; exact ⟨zt_in 334 (by decide +kernel) rfl, zt_sel (q := (⟨"FoolVotes", "found", "(I)I"⟩, 14)) (List.mem_of_getElem? (i := 6) (by decide +kernel))⟩), by decide +kernel⟩
theorem zr_ok26 : zh_ok zr_26 := ⟨zt_in 339 (by decide +kernel) rfl, zt_in 5 (by decide +kernel) rfl, (by rw [if_neg (by decide)]; exact ⟨zt_in 337 (by decide +kernel) rfl, zt_in 338 (by decide +kernel) rfl⟩), by decide +kernel⟩
theorem zr_ok27 : zh_ok zr_27 := ⟨zt_in 327 (by decide +kernel) rfl, zt_in 1 (by decide +kernel) rfl, (by rw [if_neg (by decide)]; exact ⟨zt_in 325 (by decide +kernel) rfl, zt_in 326 (by decide +kernel) rfl⟩), by decide +kernel⟩
theorem zr_ok28 : zh_ok zr_28 := ⟨zt_in 344 (by decide +kernel) rfl, zt_in 1 (by decide +kernel) rfl, (by rw [if_neg (by decide)]; exact ⟨zt_in 342 (by decide +kernel) rfl, zt_in 343 (by decide +kernel) rfl⟩), by decide +kernel⟩
theorem zr_ok29 : zh_ok zr_29 := ⟨zt_in 348 (by decide +kernel) rfl, zt_in 1 (by decide +kernel) rfl, (by rw [if_neg (by decide)]; exact ⟨zt_in 346 (by decide +kernel) rfl, zt_in 347 (by decide +kernel) rfl⟩), by decide +kernel⟩
theorem zr_ok30 : zh_ok zr_30 := ⟨zt_in 353 (by decide +kernel) rfl, zt_in 1 (by decide +kernel) rfl, (by rw [if_neg (by decide)]; exact ⟨zt_in 351 (by decide +kernel) rfl, zt_in 352 (by decide +kernel) rfl⟩), by decide +kernel⟩
theorem zr_ok31 : zh_ok zr_31 := ⟨zt_in 360 (by decide +kernel) rfl, zt_in 7 (by decide +kernel) rfl, (by rw [if_pos rfl]; exact zt_in 359 (by decide +kernel) rfl), by decide +kernel⟩
theorem zr_ok32 : zh_ok zr_32 := ⟨zt_in 357 (by decide +kernel) rfl, zt_in 1 (by decide +kernel) rfl, (by rw [if_neg (by decide)]; exact ⟨zt_in 355 (by decide +kernel) rfl, zt_in 356 (by decide +kernel) rfl⟩), by decide +kernel⟩
theorem zr_ok33 : zh_ok zr_33 := ⟨zt_in 367 (by decide +kernel) rfl, zt_in 1 (by decide +kernel) rfl, (by rw [if_neg (by decide)]; exact ⟨zt_in 365 (by decide +kernel) rfl, zt_in 366 (by decide +kernel) rfl⟩), by decide +kernel⟩
theorem zr_ok34 : zh_ok zr_34 := ⟨zt_in 371 (by decide +kernel) rfl, zt_in 1 (by decide +kernel) rfl, (by rw [if_neg (by decide)]; exact ⟨zt_in 369 (by decide +kernel) rfl, zt_in 370 (by decide +kernel) rfl⟩), by decide +kernel⟩
theorem zr_ok35 : zh_ok zr_35 := ⟨zt_in 375 (by decide +kernel) rfl, zt_in 1 (by decide +kernel) rfl, (by rw [if_neg (by decide)]; exact ⟨zt_in 373 (by decide +kernel) rfl, zt_in 374 (by decide +kernel) rfl⟩), by decide +kernel⟩
theorem zr_ok36 : zh_ok zr_36 := ⟨zt_in 383 (by decide +kernel) rfl, zt_in 3 (by decide +kernel) rfl, (by rw [if_neg (by decide)]; exact ⟨zt_in 381 (by decide +kernel) rfl, zt_in 382 (by decide +kernel) rfl⟩), by decide +kernel⟩
theorem zr_ok37 : zh_ok zr_37 := ⟨zt_in 379 (by decide +kernel) rfl, zt_in 1 (by decide +kernel) rfl, (by rw [if_neg (by decide)]; exact ⟨zt_in 377 (by decide +kernel) rfl, zt_in 378 (by decide +kernel) rfl⟩), by decide +kernel⟩
theorem zr_ok38 : zh_ok zr_38 := ⟨zt_in 394 (by decide +kernel) rfl, zt_in 3 (by decide +kernel) rfl, (by rw [if_neg (by decide)]; exact ⟨zt_in 392 (by decide +kernel) rfl, zt_in 393 (by decide +kernel) rfl⟩), by decide +kernel⟩
theorem zr_ok39 : zh_ok zr_39 := ⟨zt_in 390 (by decide +kernel) rfl, zt_in 1 (by decide +kernel) rfl, (by rw [if_neg (by decide)]; exact ⟨zt_in 388 (by decide +kernel) rfl, zt_in 389 (by decide +kernel) rfl⟩), by decide +kernel⟩
theorem zr_ok40 : zh_ok zr_40 := ⟨zt_in 402 (by decide +kernel) rfl, zt_in 1 (by decide +kernel) rfl, (by rw [if_neg (by decide)]; exact ⟨zt_in 401 (by decide +kernel) rfl, zt_sel (q := (⟨"FoolVotes", "tryHearts", "()V"⟩, 14)) (List.mem_of_getElem? (i := 7) (by decide +kernel))⟩), by decide +kernel⟩
theorem zr_ok41 : zh_ok zr_41 := ⟨zt_in 398 (by decide +kernel) rfl, zt_in 1 (by decide +kernel) rfl, (by rw [if_neg (by decide)]; exact ⟨zt_in 396 (by decide +kernel) rfl, zt_in 397 (by decide +kernel) rfl⟩), by decide +kernel⟩
theorem zr_ok42 : zh_ok zr_42 := ⟨zt_in 410 (by decide +kernel) rfl, zt_in 3 (by decide +kernel) rfl, (by rw [if_neg (by decide)]; exact ⟨zt_in 408 (by decide +kernel) rfl, zt_in 409 (by decide +kernel) rfl⟩), by decide +kernel⟩
theorem zr_ok43 : zh_ok zr_43 := ⟨zt_in 421 (by decide +kernel) rfl, zt_in 9 (by decide +kernel) rfl, (by rw [if_pos rfl]; exact zt_in 420 (by decide +kernel) rfl), by decide +kernel⟩
theorem zr_ok44 : zh_ok zr_44 := ⟨zt_in 425 (by decide +kernel) rfl, zt_in 4 (by decide +kernel) rfl, (by rw [if_neg (by decide)]; exact ⟨zt_in 423 (by decide +kernel) rfl, zt_in 424 (by decide +kernel) rfl⟩), by decide +kernel⟩
theorem zr_ok45 : zh_ok zr_45 := ⟨zt_in 418 (by decide +kernel) rfl, zt_in 1 (by decide +kernel) rfl, (by rw [if_neg (by decide)]; exact ⟨zt_in 417 (by decide +kernel) rfl, zt_sel (q := (⟨"FoolVotes", "outcomeOf", "(I)I"⟩, 14)) (List.mem_of_getElem? (i := 9) (by decide +kernel))⟩), by decide +kernel⟩
theorem zr_ok46 : zh_ok zr_46 := ⟨zt_in 414 (by decide +kernel) rfl, zt_in 1 (by decide +kernel) rfl, (by rw [if_neg (by decide)]; exact ⟨zt_in 413 (by decide +kernel) rfl, zt_sel (q := (⟨"FoolVotes", "keepsCoats", "(I)Z"⟩, 14)) (List.mem_of_getElem? (i := 8) (by decide +kernel))⟩), by decide +kernel⟩
theorem zr_ok47 : zh_ok zr_47 := ⟨zt_in 428 (by decide +kernel) rfl, zt_in 1 (by decide +kernel) rfl, (by rw [if_pos rfl]; exact zt_in 427 (by decide +kernel) rfl), by decide +kernel⟩
theorem zr_ok48 : zh_ok zr_48 := ⟨zt_in 406 (by decide +kernel) rfl, zt_in 1 (by decide +kernel) rfl, (by rw [if_neg (by decide)]; exact ⟨zt_in 404 (by decide +kernel) rfl, zt_in 405 (by decide +kernel) rfl⟩), by decide +kernel⟩
theorem zr_ok49 : zh_ok zr_49 := ⟨zt_in 432 (by decide +kernel) rfl, zt_in 1 (by decide +kernel) rfl, (by rw [if_neg (by decide)]; exact ⟨zt_in 430 (by decide +kernel) rfl, zt_in 431 (by decide +kernel) rfl⟩), by decide +kernel⟩
theorem zr_ok50 : zh_ok zr_50 := ⟨zt_in 436 (by decide +kernel) rfl, zt_in 1 (by decide +kernel) rfl, (by rw [if_neg (by decide)]; exact ⟨zt_in 434 (by decide +kernel) rfl, zt_in 435 (by decide +kernel) rfl⟩), by decide +kernel⟩
theorem zr_ok51 : zh_ok zr_51 := ⟨zt_in 448 (by decide +kernel) rfl, zt_in 1 (by decide +kernel) rfl, (by rw [if_neg (by decide)]; exact ⟨zt_in 447 (by decide +kernel) rfl, zt_sel (q := (⟨"FoolVotes", "fitsSeen", "(I)Z"⟩, 14)) (List.mem_of_getElem? (i := 11) (by decide +kernel))⟩), by decide +kernel⟩
theorem zr_ok52 : zh_ok zr_52 := ⟨zt_in 444 (by decide +kernel) rfl, zt_in 1 (by decide +kernel) rfl, (by rw [if_neg (by decide)]; exact ⟨zt_in 443 (by decide +kernel) rfl, zt_sel (q := (⟨"FoolVotes", "neverBits", "()I"⟩, 14)) (List.mem_of_getElem? (i := 10) (by decide +kernel))⟩), by decide +kernel⟩
theorem zr_ok53 : zh_ok zr_53 := ⟨zt_in 452 (by decide +kernel) rfl, zt_in 1 (by decide +kernel) rfl, (by rw [if_neg (by decide)]; exact ⟨zt_in 451 (by decide +kernel) rfl, zt_sel (q := (⟨"FoolVotes", "heartBits", "()I"⟩, 14)) (List.mem_of_getElem? (i := 12) (by decide +kernel))⟩), by decide +kernel⟩
theorem zr_ok54 : zh_ok zr_54 := ⟨zt_in 440 (by decide +kernel) rfl, zt_in 1 (by decide +kernel) rfl, (by rw [if_neg (by decide)]; exact ⟨zt_in 438 (by decide +kernel) rfl, zt_in 439 (by decide +kernel) rfl⟩), by decide +kernel⟩
theorem zr_ok55 : zh_ok zr_55 := ⟨zt_in 456 (by decide +kernel) rfl, zt_in 1 (by decide +kernel) rfl, (by rw [if_neg (by decide)]; exact ⟨zt_in 454 (by decide +kernel) rfl, zt_in 455 (by decide +kernel) rfl⟩), by decide +kernel⟩
theorem zr_ok56 : zh_ok zr_56 := ⟨zt_in 464 (by decide +kernel) rfl, zt_in 1 (by decide +kernel) rfl, (by rw [if_neg (by decide)]; exact ⟨zt_in 463 (by decide +kernel) rfl, zt_sel (q := (⟨"FoolVotes", "mostAlike", "(II)I"⟩, 14)) (List.mem_of_getElem? (i := 13) (by decide +kernel))⟩), by decide +kernel⟩
theorem zr_ok57 : zh_ok zr_57 := ⟨zt_in 460 (by decide +kernel) rfl, zt_in 1 (by decide +kernel) rfl, (by rw [if_neg (by decide)]; exact ⟨zt_in 458 (by decide +kernel) rfl, zt_in 459 (by decide +kernel) rfl⟩), by decide +kernel⟩
theorem zr_ok58 : zh_ok zr_58 := ⟨zt_in 476 (by decide +kernel) rfl, zt_in 1 (by decide +kernel) rfl, (by rw [if_neg (by decide)]; exact ⟨zt_in 475 (by decide +kernel) rfl, zt_sel (q := (⟨"FoolVotes", "weightOf", "(II)J"⟩, 14)) (List.mem_of_getElem? (i := 14) (by decide +kernel))⟩), by decide +kernel⟩
theorem zr_ok59 : zh_ok zr_59 := ⟨zt_in 480 (by decide +kernel) rfl, zt_in 1 (by decide +kernel) rfl, (by rw [if_neg (by decide)]; exact ⟨zt_in 479 (by decide +kernel) rfl, zt_sel (q := (⟨"FoolVotes", "lowestTerm", "(JI)J"⟩, 14)) (List.mem_of_getElem? (i := 15) (by decide +kernel))⟩), by decide +kernel⟩
theorem zr_ok60 : zh_ok zr_60 := ⟨zt_in 471 (by decide +kernel) rfl, zt_in 1 (by decide +kernel) rfl, (by rw [if_neg (by decide)]; exact ⟨zt_in 469 (by decide +kernel) rfl, zt_in 470 (by decide +kernel) rfl⟩), by decide +kernel⟩
theorem zr_ok61 : zh_ok zr_61 := ⟨zt_in 488 (by decide +kernel) rfl, zt_in 1 (by decide +kernel) rfl, (by rw [if_pos rfl]; exact zt_in 487 (by decide +kernel) rfl), by decide +kernel⟩
theorem zr_ok62 : zh_ok zr_62 := ⟨zt_in 485 (by decide +kernel) rfl, zt_in 1 (by decide +kernel) rfl, (by rw [if_neg (by decide)]; exact ⟨zt_in 483 (by decide +kernel) rfl, zt_in 484 (by decide +kernel) rfl⟩), by decide +kernel⟩
theorem zr_ok63 : zh_ok zr_63 := ⟨zt_in 497 (by decide +kernel) rfl, zt_in 5 (by decide +kernel) rfl, (by rw [if_neg (by decide)]; exact ⟨zt_in 495 (by decide +kernel) rfl, zt_in 496 (by decide +kernel) rfl⟩), by decide +kernel⟩
theorem zr_ok64 : zh_ok zr_64 := ⟨zt_in 493 (by decide +kernel) rfl, zt_in 1 (by decide +kernel) rfl, (by rw [if_neg (by decide)]; exact ⟨zt_in 491 (by decide +kernel) rfl, zt_in 492 (by decide +kernel) rfl⟩), by decide +kernel⟩
theorem zr_ok65 : zh_ok zr_65 := ⟨zt_in 501 (by decide +kernel) rfl, zt_in 1 (by decide +kernel) rfl, (by rw [if_neg (by decide)]; exact ⟨zt_in 499 (by decide +kernel) rfl, zt_in 500 (by decide +kernel) rfl⟩), by decide +kernel⟩
theorem zr_ok66 : zh_ok zr_66 := ⟨zt_in 509 (by decide +kernel) rfl, zt_in 1 (by decide +kernel) rfl, (by rw [if_neg (by decide)]; exact ⟨zt_in 508 (by decide +kernel) rfl, zt_sel (q := (⟨"FoolVotes", "refusalOfItem", "(III)I"⟩, 14)) (List.mem_of_getElem? (i := 16) (by decide +kernel))⟩), by decide +kernel⟩
theorem zr_ok67 : zh_ok zr_67 := ⟨zt_in 513 (by decide +kernel) rfl, zt_in 5 (by decide +kernel) rfl, (by rw [if_neg (by decide)]; exact ⟨zt_in 511 (by decide +kernel) rfl, zt_in 512 (by decide +kernel) rfl⟩), by decide +kernel⟩
theorem zr_ok68 : zh_ok zr_68 := ⟨zt_in 505 (by decide +kernel) rfl, zt_in 1 (by decide +kernel) rfl, (by rw [if_neg (by decide)]; exact ⟨zt_in 503 (by decide +kernel) rfl, zt_in 504 (by decide +kernel) rfl⟩), by decide +kernel⟩
theorem zr_ok69 : zh_ok zr_69 := ⟨zt_in 517 (by decide +kernel) rfl, zt_in 1 (by decide +kernel) rfl, (by rw [if_neg (by decide)]; exact ⟨zt_in 515 (by decide +kernel) rfl, zt_in 516 (by decide +kernel) rfl⟩), by decide +kernel⟩
theorem zr_ok70 : zh_ok zr_70 := ⟨zt_in 526 (by decide +kernel) rfl, zt_in 5 (by decide +kernel) rfl, (by rw [if_neg (by decide)]; exact ⟨zt_in 524 (by decide +kernel) rfl, zt_in 525 (by decide +kernel) rfl⟩), by decide +kernel⟩
theorem zr_ok71 : zh_ok zr_71 := ⟨zt_in 522 (by decide +kernel) rfl, zt_in 1 (by decide +kernel) rfl, (by rw [if_neg (by decide)]; exact ⟨zt_in 520 (by decide +kernel) rfl, zt_in 521 (by decide +kernel) rfl⟩), by decide +kernel⟩
theorem zr_ok72 : zh_ok zr_72 := ⟨zt_in 531 (by decide +kernel) rfl, zt_in 1 (by decide +kernel) rfl, (by rw [if_neg (by decide)]; exact ⟨zt_in 529 (by decide +kernel) rfl, zt_in 530 (by decide +kernel) rfl⟩), by decide +kernel⟩
theorem zr_ok73 : zh_ok zr_73 := ⟨zt_in 538 (by decide +kernel) rfl, zt_in 1 (by decide +kernel) rfl, (by rw [if_neg (by decide)]; exact ⟨zt_in 536 (by decide +kernel) rfl, zt_in 537 (by decide +kernel) rfl⟩), by decide +kernel⟩
theorem zr_ok74 : zh_ok zr_74 := ⟨zt_in 549 (by decide +kernel) rfl, zt_in 1 (by decide +kernel) rfl, (by rw [if_neg (by decide)]; exact ⟨zt_in 548 (by decide +kernel) rfl, zt_sel (q := (⟨"FoolVotes", "withMeasure", "(JI)J"⟩, 14)) (List.mem_of_getElem? (i := 17) (by decide +kernel))⟩), by decide +kernel⟩
theorem zr_ok75 : zh_ok zr_75 := ⟨zt_in 558 (by decide +kernel) rfl, zt_in 1 (by decide +kernel) rfl, (by rw [if_neg (by decide)]; exact ⟨zt_in 557 (by decide +kernel) rfl, zt_sel (q := (⟨"FoolVotes", "withVoter", "(JI)J"⟩, 14)) (List.mem_of_getElem? (i := 18) (by decide +kernel))⟩), by decide +kernel⟩
theorem zr_ok76 : zh_ok zr_76 := ⟨zt_in 569 (by decide +kernel) rfl, zt_in 1 (by decide +kernel) rfl, (by rw [if_neg (by decide)]; exact ⟨zt_in 568 (by decide +kernel) rfl, zt_sel (q := (⟨"FoolVotes", "withTrials", "(J)J"⟩, 14)) (List.mem_of_getElem? (i := 19) (by decide +kernel))⟩), by decide +kernel⟩
theorem zr_ok77 : zh_ok zr_77 := ⟨zt_in 542 (by decide +kernel) rfl, zt_in 1 (by decide +kernel) rfl, (by rw [if_neg (by decide)]; exact ⟨zt_in 540 (by decide +kernel) rfl, zt_in 541 (by decide +kernel) rfl⟩), by decide +kernel⟩
theorem zr_ok78 : zh_ok zr_78 := ⟨zt_in 687 (by decide +kernel) rfl, zt_in 6 (by decide +kernel) rfl, (by rw [if_pos rfl]; exact zt_in 686 (by decide +kernel) rfl), by decide +kernel⟩
theorem zr_ok79 : zh_ok zr_79 := ⟨zt_in 683 (by decide +kernel) rfl, zt_in 6 (by decide +kernel) rfl, (by rw [if_pos rfl]; exact zt_in 682 (by decide +kernel) rfl), by decide +kernel⟩
theorem zr_ok80 : zh_ok zr_80 := ⟨zt_in 692 (by decide +kernel) rfl, zt_in 6 (by decide +kernel) rfl, (by rw [if_neg (by decide)]; exact ⟨zt_in 691 (by decide +kernel) rfl, zt_sel (q := (⟨"FoolVotesModel", "finds", "(I)I"⟩, 31)) (List.mem_of_getElem? (i := 20) (by decide +kernel))⟩), by decide +kernel⟩
theorem zr_ok81 : zh_ok zr_81 := ⟨zt_in 680 (by decide +kernel) rfl, zt_in 6 (by decide +kernel) rfl, (by rw [if_neg (by decide)]; exact ⟨zt_in 678 (by decide +kernel) rfl, zt_in 679 (by decide +kernel) rfl⟩), by decide +kernel⟩
theorem zr_ok82 : zh_ok zr_82 := ⟨zt_in 696 (by decide +kernel) rfl, zt_in 6 (by decide +kernel) rfl, (by rw [if_neg (by decide)]; exact ⟨zt_in 694 (by decide +kernel) rfl, zt_in 695 (by decide +kernel) rfl⟩), by decide +kernel⟩
theorem zr_ok83 : zh_ok zr_83 := ⟨zt_in 704 (by decide +kernel) rfl, zt_in 6 (by decide +kernel) rfl, (by rw [if_neg (by decide)]; exact ⟨zt_in 703 (by decide +kernel) rfl, zt_sel (q := (⟨"FoolVotesModel", "lacks", "(III)I"⟩, 31)) (List.mem_of_getElem? (i := 21) (by decide +kernel))⟩), by decide +kernel⟩
theorem zr_ok84 : zh_ok zr_84 := ⟨zt_in 707 (by decide +kernel) rfl, zt_in 6 (by decide +kernel) rfl, (by rw [if_pos rfl]; exact zt_in 706 (by decide +kernel) rfl), by decide +kernel⟩
theorem zr_ok85 : zh_ok zr_85 := ⟨zt_in 700 (by decide +kernel) rfl, zt_in 6 (by decide +kernel) rfl, (by rw [if_neg (by decide)]; exact ⟨zt_in 698 (by decide +kernel) rfl, zt_in 699 (by decide +kernel) rfl⟩), by decide +kernel⟩
theorem zr_ok86 : zh_ok zr_86 := ⟨zt_in 711 (by decide +kernel) rfl, zt_in 6 (by decide +kernel) rfl, (by rw [if_neg (by decide)]; exact ⟨zt_in 709 (by decide +kernel) rfl, zt_in 710 (by decide +kernel) rfl⟩), by decide +kernel⟩
theorem zr_ok87 : zh_ok zr_87 := ⟨zt_in 716 (by decide +kernel) rfl, zt_in 6 (by decide +kernel) rfl, (by rw [if_neg (by decide)]; exact ⟨zt_in 714 (by decide +kernel) rfl, zt_in 715 (by decide +kernel) rfl⟩), by decide +kernel⟩
theorem zr_ok88 : zh_ok zr_88 := ⟨zt_in 723 (by decide +kernel) rfl, zt_in 6 (by decide +kernel) rfl, (by rw [if_pos rfl]; exact zt_in 722 (by decide +kernel) rfl), by decide +kernel⟩
theorem zr_ok89 : zh_ok zr_89 := ⟨zt_in 720 (by decide +kernel) rfl, zt_in 6 (by decide +kernel) rfl, (by rw [if_neg (by decide)]; exact ⟨zt_in 718 (by decide +kernel) rfl, zt_in 719 (by decide +kernel) rfl⟩), by decide +kernel⟩
theorem zr_ok90 : zh_ok zr_90 := ⟨zt_in 728 (by decide +kernel) rfl, zt_in 6 (by decide +kernel) rfl, (by rw [if_neg (by decide)]; exact ⟨zt_in 726 (by decide +kernel) rfl, zt_in 727 (by decide +kernel) rfl⟩), by decide +kernel⟩
theorem zr_ok91 : zh_ok zr_91 := ⟨zt_in 732 (by decide +kernel) rfl, zt_in 6 (by decide +kernel) rfl, (by rw [if_neg (by decide)]; exact ⟨zt_in 730 (by decide +kernel) rfl, zt_in 731 (by decide +kernel) rfl⟩), by decide +kernel⟩
theorem zr_ok92 : zh_ok zr_92 := ⟨zt_in 750 (by decide +kernel) rfl, zt_in 6 (by decide +kernel) rfl, (by rw [if_pos rfl]; exact zt_in 749 (by decide +kernel) rfl), by decide +kernel⟩
theorem zr_ok93 : zh_ok zr_93 := ⟨zt_in 747 (by decide +kernel) rfl, zt_in 6 (by decide +kernel) rfl, (by rw [if_pos rfl]; exact zt_in 746 (by decide +kernel) rfl), by decide +kernel⟩
theorem zr_ok94 : zh_ok zr_94 := ⟨zt_in 744 (by decide +kernel) rfl, zt_in 6 (by decide +kernel) rfl, (by rw [if_neg (by decide)]; exact ⟨zt_in 743 (by decide +kernel) rfl, zt_sel (q := (⟨"FoolVotesModel", "readsVoters", "()I"⟩, 31)) (List.mem_of_getElem? (i := 23) (by decide +kernel))⟩), by decide +kernel⟩
theorem zr_ok95 : zh_ok zr_95 := ⟨zt_in 758 (by decide +kernel) rfl, zt_in 6 (by decide +kernel) rfl, (by rw [if_pos rfl]; exact zt_in 757 (by decide +kernel) rfl), by decide +kernel⟩
theorem zr_ok96 : zh_ok zr_96 := ⟨zt_in 755 (by decide +kernel) rfl, zt_in 6 (by decide +kernel) rfl, (by rw [if_neg (by decide)]; exact ⟨zt_in 754 (by decide +kernel) rfl, zt_sel (q := (⟨"FoolVotesModel", "readsMeasures", "()I"⟩, 31)) (List.mem_of_getElem? (i := 24) (by decide +kernel))⟩), by decide +kernel⟩
theorem zr_ok97 : zh_ok zr_97 := ⟨zt_in 740 (by decide +kernel) rfl, zt_in 6 (by decide +kernel) rfl, (by rw [if_neg (by decide)]; exact ⟨zt_in 739 (by decide +kernel) rfl, zt_sel (q := (⟨"FoolVotesModel", "readsText", "(I)I"⟩, 31)) (List.mem_of_getElem? (i := 22) (by decide +kernel))⟩), by decide +kernel⟩
theorem zr_ok98 : zh_ok zr_98 := ⟨zt_in 736 (by decide +kernel) rfl, zt_in 6 (by decide +kernel) rfl, (by rw [if_neg (by decide)]; exact ⟨zt_in 734 (by decide +kernel) rfl, zt_in 735 (by decide +kernel) rfl⟩), by decide +kernel⟩
theorem zr_ok99 : zh_ok zr_99 := ⟨zt_in 768 (by decide +kernel) rfl, zt_in 6 (by decide +kernel) rfl, (by rw [if_neg (by decide)]; exact ⟨zt_in 767 (by decide +kernel) rfl, zt_sel (q := (⟨"FoolVotesModel", "isVoter", "(I)Z"⟩, 31)) (List.mem_of_getElem? (i := 25) (by decide +kernel))⟩), by decide +kernel⟩
theorem zr_ok100 : zh_ok zr_100 := ⟨zt_in 764 (by decide +kernel) rfl, zt_in 6 (by decide +kernel) rfl, (by rw [if_neg (by decide)]; exact ⟨zt_in 762 (by decide +kernel) rfl, zt_in 763 (by decide +kernel) rfl⟩), by decide +kernel⟩
theorem zr_ok101 : zh_ok zr_101 := ⟨zt_in 776 (by decide +kernel) rfl, zt_in 6 (by decide +kernel) rfl, (by rw [if_neg (by decide)]; exact ⟨zt_in 775 (by decide +kernel) rfl, zt_sel (q := (⟨"FoolVotesModel", "isMeasure", "(I)Z"⟩, 31)) (List.mem_of_getElem? (i := 26) (by decide +kernel))⟩), by decide +kernel⟩
theorem zr_ok102 : zh_ok zr_102 := ⟨zt_in 772 (by decide +kernel) rfl, zt_in 6 (by decide +kernel) rfl, (by rw [if_neg (by decide)]; exact ⟨zt_in 770 (by decide +kernel) rfl, zt_in 771 (by decide +kernel) rfl⟩), by decide +kernel⟩
theorem zr_ok103 : zh_ok zr_103 := ⟨zt_in 780 (by decide +kernel) rfl, zt_in 6 (by decide +kernel) rfl, (by rw [if_neg (by decide)]; exact ⟨zt_in 778 (by decide +kernel) rfl, zt_in 779 (by decide +kernel) rfl⟩), by decide +kernel⟩
theorem zr_ok104 : zh_ok zr_104 := ⟨zt_in 786 (by decide +kernel) rfl, zt_in 6 (by decide +kernel) rfl, (by rw [if_neg (by decide)]; exact ⟨zt_in 784 (by decide +kernel) rfl, zt_in 785 (by decide +kernel) rfl⟩), by decide +kernel⟩
theorem zr_ok105 : zh_ok zr_105 := ⟨zt_in 791 (by decide +kernel) rfl, zt_in 6 (by decide +kernel) rfl, (by rw [if_neg (by decide)]; exact ⟨zt_in 789 (by decide +kernel) rfl, zt_in 790 (by decide +kernel) rfl⟩), by decide +kernel⟩
theorem zr_ok106 : zh_ok zr_106 := ⟨zt_in 795 (by decide +kernel) rfl, zt_in 6 (by decide +kernel) rfl, (by rw [if_neg (by decide)]; exact ⟨zt_in 793 (by decide +kernel) rfl, zt_in 794 (by decide +kernel) rfl⟩), by decide +kernel⟩
theorem zr_ok107 : zh_ok zr_107 := ⟨zt_in 819 (by decide +kernel) rfl, zt_in 6 (by decide +kernel) rfl, (by rw [if_pos rfl]; exact zt_in 818 (by decide +kernel) rfl), by decide +kernel⟩
theorem zr_ok108 : zh_ok zr_108 := ⟨zt_in 816 (by decide +kernel) rfl, zt_in 6 (by decide +kernel) rfl, (by rw [if_neg (by decide)]; exact ⟨zt_in 815 (by decide +kernel) rfl, zt_sel (q := (⟨"FoolVotesModel", "isTold", "(III)Z"⟩, 31)) (List.mem_of_getElem? (i := 30) (by decide +kernel))⟩), by decide +kernel⟩
theorem zr_ok109 : zh_ok zr_109 := ⟨zt_in 829 (by decide +kernel) rfl, zt_in 6 (by decide +kernel) rfl, (by rw [if_pos rfl]; exact zt_in 828 (by decide +kernel) rfl), by decide +kernel⟩
theorem zr_ok110 : zh_ok zr_110 := ⟨zt_in 826 (by decide +kernel) rfl, zt_in 6 (by decide +kernel) rfl, (by rw [if_pos rfl]; exact zt_in 825 (by decide +kernel) rfl), by decide +kernel⟩
theorem zr_ok111 : zh_ok zr_111 := ⟨zt_in 823 (by decide +kernel) rfl, zt_in 6 (by decide +kernel) rfl, (by rw [if_neg (by decide)]; exact ⟨zt_in 822 (by decide +kernel) rfl, zt_sel (q := (⟨"FoolVotesModel", "says", "(IIIII)I"⟩, 31)) (List.mem_of_getElem? (i := 31) (by decide +kernel))⟩), by decide +kernel⟩
theorem zr_ok112 : zh_ok zr_112 := ⟨zt_in 833 (by decide +kernel) rfl, zt_in 6 (by decide +kernel) rfl, (by rw [if_neg (by decide)]; exact ⟨zt_in 832 (by decide +kernel) rfl, zt_sel (q := (⟨"FoolVotesModel", "comesOut", "(I)V"⟩, 31)) (List.mem_of_getElem? (i := 32) (by decide +kernel))⟩), by decide +kernel⟩
theorem zr_ok113 : zh_ok zr_113 := ⟨zt_in 812 (by decide +kernel) rfl, zt_in 6 (by decide +kernel) rfl, (by rw [if_neg (by decide)]; exact ⟨zt_in 811 (by decide +kernel) rfl, zt_sel (q := (⟨"FoolVotesModel", "votes", "(I)V"⟩, 31)) (List.mem_of_getElem? (i := 29) (by decide +kernel))⟩), by decide +kernel⟩
theorem zr_ok114 : zh_ok zr_114 := ⟨zt_in 808 (by decide +kernel) rfl, zt_in 6 (by decide +kernel) rfl, (by rw [if_neg (by decide)]; exact ⟨zt_in 807 (by decide +kernel) rfl, zt_sel (q := (⟨"FoolVotesModel", "lives", "()V"⟩, 31)) (List.mem_of_getElem? (i := 28) (by decide +kernel))⟩), by decide +kernel⟩
theorem zr_ok115 : zh_ok zr_115 := ⟨zt_in 804 (by decide +kernel) rfl, zt_in 6 (by decide +kernel) rfl, (by rw [if_neg (by decide)]; exact ⟨zt_in 803 (by decide +kernel) rfl, zt_sel (q := (⟨"FoolVotesModel", "find", "()V"⟩, 31)) (List.mem_of_getElem? (i := 27) (by decide +kernel))⟩), by decide +kernel⟩
theorem zr_ok116 : zh_ok zr_116 := ⟨zt_in 800 (by decide +kernel) rfl, zt_in 6 (by decide +kernel) rfl, (by rw [if_neg (by decide)]; exact ⟨zt_in 798 (by decide +kernel) rfl, zt_in 799 (by decide +kernel) rfl⟩), by decide +kernel⟩
theorem zr_ok117 : zh_ok zr_117 := ⟨zt_in 842 (by decide +kernel) rfl, zt_in 6 (by decide +kernel) rfl, (by rw [if_neg (by decide)]; exact ⟨zt_in 841 (by decide +kernel) rfl, zt_sel (q := (⟨"FoolVotesModel", "tallyBy", "(II)I"⟩, 31)) (List.mem_of_getElem? (i := 33) (by decide +kernel))⟩), by decide +kernel⟩
theorem zr_ok118 : zh_ok zr_118 := ⟨zt_in 837 (by decide +kernel) rfl, zt_in 6 (by decide +kernel) rfl, (by rw [if_neg (by decide)]; exact ⟨zt_in 835 (by decide +kernel) rfl, zt_in 836 (by decide +kernel) rfl⟩), by decide +kernel⟩
theorem zr_ok119 : zh_ok zr_119 := ⟨zt_in 850 (by decide +kernel) rfl, zt_in 6 (by decide +kernel) rfl, (by rw [if_neg (by decide)]; exact ⟨zt_in 849 (by decide +kernel) rfl, zt_sel (q := (⟨"FoolVotesModel", "atBy", "(II)I"⟩, 31)) (List.mem_of_getElem? (i := 34) (by decide +kernel))⟩), by decide +kernel⟩
theorem zr_ok120 : zh_ok zr_120 := ⟨zt_in 846 (by decide +kernel) rfl, zt_in 6 (by decide +kernel) rfl, (by rw [if_neg (by decide)]; exact ⟨zt_in 844 (by decide +kernel) rfl, zt_in 845 (by decide +kernel) rfl⟩), by decide +kernel⟩
theorem zr_ok121 : zh_ok zr_121 := ⟨zt_in 858 (by decide +kernel) rfl, zt_in 6 (by decide +kernel) rfl, (by rw [if_neg (by decide)]; exact ⟨zt_in 857 (by decide +kernel) rfl, zt_sel (q := (⟨"FoolVotesModel", "sumBy", "(I)I"⟩, 31)) (List.mem_of_getElem? (i := 35) (by decide +kernel))⟩), by decide +kernel⟩
theorem zr_ok122 : zh_ok zr_122 := ⟨zt_in 854 (by decide +kernel) rfl, zt_in 6 (by decide +kernel) rfl, (by rw [if_neg (by decide)]; exact ⟨zt_in 852 (by decide +kernel) rfl, zt_in 853 (by decide +kernel) rfl⟩), by decide +kernel⟩
theorem zr_ok123 : zh_ok zr_123 := ⟨zt_in 862 (by decide +kernel) rfl, zt_in 6 (by decide +kernel) rfl, (by rw [if_neg (by decide)]; exact ⟨zt_in 860 (by decide +kernel) rfl, zt_in 861 (by decide +kernel) rfl⟩), by decide +kernel⟩
theorem zr_ok124 : zh_ok zr_124 := ⟨zt_in 870 (by decide +kernel) rfl, zt_in 6 (by decide +kernel) rfl, (by rw [if_neg (by decide)]; exact ⟨zt_in 869 (by decide +kernel) rfl, zt_sel (q := (⟨"FoolVotesModel", "loyalNow", "()I"⟩, 31)) (List.mem_of_getElem? (i := 36) (by decide +kernel))⟩), by decide +kernel⟩
theorem zr_ok125 : zh_ok zr_125 := ⟨zt_in 866 (by decide +kernel) rfl, zt_in 6 (by decide +kernel) rfl, (by rw [if_neg (by decide)]; exact ⟨zt_in 864 (by decide +kernel) rfl, zt_in 865 (by decide +kernel) rfl⟩), by decide +kernel⟩
theorem zr_ok126 : zh_ok zr_126 := ⟨zt_in 881 (by decide +kernel) rfl, zt_in 6 (by decide +kernel) rfl, (by rw [if_pos rfl]; exact zt_in 880 (by decide +kernel) rfl), by decide +kernel⟩
theorem zr_ok127 : zh_ok zr_127 := ⟨zt_in 878 (by decide +kernel) rfl, zt_in 6 (by decide +kernel) rfl, (by rw [if_neg (by decide)]; exact ⟨zt_in 877 (by decide +kernel) rfl, zt_sel (q := (⟨"FoolVotesModel", "bitterNow", "()I"⟩, 31)) (List.mem_of_getElem? (i := 37) (by decide +kernel))⟩), by decide +kernel⟩
theorem zr_ok128 : zh_ok zr_128 := ⟨zt_in 874 (by decide +kernel) rfl, zt_in 6 (by decide +kernel) rfl, (by rw [if_neg (by decide)]; exact ⟨zt_in 872 (by decide +kernel) rfl, zt_in 873 (by decide +kernel) rfl⟩), by decide +kernel⟩
theorem zr_ok129 : zh_ok zr_129 := ⟨zt_in 892 (by decide +kernel) rfl, zt_in 6 (by decide +kernel) rfl, (by rw [if_pos rfl]; exact zt_in 891 (by decide +kernel) rfl), by decide +kernel⟩
theorem zr_ok130 : zh_ok zr_130 := ⟨zt_in 889 (by decide +kernel) rfl, zt_in 6 (by decide +kernel) rfl, (by rw [if_neg (by decide)]; exact ⟨zt_in 888 (by decide +kernel) rfl, zt_sel (q := (⟨"FoolVotesModel", "putOf", "(II)I"⟩, 31)) (List.mem_of_getElem? (i := 38) (by decide +kernel))⟩), by decide +kernel⟩
theorem zr_ok131 : zh_ok zr_131 := ⟨zt_in 885 (by decide +kernel) rfl, zt_in 6 (by decide +kernel) rfl, (by rw [if_neg (by decide)]; exact ⟨zt_in 883 (by decide +kernel) rfl, zt_in 884 (by decide +kernel) rfl⟩), by decide +kernel⟩
theorem zr_ok132 : zh_ok zr_132 := ⟨zt_in 900 (by decide +kernel) rfl, zt_in 6 (by decide +kernel) rfl, (by rw [if_neg (by decide)]; exact ⟨zt_in 899 (by decide +kernel) rfl, zt_sel (q := (⟨"FoolVotesModel", "swapBy", "(I)I"⟩, 31)) (List.mem_of_getElem? (i := 39) (by decide +kernel))⟩), by decide +kernel⟩
theorem zr_ok133 : zh_ok zr_133 := ⟨zt_in 896 (by decide +kernel) rfl, zt_in 6 (by decide +kernel) rfl, (by rw [if_neg (by decide)]; exact ⟨zt_in 894 (by decide +kernel) rfl, zt_in 895 (by decide +kernel) rfl⟩), by decide +kernel⟩
theorem zr_ok134 : zh_ok zr_134 := ⟨zt_in 908 (by decide +kernel) rfl, zt_in 6 (by decide +kernel) rfl, (by rw [if_neg (by decide)]; exact ⟨zt_in 907 (by decide +kernel) rfl, zt_sel (q := (⟨"FoolVotesModel", "wishBy", "(I)I"⟩, 31)) (List.mem_of_getElem? (i := 40) (by decide +kernel))⟩), by decide +kernel⟩
theorem zr_ok135 : zh_ok zr_135 := ⟨zt_in 904 (by decide +kernel) rfl, zt_in 6 (by decide +kernel) rfl, (by rw [if_neg (by decide)]; exact ⟨zt_in 902 (by decide +kernel) rfl, zt_in 903 (by decide +kernel) rfl⟩), by decide +kernel⟩
theorem zr_ok136 : zh_ok zr_136 := ⟨zt_in 925 (by decide +kernel) rfl, zt_in 6 (by decide +kernel) rfl, (by rw [if_neg (by decide)]; exact ⟨zt_in 924 (by decide +kernel) rfl, zt_sel (q := (⟨"FoolVotesModel", "coatsNow", "()I"⟩, 31)) (List.mem_of_getElem? (i := 43) (by decide +kernel))⟩), by decide +kernel⟩
theorem zr_ok137 : zh_ok zr_137 := ⟨zt_in 921 (by decide +kernel) rfl, zt_in 6 (by decide +kernel) rfl, (by rw [if_neg (by decide)]; exact ⟨zt_in 920 (by decide +kernel) rfl, zt_sel (q := (⟨"FoolVotesModel", "isSpared", "(I)Z"⟩, 31)) (List.mem_of_getElem? (i := 42) (by decide +kernel))⟩), by decide +kernel⟩
theorem zr_ok138 : zh_ok zr_138 := ⟨zt_in 917 (by decide +kernel) rfl, zt_in 6 (by decide +kernel) rfl, (by rw [if_neg (by decide)]; exact ⟨zt_in 916 (by decide +kernel) rfl, zt_sel (q := (⟨"FoolVotesModel", "spareBy", "(I)I"⟩, 31)) (List.mem_of_getElem? (i := 41) (by decide +kernel))⟩), by decide +kernel⟩
theorem zr_ok139 : zh_ok zr_139 := ⟨zt_in 912 (by decide +kernel) rfl, zt_in 6 (by decide +kernel) rfl, (by rw [if_neg (by decide)]; exact ⟨zt_in 910 (by decide +kernel) rfl, zt_in 911 (by decide +kernel) rfl⟩), by decide +kernel⟩
theorem zr_ok140 : zh_ok zr_140 := ⟨zt_in 929 (by decide +kernel) rfl, zt_in 6 (by decide +kernel) rfl, (by rw [if_neg (by decide)]; exact ⟨zt_in 927 (by decide +kernel) rfl, zt_in 928 (by decide +kernel) rfl⟩), by decide +kernel⟩
theorem zr_ok141 : zh_ok zr_141 := ⟨zt_in 934 (by decide +kernel) rfl, zt_in 6 (by decide +kernel) rfl, (by rw [if_neg (by decide)]; exact ⟨zt_in 932 (by decide +kernel) rfl, zt_in 933 (by decide +kernel) rfl⟩), by decide +kernel⟩
theorem zr_ok142 : zh_ok zr_142 := ⟨zt_in 950 (by decide +kernel) rfl, zt_in 6 (by decide +kernel) rfl, (by rw [if_neg (by decide)]; exact ⟨zt_in 949 (by decide +kernel) rfl, zt_sel (q := (⟨"FoolVotesModel", "isSeen", "()Z"⟩, 31)) (List.mem_of_getElem? (i := 46) (by decide +kernel))⟩), by decide +kernel⟩
theorem zr_ok143 : zh_ok zr_143 := ⟨zt_in 946 (by decide +kernel) rfl, zt_in 6 (by decide +kernel) rfl, (by rw [if_neg (by decide)]; exact ⟨zt_in 945 (by decide +kernel) rfl, zt_sel (q := (⟨"FoolVotesModel", "neverNow", "()I"⟩, 31)) (List.mem_of_getElem? (i := 45) (by decide +kernel))⟩), by decide +kernel⟩
theorem zr_ok144 : zh_ok zr_144 := ⟨zt_in 954 (by decide +kernel) rfl, zt_in 6 (by decide +kernel) rfl, (by rw [if_neg (by decide)]; exact ⟨zt_in 953 (by decide +kernel) rfl, zt_sel (q := (⟨"FoolVotesModel", "heartNow", "()I"⟩, 31)) (List.mem_of_getElem? (i := 47) (by decide +kernel))⟩), by decide +kernel⟩
theorem zr_ok145 : zh_ok zr_145 := ⟨zt_in 942 (by decide +kernel) rfl, zt_in 6 (by decide +kernel) rfl, (by rw [if_neg (by decide)]; exact ⟨zt_in 941 (by decide +kernel) rfl, zt_sel (q := (⟨"FoolVotesModel", "mightBy", "(I)I"⟩, 31)) (List.mem_of_getElem? (i := 44) (by decide +kernel))⟩), by decide +kernel⟩
theorem zr_ok146 : zh_ok zr_146 := ⟨zt_in 938 (by decide +kernel) rfl, zt_in 6 (by decide +kernel) rfl, (by rw [if_neg (by decide)]; exact ⟨zt_in 936 (by decide +kernel) rfl, zt_in 937 (by decide +kernel) rfl⟩), by decide +kernel⟩
theorem zr_ok147 : zh_ok zr_147 := ⟨zt_in 962 (by decide +kernel) rfl, zt_in 6 (by decide +kernel) rfl, (by rw [if_neg (by decide)]; exact ⟨zt_in 961 (by decide +kernel) rfl, zt_sel (q := (⟨"FoolVotesModel", "wasOf", "(II)I"⟩, 31)) (List.mem_of_getElem? (i := 48) (by decide +kernel))⟩), by decide +kernel⟩
theorem zr_ok148 : zh_ok zr_148 := ⟨zt_in 958 (by decide +kernel) rfl, zt_in 6 (by decide +kernel) rfl, (by rw [if_neg (by decide)]; exact ⟨zt_in 956 (by decide +kernel) rfl, zt_in 957 (by decide +kernel) rfl⟩), by decide +kernel⟩
theorem zr_ok149 : zh_ok zr_149 := ⟨zt_in 974 (by decide +kernel) rfl, zt_in 6 (by decide +kernel) rfl, (by rw [if_neg (by decide)]; exact ⟨zt_in 973 (by decide +kernel) rfl, zt_sel (q := (⟨"FoolVotesModel", "alike", "(II)I"⟩, 31)) (List.mem_of_getElem? (i := 50) (by decide +kernel))⟩), by decide +kernel⟩
theorem zr_ok150 : zh_ok zr_150 := ⟨zt_in 970 (by decide +kernel) rfl, zt_in 6 (by decide +kernel) rfl, (by rw [if_neg (by decide)]; exact ⟨zt_in 969 (by decide +kernel) rfl, zt_sel (q := (⟨"FoolVotesModel", "askNow", "()I"⟩, 31)) (List.mem_of_getElem? (i := 49) (by decide +kernel))⟩), by decide +kernel⟩
theorem zr_ok151 : zh_ok zr_151 := ⟨zt_in 966 (by decide +kernel) rfl, zt_in 6 (by decide +kernel) rfl, (by rw [if_neg (by decide)]; exact ⟨zt_in 964 (by decide +kernel) rfl, zt_in 965 (by decide +kernel) rfl⟩), by decide +kernel⟩
theorem zr_ok152 : zh_ok zr_152 := ⟨zt_in 986 (by decide +kernel) rfl, zt_in 6 (by decide +kernel) rfl, (by rw [if_pos rfl]; exact zt_in 985 (by decide +kernel) rfl), by decide +kernel⟩
theorem zr_ok153 : zh_ok zr_153 := ⟨zt_in 983 (by decide +kernel) rfl, zt_in 6 (by decide +kernel) rfl, (by rw [if_neg (by decide)]; exact ⟨zt_in 982 (by decide +kernel) rfl, zt_sel (q := (⟨"FoolVotesModel", "chanceOf", "(III)J"⟩, 31)) (List.mem_of_getElem? (i := 51) (by decide +kernel))⟩), by decide +kernel⟩
theorem zr_ok154 : zh_ok zr_154 := ⟨zt_in 989 (by decide +kernel) rfl, zt_in 6 (by decide +kernel) rfl, (by rw [if_pos rfl]; exact zt_in 988 (by decide +kernel) rfl), by decide +kernel⟩
theorem zr_ok155 : zh_ok zr_155 := ⟨zt_in 978 (by decide +kernel) rfl, zt_in 6 (by decide +kernel) rfl, (by rw [if_neg (by decide)]; exact ⟨zt_in 976 (by decide +kernel) rfl, zt_in 977 (by decide +kernel) rfl⟩), by decide +kernel⟩
theorem zr_ok156 : zh_ok zr_156 := ⟨zt_in 1003 (by decide +kernel) rfl, zt_in 6 (by decide +kernel) rfl, (by rw [if_neg (by decide)]; exact ⟨zt_in 1002 (by decide +kernel) rfl, zt_sel (q := (⟨"FoolVotesModel", "lot", "(I)I"⟩, 31)) (List.mem_of_getElem? (i := 53) (by decide +kernel))⟩), by decide +kernel⟩
theorem zr_ok157 : zh_ok zr_157 := ⟨zt_in 999 (by decide +kernel) rfl, zt_in 6 (by decide +kernel) rfl, (by rw [if_neg (by decide)]; exact ⟨zt_in 998 (by decide +kernel) rfl, zt_sel (q := (⟨"FoolVotesModel", "agesOf", "(III)I"⟩, 31)) (List.mem_of_getElem? (i := 52) (by decide +kernel))⟩), by decide +kernel⟩
theorem zr_ok158 : zh_ok zr_158 := ⟨zt_in 994 (by decide +kernel) rfl, zt_in 6 (by decide +kernel) rfl, (by rw [if_neg (by decide)]; exact ⟨zt_in 992 (by decide +kernel) rfl, zt_in 993 (by decide +kernel) rfl⟩), by decide +kernel⟩
theorem zr_ok159 : zh_ok zr_159 := ⟨zt_in 1008 (by decide +kernel) rfl, zt_in 6 (by decide +kernel) rfl, (by rw [if_neg (by decide)]; exact ⟨zt_in 1006 (by decide +kernel) rfl, zt_in 1007 (by decide +kernel) rfl⟩), by decide +kernel⟩
theorem zr_ok160 : zh_ok zr_160 := ⟨zt_in 1012 (by decide +kernel) rfl, zt_in 6 (by decide +kernel) rfl, (by rw [if_neg (by decide)]; exact ⟨zt_in 1010 (by decide +kernel) rfl, zt_in 1011 (by decide +kernel) rfl⟩), by decide +kernel⟩
theorem zr_ok161 : zh_ok zr_161 := ⟨zt_in 1023 (by decide +kernel) rfl, zt_in 6 (by decide +kernel) rfl, (by rw [if_neg (by decide)]; exact ⟨zt_in 1022 (by decide +kernel) rfl, zt_sel (q := (⟨"FoolVotesModel", "tellsMeasure", "(JI)J"⟩, 31)) (List.mem_of_getElem? (i := 54) (by decide +kernel))⟩), by decide +kernel⟩
theorem zr_ok162 : zh_ok zr_162 := ⟨zt_in 1027 (by decide +kernel) rfl, zt_in 6 (by decide +kernel) rfl, (by rw [if_neg (by decide)]; exact ⟨zt_in 1026 (by decide +kernel) rfl, zt_sel (q := (⟨"FoolVotesModel", "tellsVoter", "(JI)J"⟩, 31)) (List.mem_of_getElem? (i := 55) (by decide +kernel))⟩), by decide +kernel⟩
theorem zr_ok163 : zh_ok zr_163 := ⟨zt_in 1016 (by decide +kernel) rfl, zt_in 6 (by decide +kernel) rfl, (by rw [if_neg (by decide)]; exact ⟨zt_in 1014 (by decide +kernel) rfl, zt_in 1015 (by decide +kernel) rfl⟩), by decide +kernel⟩
theorem zh_all0 : ∀ r ∈ [zr_0, zr_1, zr_2, zr_3, zr_4, zr_5, zr_6, zr_7, zr_8, zr_9, zr_10, zr_11, zr_12, zr_13, zr_14, zr_15, zr_16, zr_17, zr_18, zr_19], zh_ok r := List.forall_mem_cons.mpr ⟨zr_ok0, List.forall_mem_cons.mpr ⟨zr_ok1, List.forall_mem_cons.mpr ⟨zr_ok2, List.forall_mem_cons.mpr ⟨zr_ok3, List.forall_mem_cons.mpr ⟨zr_ok4, List.forall_mem_cons.mpr ⟨zr_ok5, List.forall_mem_cons.mpr ⟨zr_ok6, List.forall_mem_cons.mpr ⟨zr_ok7, List.forall_mem_cons.mpr ⟨zr_ok8, List.forall_mem_cons.mpr ⟨zr_ok9, List.forall_mem_cons.mpr ⟨zr_ok10, List.forall_mem_cons.mpr ⟨zr_ok11, List.forall_mem_cons.mpr ⟨zr_ok12, List.forall_mem_cons.mpr ⟨zr_ok13, List.forall_mem_cons.mpr ⟨zr_ok14, List.forall_mem_cons.mpr ⟨zr_ok15, List.forall_mem_cons.mpr ⟨zr_ok16, List.forall_mem_cons.mpr ⟨zr_ok17, List.forall_mem_cons.mpr ⟨zr_ok18, List.forall_mem_cons.mpr ⟨zr_ok19, fun _ h => absurd h List.not_mem_nil⟩⟩⟩⟩⟩⟩⟩⟩⟩⟩⟩⟩⟩⟩⟩⟩⟩⟩⟩⟩
theorem zh_all1 : ∀ r ∈ [zr_20, zr_21, zr_22, zr_23, zr_24, zr_25, zr_26, zr_27, zr_28, zr_29, zr_30, zr_31, zr_32, zr_33, zr_34, zr_35, zr_36, zr_37, zr_38, zr_39], zh_ok r := List.forall_mem_cons.mpr ⟨zr_ok20, List.forall_mem_cons.mpr ⟨zr_ok21, List.forall_mem_cons.mpr ⟨zr_ok22, List.forall_mem_cons.mpr ⟨zr_ok23, List.forall_mem_cons.mpr ⟨zr_ok24, List.forall_mem_cons.mpr ⟨zr_ok25, List.forall_mem_cons.mpr ⟨zr_ok26, List.forall_mem_cons.mpr ⟨zr_ok27, List.forall_mem_cons.mpr ⟨zr_ok28, List.forall_mem_cons.mpr ⟨zr_ok29, List.forall_mem_cons.mpr ⟨zr_ok30, List.forall_mem_cons.mpr ⟨zr_ok31, List.forall_mem_cons.mpr ⟨zr_ok32, List.forall_mem_cons.mpr ⟨zr_ok33, List.forall_mem_cons.mpr ⟨zr_ok34, List.forall_mem_cons.mpr ⟨zr_ok35, List.forall_mem_cons.mpr ⟨zr_ok36, List.forall_mem_cons.mpr ⟨zr_ok37, List.forall_mem_cons.mpr ⟨zr_ok38, List.forall_mem_cons.mpr ⟨zr_ok39, fun _ h => absurd h List.not_mem_nil⟩⟩⟩⟩⟩⟩⟩⟩⟩⟩⟩⟩⟩⟩⟩⟩⟩⟩⟩⟩
theorem zh_all2 : ∀ r ∈ [zr_40, zr_41, zr_42, zr_43, zr_44, zr_45, zr_46, zr_47, zr_48, zr_49, zr_50, zr_51, zr_52, zr_53, zr_54, zr_55, zr_56, zr_57, zr_58, zr_59], zh_ok r := List.forall_mem_cons.mpr ⟨zr_ok40, List.forall_mem_cons.mpr ⟨zr_ok41, List.forall_mem_cons.mpr ⟨zr_ok42, List.forall_mem_cons.mpr ⟨zr_ok43, List.forall_mem_cons.mpr ⟨zr_ok44, List.forall_mem_cons.mpr ⟨zr_ok45, List.forall_mem_cons.mpr ⟨zr_ok46, List.forall_mem_cons.mpr ⟨zr_ok47, List.forall_mem_cons.mpr ⟨zr_ok48, List.forall_mem_cons.mpr ⟨zr_ok49, List.forall_mem_cons.mpr ⟨zr_ok50, List.forall_mem_cons.mpr ⟨zr_ok51, List.forall_mem_cons.mpr ⟨zr_ok52, List.forall_mem_cons.mpr ⟨zr_ok53, List.forall_mem_cons.mpr ⟨zr_ok54, List.forall_mem_cons.mpr ⟨zr_ok55, List.forall_mem_cons.mpr ⟨zr_ok56, List.forall_mem_cons.mpr ⟨zr_ok57, List.forall_mem_cons.mpr ⟨zr_ok58, List.forall_mem_cons.mpr ⟨zr_ok59, fun _ h => absurd h List.not_mem_nil⟩⟩⟩⟩⟩⟩⟩⟩⟩⟩⟩⟩⟩⟩⟩⟩⟩⟩⟩⟩
theorem zh_all3 : ∀ r ∈ [zr_60, zr_61, zr_62, zr_63, zr_64, zr_65, zr_66, zr_67, zr_68, zr_69, zr_70, zr_71, zr_72, zr_73, zr_74, zr_75, zr_76, zr_77, zr_78, zr_79], zh_ok r := List.forall_mem_cons.mpr ⟨zr_ok60, List.forall_mem_cons.mpr ⟨zr_ok61, List.forall_mem_cons.mpr ⟨zr_ok62, List.forall_mem_cons.mpr ⟨zr_ok63, List.forall_mem_cons.mpr ⟨zr_ok64, List.forall_mem_cons.mpr ⟨zr_ok65, List.forall_mem_cons.mpr ⟨zr_ok66, List.forall_mem_cons.mpr ⟨zr_ok67, List.forall_mem_cons.mpr ⟨zr_ok68, List.forall_mem_cons.mpr ⟨zr_ok69, List.forall_mem_cons.mpr ⟨zr_ok70, List.forall_mem_cons.mpr ⟨zr_ok71, List.forall_mem_cons.mpr ⟨zr_ok72, List.forall_mem_cons.mpr ⟨zr_ok73, List.forall_mem_cons.mpr ⟨zr_ok74, List.forall_mem_cons.mpr ⟨zr_ok75, List.forall_mem_cons.mpr ⟨zr_ok76, List.forall_mem_cons.mpr ⟨zr_ok77, List.forall_mem_cons.mpr ⟨zr_ok78, List.forall_mem_cons.mpr ⟨zr_ok79, fun _ h => absurd h List.not_mem_nil⟩⟩⟩⟩⟩⟩⟩⟩⟩⟩⟩⟩⟩⟩⟩⟩⟩⟩⟩⟩
theorem zh_all4 : ∀ r ∈ [zr_80, zr_81, zr_82, zr_83, zr_84, zr_85, zr_86, zr_87, zr_88, zr_89, zr_90, zr_91, zr_92, zr_93, zr_94, zr_95, zr_96, zr_97, zr_98, zr_99], zh_ok r := List.forall_mem_cons.mpr ⟨zr_ok80, List.forall_mem_cons.mpr ⟨zr_ok81, List.forall_mem_cons.mpr ⟨zr_ok82, List.forall_mem_cons.mpr ⟨zr_ok83, List.forall_mem_cons.mpr ⟨zr_ok84, List.forall_mem_cons.mpr ⟨zr_ok85, List.forall_mem_cons.mpr ⟨zr_ok86, List.forall_mem_cons.mpr ⟨zr_ok87, List.forall_mem_cons.mpr ⟨zr_ok88, List.forall_mem_cons.mpr ⟨zr_ok89, List.forall_mem_cons.mpr ⟨zr_ok90, List.forall_mem_cons.mpr ⟨zr_ok91, List.forall_mem_cons.mpr ⟨zr_ok92, List.forall_mem_cons.mpr ⟨zr_ok93, List.forall_mem_cons.mpr ⟨zr_ok94, List.forall_mem_cons.mpr ⟨zr_ok95, List.forall_mem_cons.mpr ⟨zr_ok96, List.forall_mem_cons.mpr ⟨zr_ok97, List.forall_mem_cons.mpr ⟨zr_ok98, List.forall_mem_cons.mpr ⟨zr_ok99, fun _ h => absurd h List.not_mem_nil⟩⟩⟩⟩⟩⟩⟩⟩⟩⟩⟩⟩⟩⟩⟩⟩⟩⟩⟩⟩
theorem zh_all5 : ∀ r ∈ [zr_100, zr_101, zr_102, zr_103, zr_104, zr_105, zr_106, zr_107, zr_108, zr_109, zr_110, zr_111, zr_112, zr_113, zr_114, zr_115, zr_116, zr_117, zr_118, zr_119], zh_ok r := List.forall_mem_cons.mpr ⟨zr_ok100, List.forall_mem_cons.mpr ⟨zr_ok101, List.forall_mem_cons.mpr ⟨zr_ok102, List.forall_mem_cons.mpr ⟨zr_ok103, List.forall_mem_cons.mpr ⟨zr_ok104, List.forall_mem_cons.mpr ⟨zr_ok105, List.forall_mem_cons.mpr ⟨zr_ok106, List.forall_mem_cons.mpr ⟨zr_ok107, List.forall_mem_cons.mpr ⟨zr_ok108, List.forall_mem_cons.mpr ⟨zr_ok109, List.forall_mem_cons.mpr ⟨zr_ok110, List.forall_mem_cons.mpr ⟨zr_ok111, List.forall_mem_cons.mpr ⟨zr_ok112, List.forall_mem_cons.mpr ⟨zr_ok113, List.forall_mem_cons.mpr ⟨zr_ok114, List.forall_mem_cons.mpr ⟨zr_ok115, List.forall_mem_cons.mpr ⟨zr_ok116, List.forall_mem_cons.mpr ⟨zr_ok117, List.forall_mem_cons.mpr ⟨zr_ok118, List.forall_mem_cons.mpr ⟨zr_ok119, fun _ h => absurd h List.not_mem_nil⟩⟩⟩⟩⟩⟩⟩⟩⟩⟩⟩⟩⟩⟩⟩⟩⟩⟩⟩⟩
theorem zh_all6 : ∀ r ∈ [zr_120, zr_121, zr_122, zr_123, zr_124, zr_125, zr_126, zr_127, zr_128, zr_129, zr_130, zr_131, zr_132, zr_133, zr_134, zr_135, zr_136, zr_137, zr_138, zr_139], zh_ok r := List.forall_mem_cons.mpr ⟨zr_ok120, List.forall_mem_cons.mpr ⟨zr_ok121, List.forall_mem_cons.mpr ⟨zr_ok122, List.forall_mem_cons.mpr ⟨zr_ok123, List.forall_mem_cons.mpr ⟨zr_ok124, List.forall_mem_cons.mpr ⟨zr_ok125, List.forall_mem_cons.mpr ⟨zr_ok126, List.forall_mem_cons.mpr ⟨zr_ok127, List.forall_mem_cons.mpr ⟨zr_ok128, List.forall_mem_cons.mpr ⟨zr_ok129, List.forall_mem_cons.mpr ⟨zr_ok130, List.forall_mem_cons.mpr ⟨zr_ok131, List.forall_mem_cons.mpr ⟨zr_ok132, List.forall_mem_cons.mpr ⟨zr_ok133, List.forall_mem_cons.mpr ⟨zr_ok134, List.forall_mem_cons.mpr ⟨zr_ok135, List.forall_mem_cons.mpr ⟨zr_ok136, List.forall_mem_cons.mpr ⟨zr_ok137, List.forall_mem_cons.mpr ⟨zr_ok138, List.forall_mem_cons.mpr ⟨zr_ok139, fun _ h => absurd h List.not_mem_nil⟩⟩⟩⟩⟩⟩⟩⟩⟩⟩⟩⟩⟩⟩⟩⟩⟩⟩⟩⟩
theorem zh_all7 : ∀ r ∈ [zr_140, zr_141, zr_142, zr_143, zr_144, zr_145, zr_146, zr_147, zr_148, zr_149, zr_150, zr_151, zr_152, zr_153, zr_154, zr_155, zr_156, zr_157, zr_158, zr_159], zh_ok r := List.forall_mem_cons.mpr ⟨zr_ok140, List.forall_mem_cons.mpr ⟨zr_ok141, List.forall_mem_cons.mpr ⟨zr_ok142, List.forall_mem_cons.mpr ⟨zr_ok143, List.forall_mem_cons.mpr ⟨zr_ok144, List.forall_mem_cons.mpr ⟨zr_ok145, List.forall_mem_cons.mpr ⟨zr_ok146, List.forall_mem_cons.mpr ⟨zr_ok147, List.forall_mem_cons.mpr ⟨zr_ok148, List.forall_mem_cons.mpr ⟨zr_ok149, List.forall_mem_cons.mpr ⟨zr_ok150, List.forall_mem_cons.mpr ⟨zr_ok151, List.forall_mem_cons.mpr ⟨zr_ok152, List.forall_mem_cons.mpr ⟨zr_ok153, List.forall_mem_cons.mpr ⟨zr_ok154, List.forall_mem_cons.mpr ⟨zr_ok155, List.forall_mem_cons.mpr ⟨zr_ok156, List.forall_mem_cons.mpr ⟨zr_ok157, List.forall_mem_cons.mpr ⟨zr_ok158, List.forall_mem_cons.mpr ⟨zr_ok159, fun _ h => absurd h List.not_mem_nil⟩⟩⟩⟩⟩⟩⟩⟩⟩⟩⟩⟩⟩⟩⟩⟩⟩⟩⟩⟩
theorem zh_all8 : ∀ r ∈ [zr_160, zr_161, zr_162, zr_163], zh_ok r := List.forall_mem_cons.mpr ⟨zr_ok160, List.forall_mem_cons.mpr ⟨zr_ok161, List.forall_mem_cons.mpr ⟨zr_ok162, List.forall_mem_cons.mpr ⟨zr_ok163, fun _ h => absurd h List.not_mem_nil⟩⟩⟩⟩
theorem zh_app {a b : List zh_T} (ha : ∀ r ∈ a, zh_ok r) (hb : ∀ r ∈ b, zh_ok r) : ∀ r ∈ a ++ b, zh_ok r := fun r h => (List.mem_append.mp h).elim (ha r) (hb r)
theorem zh_all : ∀ r ∈ zh_L, zh_ok r := (zh_app zh_all0 (zh_app zh_all1 (zh_app zh_all2 (zh_app zh_all3 (zh_app zh_all4 (zh_app zh_all5 (zh_app zh_all6 (zh_app zh_all7 zh_all8))))))))
theorem zh_fact (k : Nat) : zh_ok (zh k) := by
  unfold zh
  rw [List.getD_eq_getElem?_getD]
  cases h : zh_L[k]? with
  | none => exact zr_ok0
  | some r => exact zh_all r (List.mem_of_getElem? h)
/-- links: own class, index, what it names, its place in the tables -/
def zl_M : List (Nat × Nat × Nat × Nat) := [(0, 72, 0, 234), (0, 76, 1, 237), (0, 86, 14, 241), (0, 283, 4, 245), (0, 89, 2, 249), (0, 92, 3, 252), (0, 350, 5, 255), (0, 236, 6, 259), (0, 183, 13, 263), (4, 59, 8, 267), (4, 70, 10, 274), (4, 76, 9, 278), (4, 83, 11, 283), (4, 87, 12, 287), (0, 119, 21, 316), (0, 123, 24, 328), (0, 127, 25, 332), (0, 134, 26, 336), (0, 138, 22, 340), (0, 157, 7, 349), (0, 171, 31, 358), (0, 179, 36, 380), (0, 187, 38, 391), (0, 191, 40, 399), (0, 194, 42, 407), (0, 198, 46, 411), (0, 226, 45, 415), (0, 353, 43, 419), (0, 239, 44, 422), (0, 201, 47, 426), (0, 208, 52, 441), (0, 214, 51, 445), (0, 211, 53, 449), (0, 217, 56, 461), (0, 222, 58, 473), (0, 229, 59, 477), (0, 233, 61, 486), (0, 242, 63, 494), (0, 245, 66, 506), (0, 248, 67, 510), (0, 255, 70, 523), (0, 280, 73, 545), (0, 286, 74, 546), (0, 308, 19, 550), (0, 311, 29, 551), (0, 314, 37, 552), (0, 317, 60, 553), (0, 321, 28, 554), (0, 289, 75, 555), (0, 323, 18, 559), (0, 326, 30, 560), (0, 329, 55, 561), (0, 292, 32, 562), (0, 295, 33, 563), (0, 298, 34, 564), (0, 301, 35, 565), (0, 304, 76, 566), (0, 332, 39, 570), (0, 335, 41, 571), (0, 338, 48, 572), (0, 341, 54, 573), (0, 344, 57, 574), (0, 347, 62, 575), (5, 92, 79, 681), (5, 82, 78, 685), (5, 98, 80, 689), (5, 102, 83, 701), (5, 106, 84, 705), (5, 111, 88, 721), (5, 144, 97, 737), (5, 137, 94, 741), (5, 124, 93, 745), (5, 118, 92, 748), (5, 141, 96, 752), (5, 134, 95, 756), (5, 147, 99, 765), (5, 150, 101, 773), (5, 162, 104, 796), (5, 198, 115, 801), (5, 195, 114, 805), (5, 192, 113, 809), (5, 177, 108, 813), (5, 167, 107, 817), (5, 181, 111, 820), (5, 174, 110, 824), (5, 171, 109, 827), (5, 188, 112, 830), (5, 203, 117, 839), (5, 206, 119, 847), (5, 209, 121, 855), (5, 212, 124, 867), (5, 218, 127, 875), (5, 215, 126, 879), (5, 224, 130, 886), (5, 221, 129, 890), (5, 227, 132, 897), (5, 230, 134, 905), (5, 241, 138, 914), (5, 236, 137, 918), (5, 233, 136, 922), (5, 259, 145, 939), (5, 253, 143, 943), (5, 249, 142, 947), (5, 256, 144, 951), (5, 262, 147, 959), (5, 268, 150, 967), (5, 265, 149, 971), (5, 277, 153, 980), (5, 271, 152, 984), (5, 281, 154, 987), (5, 294, 157, 996), (5, 289, 156, 1000), (5, 301, 160, 1019), (5, 304, 161, 1020), (5, 308, 162, 1024)]
def zl_F : List (Nat × Nat × Nat × Nat × Nat) := [(3, 7, 3, 0, 25), (0, 83, 3, 0, 26), (0, 80, 3, 1, 27), (1, 42, 1, 0, 40), (4, 43, 1, 0, 41), (0, 95, 1, 0, 42), (1, 9, 1, 1, 43), (4, 115, 1, 1, 44), (0, 98, 1, 1, 45), (1, 15, 1, 2, 46), (4, 48, 1, 2, 47), (0, 101, 1, 2, 48), (1, 18, 1, 3, 49), (4, 49, 1, 3, 50), (0, 104, 1, 3, 51), (1, 21, 1, 4, 52), (4, 112, 1, 4, 53), (4, 50, 1, 5, 54), (1, 46, 1, 5, 55), (0, 107, 1, 5, 56), (1, 24, 1, 6, 57), (4, 56, 1, 6, 58), (0, 110, 1, 6, 59), (1, 27, 1, 7, 60), (4, 67, 1, 7, 61), (0, 113, 1, 7, 62), (1, 30, 1, 8, 63), (4, 53, 1, 8, 64), (0, 176, 1, 8, 65), (1, 49, 1, 9, 66), (4, 97, 1, 9, 67), (0, 116, 1, 9, 68), (1, 33, 1, 10, 69), (4, 106, 1, 10, 70), (1, 36, 1, 11, 71), (4, 103, 1, 11, 72), (1, 39, 1, 12, 73), (4, 109, 1, 12, 74), (0, 65, 1, 13, 75), (4, 73, 1, 13, 76), (1, 58, 1, 13, 77), (0, 69, 1, 14, 78), (4, 80, 1, 14, 79), (1, 61, 1, 14, 80), (4, 9, 4, 0, 118), (0, 142, 4, 0, 119), (4, 15, 4, 1, 120), (0, 145, 4, 1, 121), (4, 18, 4, 2, 122), (0, 148, 4, 2, 123), (4, 21, 4, 3, 124), (0, 151, 4, 3, 125), (4, 36, 4, 4, 126), (0, 154, 4, 4, 127), (4, 40, 4, 5, 128), (0, 160, 4, 5, 129), (4, 24, 4, 6, 130), (0, 163, 4, 6, 131), (4, 27, 4, 7, 132), (0, 164, 4, 7, 133), (4, 30, 4, 8, 134), (0, 165, 4, 8, 135), (4, 33, 4, 9, 136), (0, 168, 4, 9, 137), (4, 63, 4, 10, 138), (4, 91, 4, 11, 139), (4, 94, 4, 12, 140), (2, 9, 2, 0, 174), (0, 252, 2, 0, 175), (2, 15, 2, 1, 176), (0, 131, 2, 1, 177), (2, 18, 2, 2, 178), (0, 259, 2, 2, 179), (0, 14, 0, 0, 187), (0, 18, 0, 1, 188), (0, 24, 0, 2, 189), (0, 31, 0, 3, 190), (0, 35, 0, 4, 191), (0, 38, 0, 5, 192), (0, 41, 0, 6, 193), (0, 45, 0, 7, 194), (0, 48, 0, 8, 195), (0, 51, 0, 9, 196), (0, 57, 0, 10, 197), (0, 205, 0, 11, 198), (0, 273, 0, 12, 199), (0, 61, 0, 13, 200), (5, 7, 5, 0, 582), (5, 13, 5, 1, 583), (5, 16, 5, 2, 584), (5, 19, 5, 3, 585), (5, 86, 5, 4, 586), (5, 22, 5, 5, 587), (5, 25, 5, 6, 588), (5, 121, 5, 7, 589), (5, 28, 5, 8, 590), (5, 131, 5, 9, 591), (5, 31, 5, 10, 592), (5, 34, 5, 11, 593), (5, 159, 5, 12, 594), (5, 37, 5, 13, 595), (5, 164, 5, 14, 596), (5, 40, 5, 15, 597), (5, 43, 5, 16, 598), (5, 46, 5, 17, 599), (5, 49, 5, 18, 600), (5, 52, 5, 19, 601), (5, 55, 5, 20, 602), (5, 58, 5, 21, 603), (5, 61, 5, 22, 604), (5, 64, 5, 23, 605), (5, 67, 5, 24, 606), (5, 71, 5, 25, 607), (5, 185, 5, 26, 608), (5, 246, 5, 27, 609), (5, 74, 5, 28, 610), (5, 77, 5, 29, 611), (5, 286, 5, 30, 612)]
def zl_I : List (Nat × Nat × Int × Nat) := [(6, 265, 1431655765, 361), (6, 266, 858993459, 362), (6, 267, 252645135, 363), (0, 364, 1103515245, 489), (0, 251, -2147483648, 518), (5, 110, -2147483648, 712), (5, 285, 1103515245, 1004)]
def zl_J : List (Nat × Nat × Int × Nat) := [(0, 220, -9223372036854775806, 472), (0, 362, 2, 481), (0, 276, 17, 543), (0, 278, 31, 544), (5, 90, 3, 684), (5, 96, 2, 688), (5, 114, 255, 724), (5, 116, 48, 751), (5, 127, 97, 759), (5, 129, 120, 760), (5, 153, 7, 781), (5, 155, 9, 782), (5, 157, 23, 787), (5, 201, 4, 838), (5, 239, -1, 913), (5, 244, 11, 930), (5, 275, 16, 979), (5, 80, -9223372036854775808, 990), (5, 292, 12, 995), (5, 299, 17, 1017), (5, 297, 31, 1018)]
def zl_A : List (Nat × Nat × Nat) := [(1, 52, 384), (0, 262, 527)]
theorem zl_Mok : ∀ q ∈ zl_M, tables_1[q.2.2.2]? = some (Cond.methodLink (zn_c q.1) q.2.1 (hY q.2.2.1)) := by decide +kernel
def zl_Fc (c : Nat) : vw_C := zc_cl.getD c (zn_Fv, zT_Fv, 14)
theorem zl_Fok : ∀ q ∈ zl_F, (tables_1[q.2.2.2.2]? = some (Cond.fieldLink (zn_c q.1) q.2.1 (zl_Fc q.2.2.1).1 ((zl_Fc q.2.2.1).2.1 q.2.2.2.1).2.1 ((zl_Fc q.2.2.1).2.1 q.2.2.2.1).2.2.1) ∧ q.2.2.2.1 < (zl_Fc q.2.2.1).2.2 ∧ q.2.2.1 < 6 ∧ ((zl_Fc q.2.2.1).2.1 q.2.2.2.1).1 = (zl_Fc q.2.2.1).1) := by decide +kernel
theorem zl_Iok : ∀ q ∈ zl_I, tables_1[q.2.2.2]? = some (Cond.constant (zn_c q.1) q.2.1 (Int32.ofInt q.2.2.1)) := by decide +kernel
theorem zl_Jok : ∀ q ∈ zl_J, tables_1[q.2.2.2]? = some (Cond.constantLong (zn_c q.1) q.2.1 (Int64.ofInt q.2.2.1)) := by decide +kernel
theorem zl_Aok : ∀ q ∈ zl_A, tables_1[q.2.2]? = some (Cond.methodLink (zn_c q.1) q.2.1 arraycopyName) := by decide +kernel
theorem zl_sys : Cond.native arraycopyName ∈ zt_G ∧ Cond.static arraycopyName ∈ zt_G ∧ Cond.initialized "java/lang/System" ∈ zt_G := ⟨zt_in 386 (by decide +kernel) rfl, zt_in 385 (by decide +kernel) rfl, zt_in 8 (by decide +kernel) rfl⟩
def zl_X : List (Nat × Nat × Nat × Nat) := [(0, 359, 0, 465), (0, 268, 1, 532)]
theorem zl_Xok : ∀ q ∈ zl_X, tables_1[q.2.2.2]? = some (Cond.methodLink (zn_c q.1) q.2.1 (if q.2.2.1 = 0 then Lib.Math.max.name else Lib.Math.min.name)) := by decide +kernel
theorem zl_max : Cond.static Lib.Math.max.name ∈ zt_G ∧ Cond.initialized "java/lang/Math" ∈ zt_G ∧ Cond.code Lib.Math.max.name Lib.Math.max.code 2 (some .int) ∈ zt_G := ⟨zt_in 466 (by decide +kernel) rfl, zt_in 10 (by decide +kernel) rfl, zt_in 467 (by decide +kernel) rfl⟩
theorem zl_min : Cond.static Lib.Math.min.name ∈ zt_G ∧ Cond.initialized "java/lang/Math" ∈ zt_G ∧ Cond.code Lib.Math.min.name Lib.Math.min.code 2 (some .int) ∈ zt_G := ⟨zt_in 533 (by decide +kernel) rfl, zt_in 10 (by decide +kernel) rfl, zt_in 534 (by decide +kernel) rfl⟩
end
section
/-! THE WORLD: all 77 cells of both objects, in one memory: cell by its number, place, number held. -/
abbrev zM : Type := Nat → Nat → Int32
/-- launch; the classes' numbers and slots; the cells' addresses; the two array classes; the address of the table -/
abbrev zX : Type := Launch × (Nat → ClassId) × (Nat → Nat → Nat) × (Nat → Nat) × ClassId × ClassId × Nat
def zx_l (X : zX) : Launch := X.1
def zx_D (X : zX) : va_G := (X.2.1, X.2.2.1)
def zx_a (X : zX) : Nat → Nat := X.2.2.2.1
def zx_I (X : zX) : ClassId := X.2.2.2.2.1
def zx_Z (X : zX) : ClassId := X.2.2.2.2.2.1
def zx_t (X : zX) : Nat := X.2.2.2.2.2.2
/-- a value as the machine has it -/
def zv (X : zX) (v : Value) : Value := match v with
  | .ref k => .ref (zx_a X k)
  | .retAddr _ => .ref (zx_t X)
  | w => w
theorem zv_cat (X : zX) (v : Value) : (zv X v).category = v.category := by cases v <;> rfl
def zs_val (M : zM) (k j : Nat) (f : Option Nat) : Value := match f with
  | some r => .ref r
  | none => .int (M k j)
def zs_cell (X : zX) (M : zM) (k : Nat) (s : (Nat × Nat) ⊕ (Nat × List (Option Nat))) : va_E := match s with
  | .inl a => .inl ((if a.1 = 0 then zx_I X else zx_Z X), a.2, .inl (M k))
  | .inr o => .inr (o.1, o.2.mapIdx (fun j f => zv X (zs_val M k j f)))
def zs_ws (X : zX) (M : zM) : va_W := zs_sh.mapIdx (fun k s => (zx_a X k, zs_cell X M k s))
theorem zs_len : zs_sh.length = 77 := by decide +kernel
theorem zs_at {X : zX} {M : zM} {k : Nat} {s : (Nat × Nat) ⊕ (Nat × List (Option Nat))} (h : zs_sh[k]? = some s) : (zs_ws X M)[k]? = some (zx_a X k, zs_cell X M k s) := by
  simp [zs_ws, List.getElem?_mapIdx, h]
theorem zs_at' {X : zX} {M : zM} {k : Nat} {q : Nat × va_E} (h : (zs_ws X M)[k]? = some q) : k < 77 ∧ q.1 = zx_a X k := by
  simp only [zs_ws, List.getElem?_mapIdx] at h
  cases hs : zs_sh[k]? with
  | none => rw [hs] at h; cases h
  | some s =>
    rw [hs] at h
    cases h
    exact ⟨by rw [← zs_len]; exact (List.getElem?_eq_some_iff.mp hs).1, rfl⟩
theorem zs_lt {k : Nat} {s : (Nat × Nat) ⊕ (Nat × List (Option Nat))} (h : zs_sh[k]? = some s) : k < 77 := by rw [← zs_len]; exact (List.getElem?_eq_some_iff.mp h).1
/-- a cell's new contents -/
theorem zs_cong (X : zX) {M M' : zM} {k : Nat} (s : (Nat × Nat) ⊕ (Nat × List (Option Nat))) (h : M' k = M k) : zs_cell X M k s = zs_cell X M' k s := by
  cases s with
  | inl a => simp only [zs_cell, h]
  | inr o => simp only [zs_cell, zs_val, h]
theorem zs_set {X : zX} {M M' : zM} {k : Nat} {s : (Nat × Nat) ⊕ (Nat × List (Option Nat))} (h : zs_sh[k]? = some s) (hM : ∀ a, a ≠ k → M' a = M a) : (zs_ws X M).set k (zx_a X k, zs_cell X M' k s) = zs_ws X M' := by
  apply List.ext_getElem?
  intro j
  by_cases hj : k = j
  · subst hj
    rw [List.getElem?_set_self (List.getElem?_eq_some_iff.mp (zs_at (X := X) (M := M) h)).1, zs_at h]
  · rw [List.getElem?_set_ne hj]
    simp only [zs_ws, List.getElem?_mapIdx]
    cases zs_sh[j]? with
    | none => rfl
    | some s' =>
      show some (zx_a X j, zs_cell X M j s') = some (zx_a X j, zs_cell X M' j s')
      rw [zs_cong X s' (hM j (fun e => hj e.symm))]
def zu (M : zM) (k i : Nat) (v : Int32) : zM := fun a => if a = k then upd (M k) i v else M a
theorem zu_ne {M : zM} {k i : Nat} {v : Int32} : ∀ a, a ≠ k → zu M k i v a = M a := fun a h => by simp [zu, h]
theorem zu_self {M : zM} {k i : Nat} {v : Int32} : zu M k i v k = upd (M k) i v := by simp [zu]
/-- a whole array's new contents -/
def zua (M : zM) (k : Nat) (f : Nat → Int32) : zM := fun a => if a = k then f else M a
theorem zua_ne {M : zM} {k : Nat} {f : Nat → Int32} : ∀ a, a ≠ k → zua M k f a = M a := fun a h => by simp [zua, h]
theorem zua_self {M : zM} {k : Nat} {f : Nat → Int32} : zua M k f k = f := by simp [zua]
theorem zs_seta {X : zX} {M : zM} {k ty n : Nat} (h : zs_sh[k]? = some (.inl (ty, n))) (f : Nat → Int32) : (zs_ws X M).set k (zx_a X k, .inl ((if ty = 0 then zx_I X else zx_Z X), n, .inl f)) = zs_ws X (zua M k f) := by
  have e := zs_set (X := X) (M := M) (M' := zua M k f) h zua_ne
  simp only [zs_cell, zua_self] at e
  exact e
theorem zu_a (M : zM) (k i : Nat) (v : Int32) : zu M k i v = zua M k (upd (M k) i v) := rfl
theorem zs_setf {X : zX} {M : zM} {k c j : Nat} {fs : List (Option Nat)} (h : zs_sh[k]? = some (.inr (c, fs))) (hj : fs[j]? = some none) (v : Int32) : (zs_ws X M).set k (zx_a X k, .inr (c, (fs.mapIdx (fun j f => zv X (zs_val M k j f))).set j (.int v))) = zs_ws X (zu M k j v) := by
  have e2 : (fs.mapIdx (fun j f => zv X (zs_val M k j f))).set j (.int v) = fs.mapIdx (fun i f => zv X (zs_val (zu M k j v) k i f)) := by
    apply List.ext_getElem?
    intro i
    by_cases hi : j = i
    · subst hi
      have hl : j < fs.length := (List.getElem?_eq_some_iff.mp hj).1
      rw [List.getElem?_set_self (by simpa using hl)]
      simp [List.getElem?_mapIdx, hj, zs_val, zv, zu, upd]
    · rw [List.getElem?_set_ne hi]
      simp only [List.getElem?_mapIdx]
      cases fs[i]? with
      | none => rfl
      | some f =>
        cases f with
        | none => simp [zs_val, zv, zu, upd, Ne.symm hi]
        | some r => rfl
  have e := zs_set (X := X) (M := M) (M' := zu M k j v) h zu_ne
  simp only [zs_cell] at e
  rw [e2]
  exact e
def zA (X : zX) : Nat → Prop := fun q => ∃ k, k < 77 ∧ q = zx_a X k
def zx_inj (X : zX) : Prop := ∀ i j, i < 77 → j < 77 → zx_a X i = zx_a X j → i = j
theorem zs_D {X : zX} (h : zx_inj X) (M : zM) : va_D (zA X) (zs_ws X M) := by
  refine ⟨fun i j p q hi hj e => ?_, fun k q hk => ⟨k, zs_at' hk⟩⟩
  obtain ⟨a1, a2⟩ := zs_at' hi
  obtain ⟨b1, b2⟩ := zs_at' hj
  exact h i j a1 b1 (by rw [← a2, ← b2]; exact e)
def zt_tr (j : Nat) : Int32 := ([0, 1, 1, 2, 1, 2, 2, 3] : List Int32).getD j 0
def zy_bit : MethodName := ⟨"FoolVotes", "bit", "(II)I"⟩
/-- what the tables and the old heap say -/
def zk (X : zX) (U : State) : Prop := va_K (zx_D X) zc_cl [(zx_I X, .int), (zx_Z X, .boolean)] U ∧ va_Nw (.methodLinkNest "FoolVotes$Votes" 100 zy_bit "FoolVotes") U ∧ va_Z "FoolVotes$Votes" "TRAITS_IN" "[I" (.ref (zx_t X)) (zA X) U U.heap ∧ va_T .int (zx_t X) 8 (fun j => .int (zt_tr j)) (zA X) U U.heap ∧ zx_inj X
theorem zk_warm {X : zX} {u U : State} (hW : u.WarmedH U.vm) (hh : ∀ a : Nat, a < u.heap.size → ¬ zA X a → U.heap[a]? = u.heap[a]?) (h : zk X u) : zk X U := by
  obtain ⟨h1, h2, h3, h4, h5⟩ := h
  exact ⟨va_K.moved hW.alike h1, va_Nw.warmM hW h2, (va_Z.moved hW.alike h3).kept hh, (va_T.moved hW.alike h4).kept hh, h5⟩
theorem zk_same {X : zX} {u U : State} (hv : u.vm = U.vm) (hh : U.heap = u.heap) (h : zk X u) : zk X U := by
  obtain ⟨h1, h2, h3, h4, h5⟩ := h
  have hA : u.vm.Alike U.vm := by rw [hv]; exact Vm.Alike.refl _
  exact ⟨va_K.moved hA h1, va_Nw.same rfl hv h2, (va_Z.moved hA h3).kept (fun a _ _ => by rw [hh]), (va_T.moved hA h4).kept (fun a _ _ => by rw [hh]), h5⟩
def zw (X : zX) (M : zM) (U : State) : Prop := va_P (zx_D X) zc_cl (zs_ws X M) U.heap ∧ zk X U
def zQ (X : zX) (res : List Value) (M : zM) : Array Value → State → Outcome → State → Prop := fun _ st oc t => res.length ≤ 1 ∧ oc = .returned ((res.map (zv X)).head?) ∧ zw X M t ∧ va_F (zA X) st t
def zws (k : Nat) : List Cond := Cond.code (hY k) (hB k) (hL k) (hR k) :: zt_G
def zrm (k : Nat) : Room := { frames := hF k, cells := 0, slots := 0, locals := hW k }
/-- METHOD k, CALLED WITH args IN MEMORY M, ANSWERS res AND LEAVES MEMORY M' -/
def Call (X : zX) (k : Nat) (args : List Value) (M : zM) (res : List Value) (M' : zM) : Prop :=
  Met (zx_l X) (hY k) (zws k) (zrm k) (va_Pc (args.map (zv X)) (zw X M)) (zQ X res M') 0 0 (zA X)
/-- the locals -/
def zL (X : zX) (ls : Array Slot) (nL : Nat) (L : List (Option Value)) : Prop := ls.size = nL ∧ lv_wf ls ∧ ∀ (i : Nat) (v : Value), L[i]? = some (some v) → ls[i]? = some (.val (zv X v))
def zf (X : zX) (k : Nat) (p : Program) (s : State) (m : MethodId) (args : Array Value) (meth : Method) (c : Code) : Prop :=
  p.tables.exec = Jvm.exec ∧ c.code = hB k ∧ meth.sig.returnType = hR k ∧ meth.locks = false ∧ c.maxLocals = hL k ∧ s.vm.findClass (zn_c (hO k)) = some m.cls ∧ (∀ w ∈ zws k, w.before args s = true) ∧ zk X s
/-- METHOD k, STANDING AT pc WITH LOCALS L, STACK S, MEMORY M, WILL ANSWER res AND LEAVE M' -/
def At (X : zX) (k pc : Nat) (L : List (Option Value)) (S : List Value) (M : zM) (res : List Value) (M' : zM) : Prop :=
  ∀ (p : Program) (e : Env) (s : State) (m : MethodId) (args : Array Value) (below : List Frame) (meth : Method) (c : Code) (H : Heap) (locs : List Loc) (ls : Array Slot),
    zf X k p s m args meth c → va_P (zx_D X) zc_cl (zs_ws X M) H → va_S (zA X) s.heap H locs → zL X ls (hL k) L →
    W p (zx_l X) e (zrm k) s m args below meth c H locs 0 0 (MQ below (zQ X res M') args s 0 0 (zA X)) (F0 m pc ls (S.map (zv X)))
def zl_sl (args : List Value) : List (Option Value) := args.flatMap fun v => if v.category = 2 then [some v, none] else [some v]
def zl_in (args : List Value) (n : Nat) : List (Option Value) := zl_sl args ++ List.replicate (n - (zl_sl args).length) none
theorem zl_map (X : zX) : ∀ args : List Value, lg_sl (args.map (zv X)) = (zl_sl args).map (fun o => match o with | some v => Slot.val (zv X v) | none => Slot.second)
  | [] => rfl
  | v :: vs => by
    have ih := zl_map X vs
    simp only [lg_sl, zl_sl, List.map_cons, List.flatMap_cons, List.map_append, zv_cat] at ih ⊢
    rw [ih]
    by_cases h : v.category = 2 <;> simp [h]
theorem zl_len (X : zX) (args : List Value) : (lg_sl (args.map (zv X))).length = (zl_sl args).length := by rw [zl_map]; simp
theorem Call.of {X : zX} {k : Nat} {args : List Value} {M M' : zM} {res : List Value} (hn : (zl_sl args).length ≤ hL k) (h : At X k 0 (zl_in args (hL k)) [] M res M') : Call X k args M res M' := by
  obtain ⟨h1, h2, h3, h4, h5, h6⟩ := zh_fact k
  refine Met.ofW (cc := hB k) (maxL := hL k) (ret := hR k) h4 rfl ?_
  intro p e s m args' below meth c s₁ B hml hv
  obtain ⟨rfl, hP, hK⟩ := hv
  have hts := atoms_spec (ws := zws k) B.pre
  have hown : s.vm.findClass (zn_c (hO k)) = some m.cls := by rw [← h5]; exact findClass_of_methodNamed B.named
  have hl := lv_entry (args.map (zv X)) (n := hL k) (by rw [zl_len]; exact hn)
  rw [lg_entry_eq]
  refine h p e s m _ below meth c s.heap [] _ ⟨B.exec, B.bytes, B.returns, B.notSynchronized, hml, hown, hts, hK⟩ hP va_S.rf ⟨hl.1, hl.2.1, ?_⟩
  intro i v hi
  have hlt : i < (zl_sl args).length := by
    rcases Nat.lt_or_ge i (zl_sl args).length with q | q
    · exact q
    · rw [zl_in, List.getElem?_append_right q] at hi
      have := List.eq_of_mem_replicate (List.mem_of_getElem? hi)
      cases this
  rw [zl_in, List.getElem?_append_left hlt] at hi
  rw [List.getElem?_toArray, List.getElem?_append_left (by rw [zl_len]; exact hlt), zl_map, List.getElem?_map, hi]
  rfl
end
section
/-! ONE INSTRUCTION, OVER PURE STATES. An instruction stands for what it does: constants, fields and calls are resolved; jumps name their place.
  sipush n: a long constant; ret j: local j is forgotten (no step); jsr t: the next place (no step); getfield, putfield: 64 * class + field; invokeinterface k w: method k, w % 16 arguments, w / 16 - 1 the class of its object (0: static); dmul: FoolVotes.bit from its nest mate; dadd, dsub: Math.max, Math.min; invokedynamic: System.arraycopy of ints; freturn: a boolean is answered; getstatic 0: the table -/
def p_i (S : List Value) (K : Int32 → List Value → Prop) : Prop := match S with
  | .int x :: S' => K x S'
  | _ => False
def p_l (S : List Value) (K : Int64 → List Value → Prop) : Prop := match S with
  | .long x :: S' => K x S'
  | _ => False
def p_r (S : List Value) (K : Nat → List Value → Prop) : Prop := match S with
  | .ref x :: S' => K x S'
  | _ => False
def p_v (S : List Value) (K : Value → List Value → Prop) : Prop := match S with
  | x :: S' => if x.category = 1 then K x S' else False
  | _ => False
theorem p_i_s {S : List Value} {K : Int32 → List Value → Prop} (h : p_i S K) : ∃ x S', S = .int x :: S' ∧ K x S' := by
  unfold p_i at h
  split at h
  · exact ⟨_, _, rfl, h⟩
  · exact h.elim
theorem p_l_s {S : List Value} {K : Int64 → List Value → Prop} (h : p_l S K) : ∃ x S', S = .long x :: S' ∧ K x S' := by
  unfold p_l at h
  split at h
  · exact ⟨_, _, rfl, h⟩
  · exact h.elim
theorem p_r_s {S : List Value} {K : Nat → List Value → Prop} (h : p_r S K) : ∃ x S', S = .ref x :: S' ∧ K x S' := by
  unfold p_r at h
  split at h
  · exact ⟨_, _, rfl, h⟩
  · exact h.elim
theorem p_v_s {S : List Value} {K : Value → List Value → Prop} (h : p_v S K) : ∃ x S', S = x :: S' ∧ x.category = 1 ∧ K x S' := by
  unfold p_v at h
  split at h
  · split at h
    · exact ⟨_, _, rfl, by assumption, h⟩
    · exact h.elim
  · exact h.elim
def zl_clr (L : List (Option Value)) (j : Nat) : List (Option Value) := match L[j]? with
  | some (some w) => if w.category = 2 then L.set j none else L
  | _ => L
def zl_set (L : List (Option Value)) (i : Nat) (v : Value) : List (Option Value) := match i with
  | 0 => L.set 0 (some v)
  | j + 1 => (zl_clr L j).set (j + 1) (some v)
def zl_set2 (L : List (Option Value)) (i : Nat) (v : Value) : List (Option Value) := (zl_set L i v).set (i + 1) none
def zc0 (c : Jvm.ClassFile.Cond) (x : Int32) (A B : Prop) : Prop := match c with
  | .eq => (x = 0 → A) ∧ (¬ x = 0 → B)
  | .ne => (¬ x = 0 → A) ∧ (x = 0 → B)
  | .lt => (x < 0 → A) ∧ (¬ x < 0 → B)
  | .ge => (0 ≤ x → A) ∧ (¬ 0 ≤ x → B)
  | .gt => (0 < x → A) ∧ (¬ 0 < x → B)
  | .le => (x ≤ 0 → A) ∧ (¬ x ≤ 0 → B)
def zc1 (c : Jvm.ClassFile.Cond) (x y : Int32) (A B : Prop) : Prop := match c with
  | .eq => (x = y → A) ∧ (¬ x = y → B)
  | .ne => (¬ x = y → A) ∧ (x = y → B)
  | .lt => (x < y → A) ∧ (¬ x < y → B)
  | .ge => (y ≤ x → A) ∧ (¬ y ≤ x → B)
  | .gt => (y < x → A) ∧ (¬ y < x → B)
  | .le => (x ≤ y → A) ∧ (¬ x ≤ y → B)
/-- a switch, as a chain of tests -/
def zsw (ps : List (Int × Int)) (d : Int) (x : Int32) (J : Int → Prop) : Prop := match ps with
  | [] => J d
  | (a, t) :: r => (x = Int32.ofInt a → J t) ∧ (¬ x = Int32.ofInt a → zsw r d x J)
def zcats (S : List Value) : Nat := (S.map fun v => v.category).sum
/-- the object of a call is of the class -/
def zrcv (c : Nat) (as : List Value) : Bool := match c with
  | 0 => true
  | c' + 1 => match as with
    | .ref b :: _ => match zs_sh[b]? with
      | some (.inr o) => o.1 == c'
      | _ => false
    | _ => false
def stp (X : zX) (J : Nat → List (Option Value) → List Value → zM → Prop) (res : List Value) (M' : zM) (i : Instr) (L : List (Option Value)) (S : List Value) (M : zM) (K : List (Option Value) → List Value → zM → Prop) : Prop := match i with
  | .iconst n => K L (.int (Int32.ofInt n) :: S) M
  | .sipush n => K L (.long (Int64.ofInt n) :: S) M
  | .ret j => K (L.set j none) S M
  | .jsr t => J t.toNat L S M
  | .goto t => J t.toNat L S M
  | .iload j => match L[j]? with
    | some (some (.int x)) => K L (.int x :: S) M
    | _ => False
  | .lload j => match L[j]? with
    | some (some (.long x)) => K L (.long x :: S) M
    | _ => False
  | .aload j => match L[j]? with
    | some (some (.ref x)) => K L (.ref x :: S) M
    | _ => False
  | .istore j => p_i S fun x S' => K (zl_set L j (.int x)) S' M
  | .lstore j => p_l S fun x S' => K (zl_set2 L j (.long x)) S' M
  | .astore j => p_r S fun x S' => K (zl_set L j (.ref x)) S' M
  | .iinc j n => match L[j]? with
    | some (some (.int x)) => K (zl_set L j (.int (x + Int32.ofInt n))) S M
    | _ => False
  | .dup => p_v S fun v S' => K L (v :: v :: S') M
  | .pop => p_v S fun _ S' => K L S' M
  | .dup2 => p_v S fun v S' => p_v S' fun w S'' => K L (v :: w :: v :: w :: S'') M
  | .ifCond c t => p_i S fun x S' => zc0 c x (J t.toNat L S' M) (K L S' M)
  | .if_icmp c t => p_i S fun y S' => p_i S' fun x S'' => zc1 c x y (J t.toNat L S'' M) (K L S'' M)
  | .lookupswitch d ps => p_i S fun x S' => zsw ps.toList d x (fun t => J t.toNat L S' M)
  | .getfield n => p_r S fun r S' => match zs_sh[r]? with
    | some (.inr o) => if o.1 = n / 64 then (match o.2[n % 64]? with
      | some f => K L (zs_val M r (n % 64) f :: S') M
      | none => False) else False
    | _ => False
  | .putfield n => p_i S fun x S' => p_r S' fun r S'' => match zs_sh[r]? with
    | some (.inr o) => if o.1 = n / 64 then (match o.2[n % 64]? with
      | some none => match zs_isZ o.1 (n % 64) with
        | true => (x = 0 ∨ x = 1) ∧ K L S'' (zu M r (n % 64) x)
        | false => K L S'' (zu M r (n % 64) x)
      | _ => False) else False
    | _ => False
  | .getstatic _ => K L (.retAddr 0 :: S) M
  | .iaload => p_i S fun j S' => match S' with
    | .ref r :: S'' => match zs_sh[r]? with
      | some (.inl (0, n)) => vp_in j n ∧ K L (.int (M r j.toNatClampNeg) :: S'') M
      | _ => False
    | .retAddr _ :: S'' => vp_in j 8 ∧ K L (.int (zt_tr j.toNatClampNeg) :: S'') M
    | _ => False
  | .baload => p_i S fun j S' => p_r S' fun r S'' => match zs_sh[r]? with
    | some (.inl (1, n)) => vp_in j n ∧ K L (.int (M r j.toNatClampNeg) :: S'') M
    | _ => False
  | .iastore => p_i S fun x S' => p_i S' fun j S'' => p_r S'' fun r T => match zs_sh[r]? with
    | some (.inl (0, n)) => vp_in j n ∧ K L T (zu M r j.toNatClampNeg x)
    | _ => False
  | .bastore => p_i S fun x S' => p_i S' fun j S'' => p_r S'' fun r T => match zs_sh[r]? with
    | some (.inl (1, n)) => vp_in j n ∧ K L T (zu M r j.toNatClampNeg (x &&& 1))
    | _ => False
  | .arraylength => p_r S fun r S' => match zs_sh[r]? with
    | some (.inl (0, n)) => K L (.int (Int32.ofNat n) :: S') M
    | _ => False
  | .invokedynamic _ => p_i S fun n S1 => p_i S1 fun dp S2 => p_r S2 fun a S3 => p_i S3 fun sp S4 => p_r S4 fun a0 S5 => match zs_sh[a0]? with
    | some (.inl (0, n0)) => match zs_sh[a]? with
      | some (.inl (0, n1)) => if zcats S5 ≤ 8 then (¬ sp < 0 ∧ ¬ dp < 0 ∧ ¬ n < 0 ∧ sp.toNatClampNeg + n.toNatClampNeg ≤ n0 ∧ dp.toNatClampNeg + n.toNatClampNeg ≤ n1 ∧ K L S5 (zua M a (va_cpy (M a0) (M a) sp.toNatClampNeg dp.toNatClampNeg n.toNatClampNeg))) else False
      | _ => False
    | _ => False
  | .invokeinterface j w => match (Nat.ble (w % 16) S.length && Nat.ble (zcats (S.drop (w % 16))) 8 && zrcv (w / 16) (S.take (w % 16)).reverse) with
    | true => ∃ (r : List Value) (M1 : zM), Call X j (S.take (w % 16)).reverse M r M1 ∧ K L (r ++ S.drop (w % 16)) M1
    | false => False
  | .dmul => match (Nat.ble 2 S.length && Nat.ble (zcats (S.drop 2)) 8) with
    | true => ∃ (r : List Value) (M1 : zM), Call X 7 (S.take 2).reverse M r M1 ∧ K L (r ++ S.drop 2) M1
    | false => False
  | .dadd => p_i S fun y S' => p_i S' fun x S'' => if zcats S'' ≤ 8 then K L (.int (if x < y then y else x) :: S'') M else False
  | .dsub => p_i S fun y S' => p_i S' fun x S'' => if zcats S'' ≤ 8 then K L (.int (if y < x then y else x) :: S'') M else False
  | .idiv => p_i S fun y S' => p_i S' fun x S'' => ¬ y = 0 ∧ K L (.int (x / y) :: S'') M
  | .irem => p_i S fun y S' => p_i S' fun x S'' => ¬ y = 0 ∧ K L (.int (x - x / y * y) :: S'') M
  | .ldiv => p_l S fun y S' => p_l S' fun x S'' => ¬ y = 0 ∧ K L (.long (x / y) :: S'') M
  | .lrem => p_l S fun y S' => p_l S' fun x S'' => ¬ y = 0 ∧ K L (.long (x - x / y * y) :: S'') M
  | .lcmp => p_l S fun y S' => p_l S' fun x S'' => K L (.int (lg_cmp x y) :: S'') M
  | .lshl => p_i S fun y S' => p_l S' fun x S'' => K L (.long (x <<< (y.toInt64 &&& 63)) :: S'') M
  | .iadd => p_i S fun y S' => p_i S' fun x S'' => K L (.int (x + y) :: S'') M
  | .isub => p_i S fun y S' => p_i S' fun x S'' => K L (.int (x - y) :: S'') M
  | .imul => p_i S fun y S' => p_i S' fun x S'' => K L (.int (x * y) :: S'') M
  | .iand => p_i S fun y S' => p_i S' fun x S'' => K L (.int (x &&& y) :: S'') M
  | .ior => p_i S fun y S' => p_i S' fun x S'' => K L (.int (x ||| y) :: S'') M
  | .ixor => p_i S fun y S' => p_i S' fun x S'' => K L (.int (x ^^^ y) :: S'') M
  | .ishl => p_i S fun y S' => p_i S' fun x S'' => K L (.int (x <<< (y &&& 31)) :: S'') M
  | .ishr => p_i S fun y S' => p_i S' fun x S'' => K L (.int (x >>> (y &&& 31)) :: S'') M
  | .iushr => p_i S fun y S' => p_i S' fun x S'' => K L (.int ((x.toUInt32 >>> (y.toUInt32 &&& Int32.toUInt32 31)).toInt32) :: S'') M
  | .ladd => p_l S fun y S' => p_l S' fun x S'' => K L (.long (x + y) :: S'') M
  | .lsub => p_l S fun y S' => p_l S' fun x S'' => K L (.long (x - y) :: S'') M
  | .lmul => p_l S fun y S' => p_l S' fun x S'' => K L (.long (x * y) :: S'') M
  | .ineg => p_i S fun x S' => K L (.int (-x) :: S') M
  | .i2l => p_i S fun x S' => K L (.long (x.toInt64) :: S') M
  | .l2i => p_l S fun x S' => K L (.int (x.toInt32) :: S') M
  | .i2b => p_i S fun x S' => K L (.int (x.toInt8.toInt32) :: S') M
  | .i2s => p_i S fun x S' => K L (.int (x.toInt16.toInt32) :: S') M
  | .ireturn => match S with
    | [.int v] => res = [.int v] ∧ M' = M
    | _ => False
  | .freturn => match S with
    | [.int v] => (v = 0 ∨ v = 1) ∧ res = [.int v] ∧ M' = M
    | _ => False
  | .lreturn => match S with
    | [.long v] => res = [.long v] ∧ M' = M
    | _ => False
  | .areturn => match S with
    | [.ref v] => res = [.ref v] ∧ M' = M
    | _ => False
  | .return_ => match S with
    | [] => res = [] ∧ M' = M
    | _ => False
  | _ => False
/-- does the instruction describe what stands in the code? -/
def zmt (k pc : Nat) (i r : Instr) (len : Nat) : Bool := match i with
  | .iconst n => match r with
    | .iconst n' => decide (n' = n ∧ len = 1)
    | .bipush n' => decide ((Int8.ofInt n').toInt32 = Int32.ofInt n ∧ len = 2)
    | .sipush n' => decide ((Int16.ofInt n').toInt32 = Int32.ofInt n ∧ len = 3)
    | .ldc x => decide (len = 2) && zl_I.any (fun q => decide (q.1 = hO k ∧ q.2.1 = x ∧ q.2.2.1 = n))
    | .ldc_w x => decide (len = 3) && zl_I.any (fun q => decide (q.1 = hO k ∧ q.2.1 = x ∧ q.2.2.1 = n))
    | _ => false
  | .sipush n => match r with
    | .lconst f => decide (Int64.ofNat (f : Nat) = Int64.ofInt n ∧ len = 1)
    | .ldc2_w x => decide (len = 3) && zl_J.any (fun q => decide (q.1 = hO k ∧ q.2.1 = x ∧ q.2.2.1 = n))
    | _ => false
  | .iload j => match r with
    | .iload j' => decide (j' = j ∧ len = 2)
    | .iload_n f => decide ((f : Nat) = j ∧ len = 1)
    | _ => false
  | .lload j => match r with
    | .lload j' => decide (j' = j ∧ len = 2)
    | .lload_n f => decide ((f : Nat) = j ∧ len = 1)
    | _ => false
  | .aload j => match r with
    | .aload j' => decide (j' = j ∧ len = 2)
    | .aload_n f => decide ((f : Nat) = j ∧ len = 1)
    | _ => false
  | .istore j => match r with
    | .istore j' => decide (j' = j ∧ len = 2 ∧ j + 0 < hL k)
    | .istore_n f => decide ((f : Nat) = j ∧ len = 1 ∧ j + 0 < hL k)
    | _ => false
  | .lstore j => match r with
    | .lstore j' => decide (j' = j ∧ len = 2 ∧ j + 1 < hL k)
    | .lstore_n f => decide ((f : Nat) = j ∧ len = 1 ∧ j + 1 < hL k)
    | _ => false
  | .astore j => match r with
    | .astore j' => decide (j' = j ∧ len = 2 ∧ j + 0 < hL k)
    | .astore_n f => decide ((f : Nat) = j ∧ len = 1 ∧ j + 0 < hL k)
    | _ => false
  | .iinc j n => decide (r = .iinc j n ∧ len = 3 ∧ j < hL k)
  | .goto t => match r with
    | .goto off => decide ((pc : Int) + off = t ∧ 0 ≤ t ∧ len = 3)
    | _ => false
  | .ifCond c t => match r with
    | .ifCond c' off => decide (c' = c ∧ (pc : Int) + off = t ∧ 0 ≤ t ∧ len = 3)
    | _ => false
  | .if_icmp c t => match r with
    | .if_icmp c' off => decide (c' = c ∧ (pc : Int) + off = t ∧ 0 ≤ t ∧ len = 3)
    | _ => false
  | .lookupswitch d ps => match r with
    | .lookupswitch d' ps' => decide ((ps'.toList.zip (ps'.toList.drop 1)).all (fun (a, next) => a.1 < next.1) = true ∧ ps.toList = ps'.toList.map (fun q => (q.1, (pc : Int) + q.2)) ∧ (pc : Int) + d' = d ∧ 0 ≤ d ∧ (∀ q ∈ ps.toList, 0 ≤ q.2 ∧ (Int32.ofInt q.1).toInt = q.1))
    | .tableswitch d' lo hi offs => decide (ps.toList = offs.toList.mapIdx (fun j t => (lo + (j : Int), (pc : Int) + t)) ∧ hi = lo + (offs.toList.length : Int) - 1 ∧ (pc : Int) + d' = d ∧ 0 ≤ d ∧ (∀ q ∈ ps.toList, 0 ≤ q.2 ∧ (Int32.ofInt q.1).toInt = q.1))
    | _ => false
  | .getfield n => match r with
    | .getfield x => decide (len = 3) && zl_F.any (fun q => decide (q.1 = hO k ∧ q.2.1 = x ∧ q.2.2.1 = n / 64 ∧ q.2.2.2.1 = n % 64))
    | _ => false
  | .putfield n => match r with
    | .putfield x => decide (len = 3) && zl_F.any (fun q => decide (q.1 = hO k ∧ q.2.1 = x ∧ q.2.2.1 = n / 64 ∧ q.2.2.2.1 = n % 64)) && decide (((zl_Fc (n / 64)).2.1 (n % 64)).2.2.2 = false ∧ parseFieldDescriptor ((zl_Fc (n / 64)).2.1 (n % 64)).2.2.1 = some (if zs_isZ (n / 64) (n % 64) = true then .boolean else .int))
    | _ => false
  | .getstatic _ => decide (r = .getstatic 118 ∧ len = 3 ∧ hO k = 4)
  | .invokedynamic _ => match r with
    | .invokestatic x => decide (len = 3 ∧ 1 ≤ hF k ∧ 8 + (nativeFrameWords "java/lang/System" "arraycopy" 5 + 11) ≤ hW k) && zl_A.any (fun q => decide (q.1 = hO k ∧ q.2.1 = x))
    | _ => false
  | .invokeinterface j w => match r with
    | .invokestatic x => decide (len = 3 ∧ w / 16 = 0 ∧ hS j = true ∧ w % 16 = hN j ∧ hF j + 1 ≤ hF k ∧ 8 + (hL j + 11) + hW j ≤ hW k) && zl_M.any (fun q => decide (q.1 = hO k ∧ q.2.1 = x ∧ q.2.2.1 = j))
    | .invokevirtual x => decide (len = 3 ∧ w / 16 = hO j + 1 ∧ hO j < 6 ∧ hS j = false ∧ w % 16 = hN j ∧ 0 < hN j ∧ hF j + 1 ≤ hF k ∧ 8 + (hL j + 11) + hW j ≤ hW k) && zl_M.any (fun q => decide (q.1 = hO k ∧ q.2.1 = x ∧ q.2.2.1 = j))
    | _ => false
  | .dmul => decide (r = .invokestatic 100 ∧ len = 3 ∧ hO k = 4 ∧ hF 7 + 1 ≤ hF k ∧ 8 + (hL 7 + 11) + hW 7 ≤ hW k)
  | .dadd => match r with
    | .invokestatic x => decide (len = 3 ∧ 1 ≤ hF k ∧ 21 ≤ hW k) && zl_X.any (fun q => decide (q.1 = hO k ∧ q.2.1 = x ∧ q.2.2.1 = 0))
    | _ => false
  | .dsub => match r with
    | .invokestatic x => decide (len = 3 ∧ 1 ≤ hF k ∧ 21 ≤ hW k) && zl_X.any (fun q => decide (q.1 = hO k ∧ q.2.1 = x ∧ q.2.2.1 = 1))
    | _ => false
  | .ireturn => decide (r = .ireturn ∧ hR k = some .int ∧ len = 1)
  | .freturn => decide (r = .ireturn ∧ hR k = some .boolean ∧ len = 1)
  | .lreturn => decide (r = .lreturn ∧ hR k = some .long ∧ len = 1)
  | .areturn => decide (r = .areturn ∧ hR k = some (.object "FoolVotes$Text") ∧ len = 1)
  | .return_ => decide (r = .return_ ∧ hR k = none ∧ len = 1)
  | i => decide (r = i ∧ len = 1)
def zchR (k pc : Nat) (i : Instr) : Option Nat := match decode (hB k) pc with
  | .ok (r, len) => if zmt k pc i r len = true then some (pc + len) else none
  | _ => none
def zch (k pc : Nat) (i : Instr) : Option Nat := match i with
  | .ret _ => some pc
  | .jsr t => if t = (pc : Int) then some pc else none
  | i => zchR k pc i
theorem zchR_s {k pc : Nat} {i : Instr} {q : Nat} (h : zchR k pc i = some q) : ∃ r len, decode (hB k) pc = .ok (r, len) ∧ zmt k pc i r len = true ∧ q = pc + len := by
  unfold zchR at h
  split at h
  · rename_i r len hd
    split at h
    · rename_i hm
      exact ⟨r, len, hd, hm, (Option.some.inj h).symm⟩
    · cases h
  · cases h
end
section
/-! THE REAL MACHINE FOLLOWS A STEP -/
def zl_ps (X : zX) (L : List (Option Value)) : List (Nat × Value) := (List.range L.length).filterMap (fun j => match L[j]? with
  | some (some v) => some (j, zv X v)
  | _ => none)
theorem zl_ps_mem {X : zX} {L : List (Option Value)} {j : Nat} {w : Value} (h : L[j]? = some (some w)) : (j, zv X w) ∈ zl_ps X L := by
  refine List.mem_filterMap.mpr ⟨j, List.mem_range.mpr (List.getElem?_eq_some_iff.mp h).1, ?_⟩
  rw [h]
theorem zl_ps_has {X : zX} {ls : Array Slot} {nL : Nat} {L : List (Option Value)} (h : zL X ls nL L) : lv_has ls nL (zl_ps X L) := by
  refine ⟨h.1, h.2.1, fun q hq => ?_⟩
  obtain ⟨j, -, hj⟩ := List.mem_filterMap.mp hq
  split at hj
  · rename_i v hv
    cases hj
    exact h.2.2 j v hv
  · cases hj
theorem zl_clr_s {L : List (Option Value)} {i j : Nat} {w : Value} (h : (zl_clr L i)[j]? = some (some w)) : L[j]? = some (some w) ∧ ¬ (j = i ∧ w.category = 2) := by
  unfold zl_clr at h
  split at h
  · rename_i u hu
    split at h
    · rename_i hc
      by_cases hj : i = j
      · subst hj
        rw [List.getElem?_set_self (List.getElem?_eq_some_iff.mp hu).1] at h
        cases h
      · rw [List.getElem?_set_ne hj] at h
        exact ⟨h, fun q => hj q.1.symm⟩
    · rename_i hc
      refine ⟨h, fun q => hc ?_⟩
      obtain ⟨rfl, hw⟩ := q
      rw [hu] at h
      cases h
      exact hw
  · rename_i hn
    refine ⟨h, fun q => ?_⟩
    obtain ⟨rfl, hw⟩ := q
    exact hn w h
theorem zl_set_s {L : List (Option Value)} {i j : Nat} {v w : Value} (h : (zl_set L i v)[j]? = some (some w)) : (j = i ∧ w = v) ∨ (j ≠ i ∧ L[j]? = some (some w) ∧ ¬ (j + 1 = i ∧ w.category = 2)) := by
  cases i with
  | zero =>
    by_cases hj : 0 = j
    · subst hj
      have hl : 0 < L.length := by
        have := (List.getElem?_eq_some_iff.mp h).1
        simpa [zl_set] using this
      rw [zl_set, List.getElem?_set_self hl] at h
      cases h
      exact Or.inl ⟨rfl, rfl⟩
    · rw [zl_set, List.getElem?_set_ne hj] at h
      exact Or.inr ⟨fun q => hj q.symm, h, fun q => by omega⟩
  | succ i =>
    by_cases hj : i + 1 = j
    · subst hj
      have hl : i + 1 < (zl_clr L i).length := by
        have := (List.getElem?_eq_some_iff.mp h).1
        simpa [zl_set] using this
      rw [zl_set, List.getElem?_set_self hl] at h
      cases h
      exact Or.inl ⟨rfl, rfl⟩
    · rw [zl_set, List.getElem?_set_ne hj] at h
      obtain ⟨h1, h2⟩ := zl_clr_s h
      exact Or.inr ⟨fun q => hj q.symm, h1, fun q => h2 ⟨by omega, q.2⟩⟩
theorem zl_has1 {X : zX} {ls : Array Slot} {nL i : Nat} {L : List (Option Value)} {v : Value} (h : lv_has ls nL ((i, zv X v) :: (zl_ps X L).filter (fun q => !(q.1 == i) && !(q.1 + 1 == i && q.2.category == 2)))) : zL X ls nL (zl_set L i v) := by
  refine ⟨h.1, h.2.1, fun j w hj => ?_⟩
  rcases zl_set_s hj with ⟨rfl, rfl⟩ | ⟨h1, h2, h3⟩
  · exact h.2.2 _ List.mem_cons_self
  · refine h.2.2 (j, zv X w) (List.mem_cons_of_mem _ (List.mem_filter.mpr ⟨zl_ps_mem h2, ?_⟩))
    simp only [zv_cat, Bool.and_eq_true, Bool.not_eq_true', beq_eq_false_iff_ne, ne_eq, Bool.and_eq_false_imp, beq_iff_eq]
    exact ⟨h1, fun q r => h3 ⟨q, r⟩⟩
theorem zl_has2 {X : zX} {ls : Array Slot} {nL i : Nat} {L : List (Option Value)} {v : Value} (h : lv_has ls nL ((i, zv X v) :: (zl_ps X L).filter (fun q => !(q.1 == i) && (!(q.1 == i + 1) && !(q.1 + 1 == i && q.2.category == 2))))) : zL X ls nL (zl_set2 L i v) := by
  refine ⟨h.1, h.2.1, fun j w hj => ?_⟩
  have hne : i + 1 ≠ j := by
    intro q
    subst q
    unfold zl_set2 at hj
    have hl := (List.getElem?_eq_some_iff.mp hj).1
    rw [List.getElem?_set_self (by simpa using hl)] at hj
    cases hj
  rw [zl_set2, List.getElem?_set_ne hne] at hj
  rcases zl_set_s hj with ⟨rfl, rfl⟩ | ⟨h1, h2, h3⟩
  · exact h.2.2 _ List.mem_cons_self
  · refine h.2.2 (j, zv X w) (List.mem_cons_of_mem _ (List.mem_filter.mpr ⟨zl_ps_mem h2, ?_⟩))
    simp only [zv_cat, Bool.and_eq_true, Bool.not_eq_true', beq_eq_false_iff_ne, ne_eq, Bool.and_eq_false_imp, beq_iff_eq]
    exact ⟨h1, fun q => hne q.symm, fun q r => h3 ⟨q, r⟩⟩
theorem zl_forget {X : zX} {ls : Array Slot} {nL i : Nat} {L : List (Option Value)} (h : zL X ls nL L) : zL X ls nL (L.set i none) := by
  refine ⟨h.1, h.2.1, fun j w hj => h.2.2 j w ?_⟩
  by_cases hi : i = j
  · subst hi
    have hl := (List.getElem?_eq_some_iff.mp hj).1
    rw [List.getElem?_set_self (by simpa using hl)] at hj
    cases hj
  · rw [List.getElem?_set_ne hi] at hj
    exact hj
theorem zI_all : ∀ c, c < 6 → ∀ w ∈ u_ws (zl_Fc c).1 (zl_Fc c).2.1 (zl_Fc c).2.2, w ∈ zt_G
  | 0, _ => zI_Fv
  | 1, _ => zI_Ca
  | 2, _ => zI_Sh
  | 3, _ => zI_Te
  | 4, _ => zI_Vo
  | 5, _ => zI_Mo
  | c + 6, h => absurd h (by omega)
def zy_c (c : Nat) : Nat → FieldType := match c with
  | 0 => zy_Fv
  | 1 => zy_Ca
  | 2 => zy_Sh
  | 3 => zy_Te
  | 4 => zy_Vo
  | _ => zy_Mo
theorem zY_all : ∀ c, c < 6 → ∀ k, k < (zl_Fc c).2.2 → parseFieldDescriptor ((zl_Fc c).2.1 k).2.2.1 = some (zy_c c k)
  | 0, _ => zY_Fv
  | 1, _ => zY_Ca
  | 2, _ => zY_Sh
  | 3, _ => zY_Te
  | 4, _ => zY_Vo
  | 5, _ => zY_Mo
  | c + 6, h => absurd h (by omega)
theorem zN_all : ∀ c, c < 6 → ∀ a, a < (zl_Fc c).2.2 → ∀ b, b < (zl_Fc c).2.2 → a ≠ b → ((zl_Fc c).2.1 a).2.1 ≠ ((zl_Fc c).2.1 b).2.1
  | 0, _ => zN_Fv
  | 1, _ => zN_Ca
  | 2, _ => zN_Sh
  | 3, _ => zN_Te
  | 4, _ => zN_Vo
  | 5, _ => zN_Mo
  | c + 6, h => absurd h (by omega)
theorem zc_at : ∀ c, c < 6 → zc_cl[c]? = some ((zl_Fc c).1, (zl_Fc c).2.1, (zl_Fc c).2.2)
  | 0, _ => rfl
  | 1, _ => rfl
  | 2, _ => rfl
  | 3, _ => rfl
  | 4, _ => rfl
  | 5, _ => rfl
  | c + 6, h => absurd h (by omega)
theorem zn_at : ∀ c, c < 6 → (zl_Fc c).1 = zn_c c
  | 0, _ => rfl
  | 1, _ => rfl
  | 2, _ => rfl
  | 3, _ => rfl
  | 4, _ => rfl
  | 5, _ => rfl
  | c + 6, h => absurd h (by omega)
theorem zG_before {k : Nat} {args : Array Value} {s : State} (h : ∀ w ∈ zws k, w.before args s = true) {w : Cond} (hw : w ∈ zt_G) : w.before args s = true := h w (List.mem_cons_of_mem _ hw)
theorem zG_good (k j : Nat) : GoodIn (zws k) (zws j) := by
  intro w hw
  have hg : w ∈ zt_G := by
    rcases List.mem_cons.mp hw with rfl | h
    · exact (zh_fact j).1
    · exact h
  exact ⟨List.mem_cons_of_mem _ hg, zt_good w hg⟩
theorem zG_in {k : Nat} {w : Cond} (h : w ∈ zt_G) : w ∈ zws k ∧ ((w.onTables && w.keeps) = true ∨ ∃ ty, w = .arrayClass ty) := ⟨List.mem_cons_of_mem _ h, zt_good w h⟩
section ST
variable {X : zX} {k pc : Nat} {L : List (Option Value)} {S : List Value} {M M' : zM} {res : List Value}
theorem st_iadd {x y : Int32} (hd : decode (hB k) pc = .ok (.iadd, 1)) (h : At X k (pc + 1) L (.int (x + y) :: S) M res M') : At X k pc L (.int y :: .int x :: S) M res M' := by
  intro p e s m args below meth c H locs ls hz hP hS hL
  exact lv_iadd hz.1 hz.2.1 hd (h p e s m args below meth c H locs ls hz hP hS hL)
theorem st_isub {x y : Int32} (hd : decode (hB k) pc = .ok (.isub, 1)) (h : At X k (pc + 1) L (.int (x - y) :: S) M res M') : At X k pc L (.int y :: .int x :: S) M res M' := by
  intro p e s m args below meth c H locs ls hz hP hS hL
  exact lv_isub hz.1 hz.2.1 hd (h p e s m args below meth c H locs ls hz hP hS hL)
theorem st_imul {x y : Int32} (hd : decode (hB k) pc = .ok (.imul, 1)) (h : At X k (pc + 1) L (.int (x * y) :: S) M res M') : At X k pc L (.int y :: .int x :: S) M res M' := by
  intro p e s m args below meth c H locs ls hz hP hS hL
  exact lv_imul hz.1 hz.2.1 hd (h p e s m args below meth c H locs ls hz hP hS hL)
theorem st_iand {x y : Int32} (hd : decode (hB k) pc = .ok (.iand, 1)) (h : At X k (pc + 1) L (.int (x &&& y) :: S) M res M') : At X k pc L (.int y :: .int x :: S) M res M' := by
  intro p e s m args below meth c H locs ls hz hP hS hL
  exact lv_iand hz.1 hz.2.1 hd (h p e s m args below meth c H locs ls hz hP hS hL)
theorem st_ior {x y : Int32} (hd : decode (hB k) pc = .ok (.ior, 1)) (h : At X k (pc + 1) L (.int (x ||| y) :: S) M res M') : At X k pc L (.int y :: .int x :: S) M res M' := by
  intro p e s m args below meth c H locs ls hz hP hS hL
  exact lv_ior hz.1 hz.2.1 hd (h p e s m args below meth c H locs ls hz hP hS hL)
theorem st_ixor {x y : Int32} (hd : decode (hB k) pc = .ok (.ixor, 1)) (h : At X k (pc + 1) L (.int (x ^^^ y) :: S) M res M') : At X k pc L (.int y :: .int x :: S) M res M' := by
  intro p e s m args below meth c H locs ls hz hP hS hL
  exact lv_ixor hz.1 hz.2.1 hd (h p e s m args below meth c H locs ls hz hP hS hL)
theorem st_ishl {x y : Int32} (hd : decode (hB k) pc = .ok (.ishl, 1)) (h : At X k (pc + 1) L (.int (x <<< (y &&& 31)) :: S) M res M') : At X k pc L (.int y :: .int x :: S) M res M' := by
  intro p e s m args below meth c H locs ls hz hP hS hL
  exact lv_ishl hz.1 hz.2.1 hd (h p e s m args below meth c H locs ls hz hP hS hL)
theorem st_ishr {x y : Int32} (hd : decode (hB k) pc = .ok (.ishr, 1)) (h : At X k (pc + 1) L (.int (x >>> (y &&& 31)) :: S) M res M') : At X k pc L (.int y :: .int x :: S) M res M' := by
  intro p e s m args below meth c H locs ls hz hP hS hL
  exact lv_ishr hz.1 hz.2.1 hd (h p e s m args below meth c H locs ls hz hP hS hL)
theorem st_iushr {x y : Int32} (hd : decode (hB k) pc = .ok (.iushr, 1)) (h : At X k (pc + 1) L (.int ((x.toUInt32 >>> (y.toUInt32 &&& Int32.toUInt32 31)).toInt32) :: S) M res M') : At X k pc L (.int y :: .int x :: S) M res M' := by
  intro p e s m args below meth c H locs ls hz hP hS hL
  exact lv_iushr hz.1 hz.2.1 hd rfl (h p e s m args below meth c H locs ls hz hP hS hL)
theorem st_idiv {x y : Int32} (hd : decode (hB k) pc = .ok (.idiv, 1)) (hne : ¬ y = 0) (h : At X k (pc + 1) L (.int (x / y) :: S) M res M') : At X k pc L (.int y :: .int x :: S) M res M' := by
  intro p e s m args below meth c H locs ls hz hP hS hL
  exact lv_idiv hz.1 hz.2.1 hd hne (h p e s m args below meth c H locs ls hz hP hS hL)
theorem st_irem {x y : Int32} (hd : decode (hB k) pc = .ok (.irem, 1)) (hne : ¬ y = 0) (h : At X k (pc + 1) L (.int (x - x / y * y) :: S) M res M') : At X k pc L (.int y :: .int x :: S) M res M' := by
  intro p e s m args below meth c H locs ls hz hP hS hL
  exact lv_irem hz.1 hz.2.1 hd hne (h p e s m args below meth c H locs ls hz hP hS hL)
theorem st_ladd {x y : Int64} (hd : decode (hB k) pc = .ok (.ladd, 1)) (h : At X k (pc + 1) L (.long (x + y) :: S) M res M') : At X k pc L (.long y :: .long x :: S) M res M' := by
  intro p e s m args below meth c H locs ls hz hP hS hL
  exact lv_ladd hz.1 hz.2.1 hd (h p e s m args below meth c H locs ls hz hP hS hL)
theorem st_lsub {x y : Int64} (hd : decode (hB k) pc = .ok (.lsub, 1)) (h : At X k (pc + 1) L (.long (x - y) :: S) M res M') : At X k pc L (.long y :: .long x :: S) M res M' := by
  intro p e s m args below meth c H locs ls hz hP hS hL
  exact lv_lsub hz.1 hz.2.1 hd (h p e s m args below meth c H locs ls hz hP hS hL)
theorem st_lmul {x y : Int64} (hd : decode (hB k) pc = .ok (.lmul, 1)) (h : At X k (pc + 1) L (.long (x * y) :: S) M res M') : At X k pc L (.long y :: .long x :: S) M res M' := by
  intro p e s m args below meth c H locs ls hz hP hS hL
  exact lv_lmul hz.1 hz.2.1 hd (h p e s m args below meth c H locs ls hz hP hS hL)
theorem st_ldiv {x y : Int64} (hd : decode (hB k) pc = .ok (.ldiv, 1)) (hne : ¬ y = 0) (h : At X k (pc + 1) L (.long (x / y) :: S) M res M') : At X k pc L (.long y :: .long x :: S) M res M' := by
  intro p e s m args below meth c H locs ls hz hP hS hL
  exact lv_ldiv hz.1 hz.2.1 hd hne (h p e s m args below meth c H locs ls hz hP hS hL)
theorem st_lrem {x y : Int64} (hd : decode (hB k) pc = .ok (.lrem, 1)) (hne : ¬ y = 0) (h : At X k (pc + 1) L (.long (x - x / y * y) :: S) M res M') : At X k pc L (.long y :: .long x :: S) M res M' := by
  intro p e s m args below meth c H locs ls hz hP hS hL
  exact lv_lrem hz.1 hz.2.1 hd hne (h p e s m args below meth c H locs ls hz hP hS hL)
theorem st_lcmp {x y : Int64} (hd : decode (hB k) pc = .ok (.lcmp, 1)) (h : At X k (pc + 1) L (.int (lg_cmp x y) :: S) M res M') : At X k pc L (.long y :: .long x :: S) M res M' := by
  intro p e s m args below meth c H locs ls hz hP hS hL
  exact W.lcmp hz.1 hz.2.1 hd (h p e s m args below meth c H locs ls hz hP hS hL)
theorem st_lshl {x : Int64} {y : Int32} (hd : decode (hB k) pc = .ok (.lshl, 1)) (h : At X k (pc + 1) L (.long (x <<< (y.toInt64 &&& 63)) :: S) M res M') : At X k pc L (.int y :: .long x :: S) M res M' := by
  intro p e s m args below meth c H locs ls hz hP hS hL
  exact lv_lshl hz.1 hz.2.1 hd rfl (h p e s m args below meth c H locs ls hz hP hS hL)
theorem st_ineg {x : Int32} (hd : decode (hB k) pc = .ok (.ineg, 1)) (h : At X k (pc + 1) L (.int (-x) :: S) M res M') : At X k pc L (.int x :: S) M res M' := by
  intro p e s m args below meth c H locs ls hz hP hS hL
  exact lv_ineg hz.1 hz.2.1 hd (h p e s m args below meth c H locs ls hz hP hS hL)
theorem st_i2l {x : Int32} (hd : decode (hB k) pc = .ok (.i2l, 1)) (h : At X k (pc + 1) L (.long x.toInt64 :: S) M res M') : At X k pc L (.int x :: S) M res M' := by
  intro p e s m args below meth c H locs ls hz hP hS hL
  exact lv_i2l hz.1 hz.2.1 hd rfl (h p e s m args below meth c H locs ls hz hP hS hL)
theorem st_l2i {x : Int64} (hd : decode (hB k) pc = .ok (.l2i, 1)) (h : At X k (pc + 1) L (.int x.toInt32 :: S) M res M') : At X k pc L (.long x :: S) M res M' := by
  intro p e s m args below meth c H locs ls hz hP hS hL
  exact lv_l2i hz.1 hz.2.1 hd rfl (h p e s m args below meth c H locs ls hz hP hS hL)
theorem st_i2b {x : Int32} (hd : decode (hB k) pc = .ok (.i2b, 1)) (h : At X k (pc + 1) L (.int x.toInt8.toInt32 :: S) M res M') : At X k pc L (.int x :: S) M res M' := by
  intro p e s m args below meth c H locs ls hz hP hS hL
  exact lv_i2b hz.1 hz.2.1 hd rfl (h p e s m args below meth c H locs ls hz hP hS hL)
theorem st_i2s {x : Int32} (hd : decode (hB k) pc = .ok (.i2s, 1)) (h : At X k (pc + 1) L (.int x.toInt16.toInt32 :: S) M res M') : At X k pc L (.int x :: S) M res M' := by
  intro p e s m args below meth c H locs ls hz hP hS hL
  exact lv_i2s hz.1 hz.2.1 hd rfl (h p e s m args below meth c H locs ls hz hP hS hL)
theorem st_iconst {n : Int} {v : Int32} (hd : decode (hB k) pc = .ok (.iconst n, 1)) (hv : Int32.ofInt n = v) (h : At X k (pc + 1) L (.int v :: S) M res M') : At X k pc L (S) M res M' := by
  intro p e s m args below meth c H locs ls hz hP hS hL
  exact lv_iconst hz.1 hz.2.1 hd hv (h p e s m args below meth c H locs ls hz hP hS hL)
theorem st_bipush {n : Int} {v : Int32} (hd : decode (hB k) pc = .ok (.bipush n, 2)) (hv : (Int8.ofInt n).toInt32 = v) (h : At X k (pc + 2) L (.int v :: S) M res M') : At X k pc L (S) M res M' := by
  intro p e s m args below meth c H locs ls hz hP hS hL
  exact lv_bipush hz.1 hz.2.1 hd hv (h p e s m args below meth c H locs ls hz hP hS hL)
theorem st_sipush {n : Int} {v : Int32} (hd : decode (hB k) pc = .ok (.sipush n, 3)) (hv : (Int16.ofInt n).toInt32 = v) (h : At X k (pc + 3) L (.int v :: S) M res M') : At X k pc L (S) M res M' := by
  intro p e s m args below meth c H locs ls hz hP hS hL
  exact lv_sipush hz.1 hz.2.1 hd hv (h p e s m args below meth c H locs ls hz hP hS hL)
theorem st_lconst {n : Fin 2} {v : Int64} (hd : decode (hB k) pc = .ok (.lconst n, 1)) (hv : Int64.ofNat (n : Nat) = v) (h : At X k (pc + 1) L (.long v :: S) M res M') : At X k pc L (S) M res M' := by
  intro p e s m args below meth c H locs ls hz hP hS hL
  exact lv_lconst hz.1 hz.2.1 hd hv (h p e s m args below meth c H locs ls hz hP hS hL)
theorem st_iload {j : Nat} {x : Int32} (hd : decode (hB k) pc = .ok (.iload j, 2)) (hj : L[j]? = some (some (.int x))) (h : At X k (pc + 2) L (.int x :: S) M res M') : At X k pc L (S) M res M' := by
  intro p e s m args below meth c H locs ls hz hP hS hL
  exact lv_iload hz.1 hz.2.1 hd (hL.2.2 j _ hj) (h p e s m args below meth c H locs ls hz hP hS hL)
theorem st_iload_n {f : Fin 4} {j : Nat} {x : Int32} (hd : decode (hB k) pc = .ok (.iload_n f, 1)) (hf : (f : Nat) = j) (hj : L[j]? = some (some (.int x))) (h : At X k (pc + 1) L (.int x :: S) M res M') : At X k pc L (S) M res M' := by
  intro p e s m args below meth c H locs ls hz hP hS hL
  exact lv_iload_n hz.1 hz.2.1 hd hf (hL.2.2 j _ hj) (h p e s m args below meth c H locs ls hz hP hS hL)
theorem st_lload {j : Nat} {x : Int64} (hd : decode (hB k) pc = .ok (.lload j, 2)) (hj : L[j]? = some (some (.long x))) (h : At X k (pc + 2) L (.long x :: S) M res M') : At X k pc L (S) M res M' := by
  intro p e s m args below meth c H locs ls hz hP hS hL
  exact lv_lload hz.1 hz.2.1 hd (hL.2.2 j _ hj) (h p e s m args below meth c H locs ls hz hP hS hL)
theorem st_lload_n {f : Fin 4} {j : Nat} {x : Int64} (hd : decode (hB k) pc = .ok (.lload_n f, 1)) (hf : (f : Nat) = j) (hj : L[j]? = some (some (.long x))) (h : At X k (pc + 1) L (.long x :: S) M res M') : At X k pc L (S) M res M' := by
  intro p e s m args below meth c H locs ls hz hP hS hL
  exact lv_lload_n hz.1 hz.2.1 hd hf (hL.2.2 j _ hj) (h p e s m args below meth c H locs ls hz hP hS hL)
theorem st_aload {j : Nat} {x : Nat} (hd : decode (hB k) pc = .ok (.aload j, 2)) (hj : L[j]? = some (some (.ref x))) (h : At X k (pc + 2) L (.ref x :: S) M res M') : At X k pc L (S) M res M' := by
  intro p e s m args below meth c H locs ls hz hP hS hL
  exact lv_aload hz.1 hz.2.1 hd (hL.2.2 j _ hj) (h p e s m args below meth c H locs ls hz hP hS hL)
theorem st_aload_n {f : Fin 4} {j : Nat} {x : Nat} (hd : decode (hB k) pc = .ok (.aload_n f, 1)) (hf : (f : Nat) = j) (hj : L[j]? = some (some (.ref x))) (h : At X k (pc + 1) L (.ref x :: S) M res M') : At X k pc L (S) M res M' := by
  intro p e s m args below meth c H locs ls hz hP hS hL
  exact lv_aload_n hz.1 hz.2.1 hd hf (hL.2.2 j _ hj) (h p e s m args below meth c H locs ls hz hP hS hL)
theorem st_istore {j : Nat} {x : Int32} (hd : decode (hB k) pc = .ok (.istore j, 2)) (hj : j + 0 < hL k) (h : At X k (pc + 2) (zl_set L j (.int x)) S M res M') : At X k pc L (.int x :: S) M res M' := by
  intro p e s m args below meth c H locs ls hz hP hS hL
  exact lv_istore hz.1 hz.2.1 hd (zl_ps_has hL) hj rfl (fun ls' hl => h p e s m args below meth c H locs ls' hz hP hS (zl_has1 (v := .int x) hl))
theorem st_istore_n {f : Fin 4} {j : Nat} {x : Int32} (hd : decode (hB k) pc = .ok (.istore_n f, 1)) (hf : (f : Nat) = j) (hj : j + 0 < hL k) (h : At X k (pc + 1) (zl_set L j (.int x)) S M res M') : At X k pc L (.int x :: S) M res M' := by
  intro p e s m args below meth c H locs ls hz hP hS hL
  exact lv_istore_n hz.1 hz.2.1 hd hf (zl_ps_has hL) hj rfl (fun ls' hl => h p e s m args below meth c H locs ls' hz hP hS (zl_has1 (v := .int x) hl))
theorem st_lstore {j : Nat} {x : Int64} (hd : decode (hB k) pc = .ok (.lstore j, 2)) (hj : j + 1 < hL k) (h : At X k (pc + 2) (zl_set2 L j (.long x)) S M res M') : At X k pc L (.long x :: S) M res M' := by
  intro p e s m args below meth c H locs ls hz hP hS hL
  exact lv_lstore hz.1 hz.2.1 hd (zl_ps_has hL) hj rfl (fun ls' hl => h p e s m args below meth c H locs ls' hz hP hS (zl_has2 (v := .long x) hl))
theorem st_lstore_n {f : Fin 4} {j : Nat} {x : Int64} (hd : decode (hB k) pc = .ok (.lstore_n f, 1)) (hf : (f : Nat) = j) (hj : j + 1 < hL k) (h : At X k (pc + 1) (zl_set2 L j (.long x)) S M res M') : At X k pc L (.long x :: S) M res M' := by
  intro p e s m args below meth c H locs ls hz hP hS hL
  exact lv_lstore_n hz.1 hz.2.1 hd hf (zl_ps_has hL) hj rfl (fun ls' hl => h p e s m args below meth c H locs ls' hz hP hS (zl_has2 (v := .long x) hl))
theorem st_astore {j : Nat} {x : Nat} (hd : decode (hB k) pc = .ok (.astore j, 2)) (hj : j + 0 < hL k) (h : At X k (pc + 2) (zl_set L j (.ref x)) S M res M') : At X k pc L (.ref x :: S) M res M' := by
  intro p e s m args below meth c H locs ls hz hP hS hL
  exact lv_astore hz.1 hz.2.1 hd (zl_ps_has hL) hj rfl (fun ls' hl => h p e s m args below meth c H locs ls' hz hP hS (zl_has1 (v := .ref x) hl))
theorem st_astore_n {f : Fin 4} {j : Nat} {x : Nat} (hd : decode (hB k) pc = .ok (.astore_n f, 1)) (hf : (f : Nat) = j) (hj : j + 0 < hL k) (h : At X k (pc + 1) (zl_set L j (.ref x)) S M res M') : At X k pc L (.ref x :: S) M res M' := by
  intro p e s m args below meth c H locs ls hz hP hS hL
  exact lv_astore_n hz.1 hz.2.1 hd hf (zl_ps_has hL) hj rfl (fun ls' hl => h p e s m args below meth c H locs ls' hz hP hS (zl_has1 (v := .ref x) hl))
theorem st_iinc {j : Nat} {n : Int} {x : Int32} (hd : decode (hB k) pc = .ok (.iinc j n, 3)) (hx : L[j]? = some (some (.int x))) (hj : j < hL k) (h : At X k (pc + 3) (zl_set L j (.int (x + Int32.ofInt n))) S M res M') : At X k pc L S M res M' := by
  intro p e s m args below meth c H locs ls hz hP hS hL
  obtain ⟨q, hq⟩ := List.getElem?_of_mem (zl_ps_mem (X := X) hx)
  exact lv_iinc (k := q) hz.1 hz.2.1 hd (zl_ps_has hL) hq rfl hj rfl (fun ls' hl => h p e s m args below meth c H locs ls' hz hP hS (zl_has1 (v := .int (x + Int32.ofInt n)) hl))
theorem st_dup {v : Value} (hd : decode (hB k) pc = .ok (.dup, 1)) (hv : v.category = 1) (h : At X k (pc + 1) L (v :: v :: S) M res M') : At X k pc L (v :: S) M res M' := by
  intro p e s m args below meth c H locs ls hz hP hS hL
  exact lv_dup hz.1 hz.2.1 hd ((zv_cat X v).trans hv) (h p e s m args below meth c H locs ls hz hP hS hL)
theorem st_pop {v : Value} (hd : decode (hB k) pc = .ok (.pop, 1)) (hv : v.category = 1) (h : At X k (pc + 1) L (S) M res M') : At X k pc L (v :: S) M res M' := by
  intro p e s m args below meth c H locs ls hz hP hS hL
  exact lv_pop hz.1 hz.2.1 hd ((zv_cat X v).trans hv) (h p e s m args below meth c H locs ls hz hP hS hL)
theorem st_dup2 {v w : Value} (hd : decode (hB k) pc = .ok (.dup2, 1)) (hv : v.category = 1) (hw : w.category = 1) (h : At X k (pc + 1) L (v :: w :: v :: w :: S) M res M') : At X k pc L (v :: w :: S) M res M' := by
  intro p e s m args below meth c H locs ls hz hP hS hL
  exact lv_dup2_11 hz.1 hz.2.1 hd ((zv_cat X v).trans hv) ((zv_cat X w).trans hw) (h p e s m args below meth c H locs ls hz hP hS hL)
theorem st_goto {off : Int} {t : Nat} (hd : decode (hB k) pc = .ok (.goto off, 3)) (ht : (pc : Int) + off = (t : Int)) (h : At X k t L S M res M') : At X k pc L S M res M' := by
  intro p e s m args below meth c H locs ls hz hP hS hL
  exact lv_goto hz.1 hz.2.1 hd ht (h p e s m args below meth c H locs ls hz hP hS hL)
theorem st_if {c' : Jvm.ClassFile.Cond} {off : Int} {t : Nat} {x : Int32} (hd : decode (hB k) pc = .ok (.ifCond c' off, 3)) (ht : (pc : Int) + off = (t : Int)) {P Q : Prop} (hP1 : P → At X k t L S M res M') (hQ1 : Q → At X k (pc + 3) L S M res M') (h : zc0 c' x P Q) : At X k pc L (.int x :: S) M res M' := by
  intro p e s m args below meth c H locs ls hz hP hS hL
  cases c'
  · exact lv_if_eq hz.1 hz.2.1 hd ht (fun q => hP1 (h.1 q) p e s m args below meth c H locs ls hz hP hS hL) (fun q => hQ1 (h.2 q) p e s m args below meth c H locs ls hz hP hS hL)
  · exact lv_if_ne hz.1 hz.2.1 hd ht (fun q => hP1 (h.1 q) p e s m args below meth c H locs ls hz hP hS hL) (fun q => hQ1 (h.2 q) p e s m args below meth c H locs ls hz hP hS hL)
  · exact lv_if_lt hz.1 hz.2.1 hd ht (fun q => hP1 (h.1 q) p e s m args below meth c H locs ls hz hP hS hL) (fun q => hQ1 (h.2 q) p e s m args below meth c H locs ls hz hP hS hL)
  · exact lv_if_ge hz.1 hz.2.1 hd ht (fun q => hP1 (h.1 q) p e s m args below meth c H locs ls hz hP hS hL) (fun q => hQ1 (h.2 q) p e s m args below meth c H locs ls hz hP hS hL)
  · exact lv_if_gt hz.1 hz.2.1 hd ht (fun q => hP1 (h.1 q) p e s m args below meth c H locs ls hz hP hS hL) (fun q => hQ1 (h.2 q) p e s m args below meth c H locs ls hz hP hS hL)
  · exact lv_if_le hz.1 hz.2.1 hd ht (fun q => hP1 (h.1 q) p e s m args below meth c H locs ls hz hP hS hL) (fun q => hQ1 (h.2 q) p e s m args below meth c H locs ls hz hP hS hL)
theorem st_icmp {c' : Jvm.ClassFile.Cond} {off : Int} {t : Nat} {x y : Int32} (hd : decode (hB k) pc = .ok (.if_icmp c' off, 3)) (ht : (pc : Int) + off = (t : Int)) {P Q : Prop} (hP1 : P → At X k t L S M res M') (hQ1 : Q → At X k (pc + 3) L S M res M') (h : zc1 c' x y P Q) : At X k pc L (.int y :: .int x :: S) M res M' := by
  intro p e s m args below meth c H locs ls hz hP hS hL
  cases c'
  · exact lv_icmp_eq hz.1 hz.2.1 hd ht (fun q => hP1 (h.1 q) p e s m args below meth c H locs ls hz hP hS hL) (fun q => hQ1 (h.2 q) p e s m args below meth c H locs ls hz hP hS hL)
  · exact lv_icmp_ne hz.1 hz.2.1 hd ht (fun q => hP1 (h.1 q) p e s m args below meth c H locs ls hz hP hS hL) (fun q => hQ1 (h.2 q) p e s m args below meth c H locs ls hz hP hS hL)
  · exact lv_icmp_lt hz.1 hz.2.1 hd ht (fun q => hP1 (h.1 q) p e s m args below meth c H locs ls hz hP hS hL) (fun q => hQ1 (h.2 q) p e s m args below meth c H locs ls hz hP hS hL)
  · exact lv_icmp_ge hz.1 hz.2.1 hd ht (fun q => hP1 (h.1 q) p e s m args below meth c H locs ls hz hP hS hL) (fun q => hQ1 (h.2 q) p e s m args below meth c H locs ls hz hP hS hL)
  · exact lv_icmp_gt hz.1 hz.2.1 hd ht (fun q => hP1 (h.1 q) p e s m args below meth c H locs ls hz hP hS hL) (fun q => hQ1 (h.2 q) p e s m args below meth c H locs ls hz hP hS hL)
  · exact lv_icmp_le hz.1 hz.2.1 hd ht (fun q => hP1 (h.1 q) p e s m args below meth c H locs ls hz hP hS hL) (fun q => hQ1 (h.2 q) p e s m args below meth c H locs ls hz hP hS hL)
theorem st_ldc {n : Int} {x : Nat} (hm : zl_I.any (fun q => decide (q.1 = hO k ∧ q.2.1 = x ∧ q.2.2.1 = n)) = true) (hd : decode (hB k) pc = .ok (.ldc x, 2)) (h : At X k (pc + 2) L (.int (Int32.ofInt n) :: S) M res M') : At X k pc L S M res M' := by
  intro p e s m args below meth c H locs ls hz hP hS hL
  obtain ⟨q, hq, hm⟩ := List.any_eq_true.mp hm
  obtain ⟨e1, e2, e3⟩ := of_decide_eq_true hm
  have h1 := zt_in _ (zl_Iok q hq) rfl
  rw [e1, e2, e3] at h1
  exact lv_ldc hz.1 hz.2.1 hz.2.2.2.2.2.1 (zG_before hz.2.2.2.2.2.2.1 h1) hd (h p e s m args below meth c H locs ls hz hP hS hL)
theorem st_ldcw {n : Int} {x : Nat} (hm : zl_I.any (fun q => decide (q.1 = hO k ∧ q.2.1 = x ∧ q.2.2.1 = n)) = true) (hd : decode (hB k) pc = .ok (.ldc_w x, 3)) (h : At X k (pc + 3) L (.int (Int32.ofInt n) :: S) M res M') : At X k pc L S M res M' := by
  intro p e s m args below meth c H locs ls hz hP hS hL
  obtain ⟨q, hq, hm⟩ := List.any_eq_true.mp hm
  obtain ⟨e1, e2, e3⟩ := of_decide_eq_true hm
  have h1 := zt_in _ (zl_Iok q hq) rfl
  rw [e1, e2, e3] at h1
  exact lv_ldcw hz.1 hz.2.1 hz.2.2.2.2.2.1 (zG_before hz.2.2.2.2.2.2.1 h1) hd (h p e s m args below meth c H locs ls hz hP hS hL)
theorem st_ldc2 {n : Int} {x : Nat} (hm : zl_J.any (fun q => decide (q.1 = hO k ∧ q.2.1 = x ∧ q.2.2.1 = n)) = true) (hd : decode (hB k) pc = .ok (.ldc2_w x, 3)) (h : At X k (pc + 3) L (.long (Int64.ofInt n) :: S) M res M') : At X k pc L S M res M' := by
  intro p e s m args below meth c H locs ls hz hP hS hL
  obtain ⟨q, hq, hm⟩ := List.any_eq_true.mp hm
  obtain ⟨e1, e2, e3⟩ := of_decide_eq_true hm
  have h1 := zt_in _ (zl_Jok q hq) rfl
  rw [e1, e2, e3] at h1
  exact lv_ldc2 hz.1 hz.2.1 hz.2.2.2.2.2.1 (zG_before hz.2.2.2.2.2.2.1 h1) hd (h p e s m args below meth c H locs ls hz hP hS hL)
end ST
end
section
section ST2
variable {X : zX} {k pc : Nat} {L : List (Option Value)} {S : List Value} {M M' : zM} {res : List Value}
theorem zl_Fs {n x : Nat} (hm : zl_F.any (fun q => decide (q.1 = hO k ∧ q.2.1 = x ∧ q.2.2.1 = n / 64 ∧ q.2.2.2.1 = n % 64)) = true) : Cond.fieldLink (zn_c (hO k)) x (zl_Fc (n / 64)).1 ((zl_Fc (n / 64)).2.1 (n % 64)).2.1 ((zl_Fc (n / 64)).2.1 (n % 64)).2.2.1 ∈ zt_G ∧ n % 64 < (zl_Fc (n / 64)).2.2 ∧ n / 64 < 6 ∧ ((zl_Fc (n / 64)).2.1 (n % 64)).1 = (zl_Fc (n / 64)).1 := by
  obtain ⟨q, hq, hm⟩ := List.any_eq_true.mp hm
  obtain ⟨e1, e2, e3, e4⟩ := of_decide_eq_true hm
  obtain ⟨h1, h2, h3, h4⟩ := zl_Fok q hq
  have h1 := zt_in _ h1 rfl
  rw [e1, e2, e3, e4] at h1
  rw [e3, e4] at h2 h4
  rw [e3] at h3
  exact ⟨h1, h2, h3, h4⟩
theorem st_getfield {n x r : Nat} {o : Nat × List (Option Nat)} {f : Option Nat} (hm : zl_F.any (fun q => decide (q.1 = hO k ∧ q.2.1 = x ∧ q.2.2.1 = n / 64 ∧ q.2.2.2.1 = n % 64)) = true) (hd : decode (hB k) pc = .ok (.getfield x, 3)) (hs : zs_sh[r]? = some (.inr o)) (ho : o.1 = n / 64) (hf : o.2[n % 64]? = some f)
    (h : At X k (pc + 3) L (zs_val M r (n % 64) f :: S) M res M') : At X k pc L (.ref r :: S) M res M' := by
  intro p e s m args below meth c H locs ls hz hP hS hL
  obtain ⟨h1, h2, h3, h4⟩ := zl_Fs hm
  have he := zs_at (X := X) (M := M) hs
  simp only [zs_cell] at he
  refine va_get hz.1 hz.2.1 hz.2.2.2.2.2.2.1 (fun w hw => (zG_in (zI_all (n / 64) h3 w hw)).1) hz.2.2.2.2.2.1 hz.2.2.2.2.2.2.2.1 hP r he (by rw [ho]; exact zc_at (n / 64) h3) (n % 64) h2 (zG_before hz.2.2.2.2.2.2.1 h1) (fun y hy => by rw [← h4]; exact hy) (v := zv X (zs_val M r (n % 64) f)) ?_ hd (h p e s m args below meth c H locs ls hz hP hS hL)
  rw [List.getElem?_mapIdx, hf]
  rfl
theorem st_putfield {n x r : Nat} {o : Nat × List (Option Nat)} {v : Int32} (hm : zl_F.any (fun q => decide (q.1 = hO k ∧ q.2.1 = x ∧ q.2.2.1 = n / 64 ∧ q.2.2.2.1 = n % 64)) = true) (hd : decode (hB k) pc = .ok (.putfield x, 3)) (hs : zs_sh[r]? = some (.inr o)) (ho : o.1 = n / 64) (hf : o.2[n % 64]? = some none)
    (hfin : ((zl_Fc (n / 64)).2.1 (n % 64)).2.2.2 = false) (hty : parseFieldDescriptor ((zl_Fc (n / 64)).2.1 (n % 64)).2.2.1 = some (if zs_isZ (n / 64) (n % 64) = true then .boolean else .int)) (hv : zs_isZ (n / 64) (n % 64) = true → v = 0 ∨ v = 1)
    (h : At X k (pc + 3) L S (zu M r (n % 64) v) res M') : At X k pc L (.int v :: .ref r :: S) M res M' := by
  intro p e s m args below meth c H locs ls hz hP hS hL
  obtain ⟨h1, h2, h3, h4⟩ := zl_Fs hm
  have he := zs_at (X := X) (M := M) hs
  simp only [zs_cell] at he
  have hl : n % 64 < o.2.length := (List.getElem?_eq_some_iff.mp hf).1
  have hnf : narrow (if zs_isZ (n / 64) (n % 64) = true then .boolean else .int) (.int v) = .int v ∧ fits (if zs_isZ (n / 64) (n % 64) = true then .boolean else .int) (.int v) = true := by
    by_cases hz0 : zs_isZ (n / 64) (n % 64) = true
    · rw [if_pos hz0]
      rcases hv hz0 with rfl | rfl <;> exact ⟨by decide, by decide⟩
    · rw [if_neg hz0]
      exact ⟨rfl, rfl⟩
  refine va_put hz.1 hz.2.1 hz.2.2.2.2.2.2.1 (fun w hw => (zG_in (zI_all (n / 64) h3 w hw)).1) (zy_c (n / 64)) (zY_all (n / 64) h3) (zN_all (n / 64) h3) hz.2.2.2.2.2.1 hz.2.2.2.2.2.2.2.1 hP (zs_D hz.2.2.2.2.2.2.2.2.2.2.2 M) hS r he (by rw [ho]; exact zc_at (n / 64) h3) (n % 64) h2 (zG_before hz.2.2.2.2.2.2.1 h1) (fun y hy => by rw [← h4]; exact hy) hfin hty hnf.1 hnf.2 (by simpa using hl) hd (fun H1 locs1 hP1 _ hS1 => ?_)
  have e1 := zs_setf (X := X) (M := M) (k := r) (c := o.1) (j := n % 64) (fs := o.2) hs hf v
  have e0 : zv X (.int v) = .int v := rfl
  rw [e0, e1] at hP1
  exact h p e s m args below meth c H1 locs1 ls hz hP1 hS1 hL
theorem st_iaload {r n : Nat} {j : Int32} (hd : decode (hB k) pc = .ok (.iaload, 1)) (hs : zs_sh[r]? = some (.inl (0, n))) (hin : vp_in j n) (h : At X k (pc + 1) L (.int (M r j.toNatClampNeg) :: S) M res M') : At X k pc L (.int j :: .ref r :: S) M res M' := by
  intro p e s m args below meth c H locs ls hz hP hS hL
  exact va_iald hz.1 hz.2.1 hz.2.2.2.2.2.2.2.1 hP r 0 (zs_at (X := X) (M := M) hs) rfl hin hd (h p e s m args below meth c H locs ls hz hP hS hL)
theorem st_baload {r n : Nat} {j : Int32} (hd : decode (hB k) pc = .ok (.baload, 1)) (hs : zs_sh[r]? = some (.inl (1, n))) (hin : vp_in j n) (h : At X k (pc + 1) L (.int (M r j.toNatClampNeg) :: S) M res M') : At X k pc L (.int j :: .ref r :: S) M res M' := by
  intro p e s m args below meth c H locs ls hz hP hS hL
  exact va_zald hz.1 hz.2.1 hz.2.2.2.2.2.2.2.1 hP r 1 (zs_at (X := X) (M := M) hs) rfl hin hd (h p e s m args below meth c H locs ls hz hP hS hL)
theorem st_tab {a : Nat} {j : Int32} (hd : decode (hB k) pc = .ok (.iaload, 1)) (hin : vp_in j 8) (h : At X k (pc + 1) L (.int (zt_tr j.toNatClampNeg) :: S) M res M') : At X k pc L (.int j :: .retAddr a :: S) M res M' := by
  intro p e s m args below meth c H locs ls hz hP hS hL
  exact va_ti (t := zx_t X) hz.1 hz.2.1 hz.2.2.2.2.2.2.2.2.2.2.1 hS hin rfl hd (h p e s m args below meth c H locs ls hz hP hS hL)
theorem zl_stat : Cond.fieldLink "FoolVotes$Votes" 118 "FoolVotes$Votes" "TRAITS_IN" "[I" ∈ zt_G := zt_in 281 (by decide +kernel) rfl
theorem st_gets {a : Nat} (hd : decode (hB k) pc = .ok (.getstatic 118, 3)) (ho : hO k = 4) (h : At X k (pc + 3) L (.retAddr a :: S) M res M') : At X k pc L S M res M' := by
  intro p e s m args below meth c H locs ls hz hP hS hL
  have hown := hz.2.2.2.2.2.1
  rw [ho] at hown
  exact va_gets (own := "FoolVotes$Votes") hz.1 hz.2.1 hz.2.2.2.2.2.2.2.2.2.1 hS hown (zG_before hz.2.2.2.2.2.2.1 zl_stat) (fun _ hy => hy) hd (h p e s m args below meth c H locs ls hz hP hS hL)
theorem st_iastore {r n : Nat} {j v : Int32} (hd : decode (hB k) pc = .ok (.iastore, 1)) (hs : zs_sh[r]? = some (.inl (0, n))) (hin : vp_in j n) (h : At X k (pc + 1) L S (zu M r j.toNatClampNeg v) res M') : At X k pc L (.int v :: .int j :: .ref r :: S) M res M' := by
  intro p e s m args below meth c H locs ls hz hP hS hL
  refine va_iast hz.1 hz.2.1 hz.2.2.2.2.2.2.2.1 hP (zs_D hz.2.2.2.2.2.2.2.2.2.2.2 M) hS r 0 (zs_at (X := X) (M := M) hs) rfl hin hd (fun H1 locs1 hP1 _ hS1 => ?_)
  have e1 := zs_seta (X := X) (M := M) hs (upd (M r) j.toNatClampNeg v)
  rw [if_pos rfl] at e1
  simp only [if_pos] at hP1
  rw [e1] at hP1
  exact h p e s m args below meth c H1 locs1 ls hz hP1 hS1 hL
theorem st_bastore {r n : Nat} {j v : Int32} (hd : decode (hB k) pc = .ok (.bastore, 1)) (hs : zs_sh[r]? = some (.inl (1, n))) (hin : vp_in j n) (h : At X k (pc + 1) L S (zu M r j.toNatClampNeg (v &&& 1)) res M') : At X k pc L (.int v :: .int j :: .ref r :: S) M res M' := by
  intro p e s m args below meth c H locs ls hz hP hS hL
  refine va_zast hz.1 hz.2.1 hz.2.2.2.2.2.2.2.1 hP (zs_D hz.2.2.2.2.2.2.2.2.2.2.2 M) hS r 1 (zs_at (X := X) (M := M) hs) rfl hin hd (fun H1 locs1 hP1 _ hS1 => ?_)
  have e1 := zs_seta (X := X) (M := M) hs (upd (M r) j.toNatClampNeg (v &&& 1))
  have e2 : vp_nar .boolean v = v &&& 1 := rfl
  rw [e2] at hP1
  rw [e1] at hP1
  exact h p e s m args below meth c H1 locs1 ls hz hP1 hS1 hL
theorem st_alen {r n : Nat} (hd : decode (hB k) pc = .ok (.arraylength, 1)) (hs : zs_sh[r]? = some (.inl (0, n))) (h : At X k (pc + 1) L (.int (Int32.ofNat n) :: S) M res M') : At X k pc L (.ref r :: S) M res M' := by
  intro p e s m args below meth c H locs ls hz hP hS hL
  exact va_alen hz.1 hz.2.1 hz.2.2.2.2.2.2.2.1 hP r 0 (zs_at (X := X) (M := M) hs) rfl rfl hd (h p e s m args below meth c H locs ls hz hP hS hL)
theorem zcats_map (S : List Value) : ((S.map (zv X)).map fun v => v.category).sum = zcats S := by
  unfold zcats
  rw [List.map_map]
  congr 1
  apply List.map_congr_left
  intro v _
  exact zv_cat X v
theorem st_copy {x a a0 n0 n1 : Nat} {n dp sp : Int32} (hm : zl_A.any (fun q => decide (q.1 = hO k ∧ q.2.1 = x)) = true) (hR : 1 ≤ hF k ∧ 8 + (nativeFrameWords "java/lang/System" "arraycopy" 5 + 11) ≤ hW k) (hd : decode (hB k) pc = .ok (.invokestatic x, 3)) (hs0 : zs_sh[a0]? = some (.inl (0, n0))) (hs1 : zs_sh[a]? = some (.inl (0, n1))) (hc : zcats S ≤ 8)
    (h1 : ¬ sp < 0) (h2 : ¬ dp < 0) (h3 : ¬ n < 0) (h4 : sp.toNatClampNeg + n.toNatClampNeg ≤ n0) (h5 : dp.toNatClampNeg + n.toNatClampNeg ≤ n1)
    (h : At X k (pc + 3) L S (zua M a (va_cpy (M a0) (M a) sp.toNatClampNeg dp.toNatClampNeg n.toNatClampNeg)) res M') : At X k pc L (.int n :: .int dp :: .ref a :: .int sp :: .ref a0 :: S) M res M' := by
  intro p e s m args below meth c H locs ls hz hP hS hL
  obtain ⟨q, hq, hm⟩ := List.any_eq_true.mp hm
  obtain ⟨e1, e2⟩ := of_decide_eq_true hm
  have hl := zt_in _ (zl_Aok q hq) rfl
  rw [e1, e2] at hl
  have hw := hz.2.2.2.2.2.2.1
  refine va_copyi hz.1 hz.2.1 (hz.2.2.2.2.1.trans hL.1.symm) hz.2.2.2.2.2.1 (zG_before hw hl) (zG_before hw zl_sys.1) (zG_before hw zl_sys.2.1) (zG_before hw zl_sys.2.2) hz.2.2.2.2.2.2.2.1 hP (zs_D hz.2.2.2.2.2.2.2.2.2.2.2 M) hS a0 a 0 0 (zs_at (X := X) (M := M) hs0) (zs_at (X := X) (M := M) hs1) rfl rfl rfl h1 h2 h3 h4 h5 (fun _ _ => rfl) hR.1 (by rw [zcats_map]; exact Nat.le_trans (Nat.add_le_add_right hc _) hR.2) hd (fun H1 locs1 hP1 _ hS1 => ?_)
  have e1 := zs_seta (X := X) (M := M) hs1 (va_cpy (M a0) (M a) sp.toNatClampNeg dp.toNatClampNeg n.toNatClampNeg)
  rw [if_pos rfl] at e1
  simp only [if_pos] at hP1
  rw [e1] at hP1
  exact h p e s m args below meth c H1 locs1 ls hz hP1 hS1 hL
theorem st_max {w : Nat} {x y : Int32} (hm : zl_X.any (fun q => decide (q.1 = hO k ∧ q.2.1 = w ∧ q.2.2.1 = 0)) = true) (hR : 1 ≤ hF k ∧ 21 ≤ hW k) (hd : decode (hB k) pc = .ok (.invokestatic w, 3)) (hc : zcats S ≤ 8) (h : At X k (pc + 3) L (.int (if x < y then y else x) :: S) M res M') : At X k pc L (.int y :: .int x :: S) M res M' := by
  intro p e s m args below meth c H locs ls hz hP hS hL
  obtain ⟨q, hq, hm⟩ := List.any_eq_true.mp hm
  obtain ⟨e1, e2, e3⟩ := of_decide_eq_true hm
  have hl := zt_in _ (zl_Xok q hq) rfl
  rw [e1, e2, e3, if_pos rfl] at hl
  have hw := hz.2.2.2.2.2.2.1
  exact va_mmax hz.1 hz.2.1 (hz.2.2.2.2.1.trans hL.1.symm) hz.2.2.2.2.2.1 (zG_before hw hl) (zG_before hw zl_max.1) (zG_before hw zl_max.2.1) (zG_before hw zl_max.2.2) hR.1 (by rw [zcats_map]; exact Nat.le_trans (Nat.add_le_add_right hc 13) hR.2) (Nat.le_refl _) (Nat.le_refl _) hd (h p e s m args below meth c H locs ls hz hP hS hL)
theorem st_min {w : Nat} {x y : Int32} (hm : zl_X.any (fun q => decide (q.1 = hO k ∧ q.2.1 = w ∧ q.2.2.1 = 1)) = true) (hR : 1 ≤ hF k ∧ 21 ≤ hW k) (hd : decode (hB k) pc = .ok (.invokestatic w, 3)) (hc : zcats S ≤ 8) (h : At X k (pc + 3) L (.int (if y < x then y else x) :: S) M res M') : At X k pc L (.int y :: .int x :: S) M res M' := by
  intro p e s m args below meth c H locs ls hz hP hS hL
  obtain ⟨q, hq, hm⟩ := List.any_eq_true.mp hm
  obtain ⟨e1, e2, e3⟩ := of_decide_eq_true hm
  have hl := zt_in _ (zl_Xok q hq) rfl
  rw [e1, e2, e3, if_neg (by decide)] at hl
  have hw := hz.2.2.2.2.2.2.1
  exact va_mmin hz.1 hz.2.1 (hz.2.2.2.2.1.trans hL.1.symm) hz.2.2.2.2.2.1 (zG_before hw hl) (zG_before hw zl_min.1) (zG_before hw zl_min.2.1) (zG_before hw zl_min.2.2) hR.1 (by rw [zcats_map]; exact Nat.le_trans (Nat.add_le_add_right hc 13) hR.2) (Nat.le_refl _) (Nat.le_refl _) hd (h p e s m args below meth c H locs ls hz hP hS hL)
end ST2
/-! answers -/
section ST3
variable {X : zX} {k pc : Nat} {L : List (Option Value)} {M : zM}
theorem zq_end {p : Program} {s t : State} {m : MethodId} {args : Array Value} {meth : Method} {c : Code} {H : Heap} {locs : List Loc} {r : Option Value} {res : List Value} (hz : zf X k p s m args meth c) (hP : va_P (zx_D X) zc_cl (zs_ws X M) H) (hS : va_S (zA X) s.heap H locs) (h1 : res.length ≤ 1) (h2 : r = (res.map (zv X)).head?) (ht : t.heap = H) (hW : s.WarmedH t.vm) : zQ X res M args s (.returned r) t :=
  ⟨h1, by rw [h2], ⟨by rw [ht]; exact hP, zk_warm hW (fun a h3 h4 => by rw [ht]; exact hS.2.1 a h3 h4) hz.2.2.2.2.2.2.2⟩, hS.F ht⟩
theorem st_ireturn {v : Int32} (hd : decode (hB k) pc = .ok (.ireturn, 1)) (hr : hR k = some .int) : At X k pc L [.int v] M [.int v] M := by
  intro p e s m args below meth c H locs ls hz hP hS hL
  have hlk := hz.2.2.2.1
  exact W.iret hz.1 hz.2.1 (hz.2.2.1.trans hr) (fun t ht hW => zq_end (res := [.int v]) hz hP hS (Nat.le_refl 1) rfl ht hW) hS.2.2 hd hlk
theorem st_zreturn {v : Int32} (hv : v = 0 ∨ v = 1) (hd : decode (hB k) pc = .ok (.ireturn, 1)) (hr : hR k = some .boolean) : At X k pc L [.int v] M [.int v] M := by
  intro p e s m args below meth c H locs ls hz hP hS hL
  have hlk := hz.2.2.2.1
  exact W.zret hz.1 hz.2.1 (hz.2.2.1.trans hr) (by rcases hv with rfl | rfl <;> decide) (fun t ht hW => zq_end (res := [.int v]) hz hP hS (Nat.le_refl 1) rfl ht hW) hS.2.2 hd hlk
theorem st_lreturn {v : Int64} (hd : decode (hB k) pc = .ok (.lreturn, 1)) (hr : hR k = some .long) : At X k pc L [.long v] M [.long v] M := by
  intro p e s m args below meth c H locs ls hz hP hS hL
  have hlk := hz.2.2.2.1
  exact W.lret hz.1 hz.2.1 (hz.2.2.1.trans hr) (fun t ht hW => zq_end (res := [.long v]) hz hP hS (Nat.le_refl 1) rfl ht hW) hS.2.2 hd hlk
theorem st_areturn {v : Nat} {nm : String} (hd : decode (hB k) pc = .ok (.areturn, 1)) (hr : hR k = some (.object nm)) : At X k pc L [.ref v] M [.ref v] M := by
  intro p e s m args below meth c H locs ls hz hP hS hL
  have hlk := hz.2.2.2.1
  exact W.aret (v := .ref (zx_a X v)) hz.1 hz.2.1 (hz.2.2.1.trans hr) (Or.inl ⟨nm, rfl⟩) (Or.inr ⟨_, rfl⟩) (fun t ht hW => zq_end (res := [.ref v]) hz hP hS (Nat.le_refl 1) rfl ht hW) hS.2.2 hd hlk
theorem st_return (hd : decode (hB k) pc = .ok (.return_, 1)) (hr : hR k = none) : At X k pc L [] M [] M := by
  intro p e s m args below meth c H locs ls hz hP hS hL
  have hlk := hz.2.2.2.1
  exact W.vret hz.1 hz.2.1 (hz.2.2.1.trans hr) (fun t ht hW => zq_end (res := []) hz hP hS (Nat.zero_le 1) rfl ht hW) hS.2.2 hd hlk
end ST3
end
section
/-! CALLS -/
theorem zblind {X : zX} (as : List Value) (M : zM) : FrameBlind (va_Pc as (zw X M)) := fun a U g mk h => ⟨h.1, h.2.1, zk_same rfl rfl h.2.2⟩
theorem zw_in {X : zX} {M : zM} {s U : State} {H : Heap} {locs : List Loc} (hk : zk X s) (hP : va_P (zx_D X) zc_cl (zs_ws X M) H) (hS : va_S (zA X) s.heap H locs) (hU : U.heap = H) (hW : s.WarmedH U.vm) : zw X M U :=
  ⟨by rw [hU]; exact hP, zk_warm hW (fun a h1 h2 => by rw [hU]; exact hS.2.1 a h1 h2) hk⟩
theorem zcall_go {X : zX} {p : Program} {e : Env} {R : Room} {s : State} {m : MethodId} {args : Array Value} {below : List Frame} {meth : Method} {c : Code} {H : Heap} {locs : List Loc} {ls : Array Slot} {Q : State → Prop} {pc : Nat} {st0 rest : List Value} {a : Array Value} {r : List Value} {M1 : zM}
    (hr : va_Run p (zx_l X) e R s m args below meth c H locs 0 0 0 0 (F0 m pc ls st0) rest (zQ X r M1 a) (zA X)) (hS : va_S (zA X) s.heap H locs)
    (kk : ∀ (H1 : Heap) (locs1 : List Loc), va_P (zx_D X) zc_cl (zs_ws X M1) H1 → va_S (zA X) s.heap H1 locs1 → W p (zx_l X) e R s m args below meth c H1 locs1 0 0 Q (F0 m (pc + 3) ls (r.map (zv X) ++ rest))) : W p (zx_l X) e R s m args below meth c H locs 0 0 Q (F0 m pc ls st0) := by
  intro T hT XX
  obtain ⟨v, st₀, t, T', Lc, h0, X', hL, e1, e2, ⟨hlen, hv, hw, hz, hk⟩, st⟩ := hr T hT XX
  have hv' : v = (r.map (zv X)).head? := Outcome.returned.inj hv
  have e3 : v.toList = r.map (zv X) := by
    rw [hv']
    match r, hlen with
    | [], _ => rfl
    | [x], _ => rfl
    | x :: y :: l, h => exact absurd h (by simp)
  rw [h0] at hz hk
  obtain ⟨t2, a1, b1⟩ := kk T'.heap (locs ++ Lc) (by rw [e1]; exact hw.1) ⟨Nat.le_trans hS.1 (by rw [e1]; exact hz), fun q h1 h2 => by rw [e1, hk q (Nat.lt_of_lt_of_le h1 hS.1) h2]; exact hS.2.1 q h1 h2, fun q hq => by
      rcases List.mem_append.mp hq with h | h
      · exact hS.2.2 q h
      · exact hL q h⟩ T' rfl X'
  rw [← e3] at a1
  exact ⟨t2, st t2 a1, b1⟩
theorem zl_Ms {k x j : Nat} (hm : zl_M.any (fun q => decide (q.1 = hO k ∧ q.2.1 = x ∧ q.2.2.1 = j)) = true) : Cond.methodLink (zn_c (hO k)) x (hY j) ∈ zt_G := by
  obtain ⟨q, hq, hm⟩ := List.any_eq_true.mp hm
  obtain ⟨e1, e2, e3⟩ := of_decide_eq_true hm
  have h1 := zt_in _ (zl_Mok q hq) rfl
  rw [e1, e2, e3] at h1
  exact h1
section ST4
variable {X : zX} {k pc : Nat} {L : List (Option Value)} {S : List Value} {M M1 M' : zM} {res r : List Value}
theorem st_callS {j x : Nat} {As : List Value} (hm : zl_M.any (fun q => decide (q.1 = hO k ∧ q.2.1 = x ∧ q.2.2.1 = j)) = true) (hst : hS j = true) (hn : As.length = hN j) (hRm : hF j + 1 ≤ hF k ∧ 8 + (hL j + 11) + hW j ≤ hW k) (hd : decode (hB k) pc = .ok (.invokestatic x, 3)) (hc : zcats S ≤ 8) (hC : Call X j As M r M1) (h : At X k (pc + 3) L (r ++ S) M1 res M') : At X k pc L (As.reverse ++ S) M res M' := by
  intro p e s m args below meth c H locs ls hz hP hSt hLo
  obtain ⟨f1, f2, f3, f4, f5, f6, f7, f8⟩ := zh_fact j
  rw [if_pos hst] at f3
  rw [if_pos hst, Nat.sub_zero] at f8
  have hts := hz.2.2.2.2.2.2.1
  have hG : GoodIn (zws k) (va_wsS (zn_c (hO k)) x (hY j) (zws j)) := by
    intro w hw
    rcases List.mem_append.mp hw with h1 | h1
    · simp only [List.mem_cons, List.not_mem_nil, or_false] at h1
      rcases h1 with rfl | rfl | rfl
      · exact zG_in (zl_Ms hm)
      · exact zG_in f3
      · exact zG_in f2
    · exact zG_good k j w h1
  refine zcall_go (r := r) (M1 := M1) (va_runS (As := As.map (zv X)) (rest := S.map (zv X)) (ws := zws j) (rm := zrm j) (bytes := hB j) (maxL := hL j) (ret := hR j) ⟨hz.1, hz.2.1, hz.2.2.2.2.1, hz.2.2.2.2.2.1, hts⟩ hC (va_cwS (hN j) hts hG rfl rfl rfl ⟨f6, f7, f8⟩ hRm) ⟨zblind _ _, fun U hU hW => ⟨rfl, zw_in hz.2.2.2.2.2.2.2 hP hSt hU hW⟩⟩ rfl (by rw [List.length_map]; exact hn) hLo.1 (by show (As.reverse ++ S).map (zv X) = _; rw [List.map_append, List.map_reverse]) (lv_room (by rw [zcats_map]; exact hc)) hd ⟨Nat.le_refl _, Nat.le_refl _⟩) hSt (fun H1 locs1 hP1 hS1 => ?_)
  rw [← List.map_append]
  exact h p e s m args below meth c H1 locs1 ls hz hP1 hS1 hLo
theorem st_callV {j x b : Nat} {As : List Value} {o : Nat × List (Option Nat)} (hm : zl_M.any (fun q => decide (q.1 = hO k ∧ q.2.1 = x ∧ q.2.2.1 = j)) = true) (hst : hS j = false) (hn : As.length + 1 = hN j) (ho6 : hO j < 6) (hs : zs_sh[b]? = some (.inr o)) (ho : o.1 = hO j) (hRm : hF j + 1 ≤ hF k ∧ 8 + (hL j + 11) + hW j ≤ hW k) (hd : decode (hB k) pc = .ok (.invokevirtual x, 3)) (hc : zcats S ≤ 8) (hC : Call X j (.ref b :: As) M r M1) (h : At X k (pc + 3) L (r ++ S) M1 res M') : At X k pc L ((.ref b :: As).reverse ++ S) M res M' := by
  intro p e s m args below meth c H locs ls hz hP hSt hLo
  obtain ⟨f1, f2, f3, f4, f5, f6, f7, f8⟩ := zh_fact j
  have hst' : ¬ ((zh j).2.2.2.2.2.1 = true) := fun q => absurd (hst.symm.trans q) (by decide)
  have hn' : (zh j).2.2.2.2.2.2.1 = As.length + 1 := hn.symm
  rw [if_neg hst'] at f3
  rw [if_neg hst', hn', Nat.add_sub_cancel] at f8
  have hts := hz.2.2.2.2.2.2.1
  have hG : GoodIn (zws k) (wsV (zn_c (hO k)) x (hY j).cls (hY j) (zws j)) := by
    intro w hw
    rcases List.mem_append.mp hw with h1 | h1
    · simp only [List.mem_cons, List.not_mem_nil, or_false] at h1
      rcases h1 with rfl | rfl | rfl | rfl
      · exact zG_in (zl_Ms hm)
      · exact zG_in f3.1
      · exact zG_in f3.2
      · exact zG_in f2
    · exact zG_good k j w h1
  have he := zs_at (X := X) (M := M) hs
  simp only [zs_cell] at he
  have hrc := va_recv hz.2.2.2.2.2.2.2.1 hP (zc_at o.1 (by rw [ho]; exact ho6)) he
  have hcn : (zl_Fc o.1).1 = (hY j).cls := by rw [zn_at o.1 (by rw [ho]; exact ho6), ho]; exact f5.symm
  dsimp only at hrc
  rw [hcn] at hrc
  refine zcall_go (r := r) (M1 := M1) (va_runV (As := As.map (zv X)) (rest := S.map (zv X)) (ws := zws j) (rm := zrm j) (bytes := hB j) (maxL := hL j) (ret := hR j) (C := (hY j).cls) (b := zx_a X b) ⟨hz.1, hz.2.1, hz.2.2.2.2.1, hz.2.2.2.2.2.1, hts⟩ hC (cwV As.length hts hG rfl rfl rfl ⟨rfl, f6, f7, f8⟩ hRm) ⟨zblind _ _, hrc, fun U hU hW => ⟨rfl, zw_in hz.2.2.2.2.2.2.2 hP hSt hU hW⟩⟩ rfl (by rw [List.length_map]) hLo.1 (by show ((Value.ref b :: As).reverse ++ S).map (zv X) = _; simp [zv]) (lv_room (by rw [zcats_map]; exact hc)) hd ⟨Nat.le_refl _, Nat.le_refl _⟩) hSt (fun H1 locs1 hP1 hS1 => ?_)
  rw [← List.map_append]
  exact h p e s m args below meth c H1 locs1 ls hz hP1 hS1 hLo
theorem st_callN {As : List Value} (ho4 : hO k = 4) (hn : As.length = 2) (hRm : hF 7 + 1 ≤ hF k ∧ 8 + (hL 7 + 11) + hW 7 ≤ hW k) (hd : decode (hB k) pc = .ok (.invokestatic 100, 3)) (hc : zcats S ≤ 8) (hC : Call X 7 As M r M1) (h : At X k (pc + 3) L (r ++ S) M1 res M') : At X k pc L (As.reverse ++ S) M res M' := by
  intro p e s m args below meth c H locs ls hz hP hSt hLo
  obtain ⟨f1, f2, f3, f4, f5, f6, f7, f8⟩ := zh_fact 7
  rw [if_pos (show (zh 7).2.2.2.2.2.1 = true from rfl)] at f3
  have hts := hz.2.2.2.2.2.2.1
  have hown := hz.2.2.2.2.2.1
  rw [ho4] at hown
  refine zcall_go (r := r) (M1 := M1) (va_runSN (As := As.map (zv X)) (rest := S.map (zv X)) (ws := zws 7) (rm := zrm 7) (bytes := hB 7) (maxL := hL 7) (ret := hR 7) (own := "FoolVotes$Votes") (host := "FoolVotes") ⟨hz.1, hz.2.1, hz.2.2.2.2.1, hown, hts⟩ hC ⟨va_cnB 2 hts (zG_good k 7) rfl rfl rfl hz.2.2.2.2.2.2.2.2.1 (zG_before hts f2) ⟨f6, f7, f8⟩ hRm, zG_before hts f3, trivial⟩ ⟨zblind _ _, fun U hU hW => ⟨rfl, zw_in hz.2.2.2.2.2.2.2 hP hSt hU hW⟩⟩ rfl (by rw [List.length_map]; exact hn) hLo.1 (by show (As.reverse ++ S).map (zv X) = _; rw [List.map_append, List.map_reverse]) (lv_room (by rw [zcats_map]; exact hc)) hd ⟨Nat.le_refl _, Nat.le_refl _⟩) hSt (fun H1 locs1 hP1 hS1 => ?_)
  rw [← List.map_append]
  exact h p e s m args below meth c H1 locs1 ls hz hP1 hS1 hLo
end ST4
end
section
/-! SWITCHES; THE MAIN RULE: a list of instructions over pure states, checked against the code, is followed by the real machine -/
theorem zsw_look {pc d x' : Int} {x : Int32} {J : Int → Prop} (hx : x.toInt = x') : ∀ (qs : List (Int × Int)), (∀ q ∈ qs, (Int32.ofInt q.1).toInt = q.1) → zsw (qs.map (fun q => (q.1, pc + q.2))) (pc + d) x J → J (pc + Op.lookupswitch.offset qs d x.toInt)
  | [], _, h => h
  | (a, t) :: r, hq, h => by
    have ha : (Int32.ofInt a).toInt = a := hq (a, t) List.mem_cons_self
    by_cases e : x = Int32.ofInt a
    · have h1 := h.1 e
      have e2 : x.toInt = a := by rw [e]; exact ha
      have e3 : Op.lookupswitch.offset ((a, t) :: r) d x.toInt = t := by rw [e2]; simp [Op.lookupswitch.offset]
      rw [e3]
      exact h1
    · rw [lv_osw e ha]
      exact zsw_look hx r (fun q hm => hq q (List.mem_cons_of_mem _ hm)) (h.2 e)
theorem zsw_tab {pc d : Int} {x : Int32} {J : Int → Prop} : ∀ (offs : List Int) (lo : Int), (∀ j, j < offs.length → (Int32.ofInt (lo + (j : Int))).toInt = lo + (j : Int)) → zsw (offs.mapIdx (fun j t => (lo + (j : Int), pc + t))) (pc + d) x J → (x.toInt < lo ∨ lo + (offs.length : Int) - 1 < x.toInt → J (pc + d)) ∧ ∀ (j : Nat) (t : Int), offs[j]? = some t → x.toInt = lo + (j : Int) → J (pc + t)
  | [], lo, _, h => ⟨fun _ => h, fun j t hj _ => by simp at hj⟩
  | t :: r, lo, hq, h => by
    have ha : (Int32.ofInt lo).toInt = lo := by have := hq 0 (by simp); simpa using this
    rw [List.mapIdx_cons] at h
    have e0 : lo + ((0 : Nat) : Int) = lo := by simp
    rw [e0] at h
    have h2 := h.2
    have e1 : r.mapIdx (fun j t => (lo + (((j + 1 : Nat)) : Int), pc + t)) = r.mapIdx (fun j t => ((lo + 1) + (j : Int), pc + t)) := by
      congr 1
      funext j t
      congr 1
      omega
    rw [e1] at h2
    have ih := fun hne => zsw_tab r (lo + 1) (fun j hj => by
      have := hq (j + 1) (by simpa using hj)
      have e : lo + 1 + (j : Int) = lo + (((j + 1 : Nat)) : Int) := by omega
      rw [e]
      exact this) (h2 hne)
    have hiff : x = Int32.ofInt lo ↔ x.toInt = lo := ⟨fun q => by rw [q]; exact ha, fun q => Int32.toInt_inj.mp (by rw [ha]; exact q)⟩
    refine ⟨fun ho => ?_, fun j t' hj hx => ?_⟩
    · simp only [List.length_cons] at ho
      have hne : ¬ x = Int32.ofInt lo := fun q => by have := hiff.mp q; omega
      exact (ih hne).1 (by omega)
    · cases j with
      | zero =>
        simp only [List.getElem?_cons_zero, Option.some.injEq] at hj
        rw [← hj]
        exact h.1 (hiff.mpr (by simpa using hx))
      | succ j =>
        have hne : ¬ x = Int32.ofInt lo := fun q => by have := hiff.mp q; omega
        exact (ih hne).2 j t' (by simpa using hj) (by omega)
theorem st_look {X : zX} {k pc : Nat} {L : List (Option Value)} {S : List Value} {M M' : zM} {res : List Value} {d' : Int} {ps' : Array (Int × Int)} {len : Nat} {x : Int32} {J : Int → Prop} {ps : List (Int × Int)} {d : Int} (hd : decode (hB k) pc = .ok (.lookupswitch d' ps', len)) (hp : (ps'.toList.zip (ps'.toList.drop 1)).all (fun (a, next) => a.1 < next.1) = true) (e1 : ps = ps'.toList.map (fun q => (q.1, (pc : Int) + q.2))) (e2 : (pc : Int) + d' = d) (h0 : 0 ≤ d) (hq : ∀ q ∈ ps, 0 ≤ q.2 ∧ (Int32.ofInt q.1).toInt = q.1)
    (hJ : ∀ t, J t → At X k t.toNat L S M res M') (h : zsw ps d x J) : At X k pc L (.int x :: S) M res M' := by
  subst e1
  subst e2
  have h1 := zsw_look (pc := (pc : Int)) (d := d') rfl ps'.toList (fun q hm => (hq _ (List.mem_map.mpr ⟨q, hm, rfl⟩)).2) h
  have hn : ∀ (qs : List (Int × Int)), (∀ q ∈ qs, 0 ≤ (pc : Int) + q.2) → 0 ≤ (pc : Int) + Op.lookupswitch.offset qs d' x.toInt := by
    intro qs
    induction qs with
    | nil => intro _; exact h0
    | cons q r ih =>
      intro hh
      obtain ⟨a, t⟩ := q
      by_cases e : x.toInt = a
      · have e3 : Op.lookupswitch.offset ((a, t) :: r) d' x.toInt = t := by rw [e]; simp [Op.lookupswitch.offset]
        rw [e3]
        exact hh (a, t) List.mem_cons_self
      · have e3 : Op.lookupswitch.offset ((a, t) :: r) d' x.toInt = Op.lookupswitch.offset r d' x.toInt := by
          simp [Op.lookupswitch.offset, e, Ne.symm e]
        rw [e3]
        exact ih (fun q hm => hh q (List.mem_cons_of_mem _ hm))
  have hpos := hn ps'.toList (fun q hm => (hq _ (List.mem_map.mpr ⟨q, hm, rfl⟩)).1)
  intro p e s m args below meth c H locs ls hz hP hS hL
  exact lv_lookup (tgt := ((pc : Int) + Op.lookupswitch.offset ps'.toList d' x.toInt).toNat) hz.1 hz.2.1 hd hp rfl (by omega) (hJ _ h1 p e s m args below meth c H locs ls hz hP hS hL)
theorem st_table {X : zX} {k pc : Nat} {L : List (Option Value)} {S : List Value} {M M' : zM} {res : List Value} {d' lo hi : Int} {offs : Array Int} {len : Nat} {x : Int32} {J : Int → Prop} {ps : List (Int × Int)} {d : Int} (hd : decode (hB k) pc = .ok (.tableswitch d' lo hi offs, len)) (e1 : ps = offs.toList.mapIdx (fun j t => (lo + (j : Int), (pc : Int) + t))) (ehi : hi = lo + (offs.toList.length : Int) - 1) (e2 : (pc : Int) + d' = d) (h0 : 0 ≤ d) (hq : ∀ q ∈ ps, 0 ≤ q.2 ∧ (Int32.ofInt q.1).toInt = q.1)
    (hJ : ∀ t, J t → At X k t.toNat L S M res M') (h : zsw ps d x J) : At X k pc L (.int x :: S) M res M' := by
  subst e1
  subst e2
  have hmem : ∀ (j : Nat) (t : Int), offs.toList[j]? = some t → (lo + (j : Int), (pc : Int) + t) ∈ offs.toList.mapIdx (fun j t => (lo + (j : Int), (pc : Int) + t)) := by
    intro j t hj
    refine List.mem_of_getElem? (i := j) ?_
    rw [List.getElem?_mapIdx, hj]
    rfl
  obtain ⟨h1, h2⟩ := zsw_tab (pc := (pc : Int)) (d := d') offs.toList lo (fun j hj => (hq _ (hmem j (offs.toList[j]) (List.getElem?_eq_getElem hj))).2) h
  intro p e s m args below meth c H locs ls hz hP hS hL
  by_cases ho : x.toInt < lo ∨ hi < x.toInt
  · exact lv_tableOut (tgt := ((pc : Int) + d').toNat) hz.1 hz.2.1 hd ho (by omega) (hJ _ (h1 (by omega)) p e s m args below meth c H locs ls hz hP hS hL)
  · have hlt : (x.toInt - lo).toNat < offs.toList.length := by omega
    have hj : offs.toList[(x.toInt - lo).toNat]? = some (offs.toList[(x.toInt - lo).toNat]) := List.getElem?_eq_getElem hlt
    have hpos := (hq _ (hmem _ _ hj)).1
    dsimp only at hpos
    exact lv_tableIn (tgt := ((pc : Int) + offs.toList[(x.toInt - lo).toNat]).toNat) hz.1 hz.2.1 hd (fun q => ho (Or.inl q)) (fun q => ho (Or.inr q)) (by rw [← Array.getElem?_toList]; exact hj) (by omega) (hJ _ (h2 _ _ hj (by omega)) p e s m args below meth c H locs ls hz hP hS hL)
set_option maxHeartbeats 4000000 in
theorem sd_stp {X : zX} {k pc pc' : Nat} {i : Instr} {L : List (Option Value)} {S : List Value} {M M' : zM} {res : List Value} {J : Nat → List (Option Value) → List Value → zM → Prop} {K : List (Option Value) → List Value → zM → Prop} (hc : zch k pc i = some pc') (hJ : ∀ t L S M, J t L S M → At X k t L S M res M') (hK : ∀ L S M, K L S M → At X k pc' L S M res M') (h : stp X J res M' i L S M K) : At X k pc L S M res M' := by
  cases i
  case iconst n =>
    obtain ⟨r, len, hd, hm, rfl⟩ := zchR_s hc
    cases r
    case iconst n' =>
      obtain ⟨rfl, rfl⟩ := of_decide_eq_true hm
      exact st_iconst hd rfl (hK _ _ _ h)
    case bipush n' =>
      obtain ⟨e1, rfl⟩ := of_decide_eq_true hm
      exact st_bipush hd e1 (hK _ _ _ h)
    case sipush n' =>
      obtain ⟨e1, rfl⟩ := of_decide_eq_true hm
      exact st_sipush hd e1 (hK _ _ _ h)
    case ldc x =>
      obtain ⟨h1, h2⟩ := Bool.and_eq_true_iff.mp hm
      have h1 := of_decide_eq_true h1
      subst h1
      exact st_ldc h2 hd (hK _ _ _ h)
    case ldc_w x =>
      obtain ⟨h1, h2⟩ := Bool.and_eq_true_iff.mp hm
      have h1 := of_decide_eq_true h1
      subst h1
      exact st_ldcw h2 hd (hK _ _ _ h)
    all_goals exact absurd hm Bool.false_ne_true
  case sipush n =>
    obtain ⟨r, len, hd, hm, rfl⟩ := zchR_s hc
    cases r
    case lconst f =>
      obtain ⟨e1, rfl⟩ := of_decide_eq_true hm
      exact st_lconst hd e1 (hK _ _ _ h)
    case ldc2_w x =>
      obtain ⟨h1, h2⟩ := Bool.and_eq_true_iff.mp hm
      have h1 := of_decide_eq_true h1
      subst h1
      exact st_ldc2 h2 hd (hK _ _ _ h)
    all_goals exact absurd hm Bool.false_ne_true
  case ret j =>
    cases hc
    intro p e s m args below meth c H locs ls hz hP hS hL
    exact hK _ _ _ h p e s m args below meth c H locs ls hz hP hS (zl_forget hL)
  case jsr t =>
    have hc : (if t = (pc : Int) then some pc else none) = some pc' := hc
    split at hc
    · rename_i e
      subst e
      exact hJ pc L S M h
    · cases hc
  case goto t =>
    obtain ⟨r, len, hd, hm, rfl⟩ := zchR_s hc
    cases r
    case goto off =>
      obtain ⟨e1, e2, rfl⟩ := of_decide_eq_true hm
      exact st_goto hd (by omega) (hJ _ _ _ _ h)
    all_goals exact absurd hm Bool.false_ne_true
  case iload j =>
    obtain ⟨r, len, hd, hm, rfl⟩ := zchR_s hc
    have g : (match L[j]? with
      | some (some (.int x)) => K L (.int x :: S) M
      | _ => False) := h
    clear h
    split at g
    · rename_i x hx
      cases r
      case iload j' =>
        obtain ⟨rfl, rfl⟩ := of_decide_eq_true hm
        exact st_iload hd hx (hK _ _ _ g)
      case iload_n f =>
        obtain ⟨e1, rfl⟩ := of_decide_eq_true hm
        exact st_iload_n hd e1 hx (hK _ _ _ g)
      all_goals exact absurd hm Bool.false_ne_true
    · exact g.elim
  case lload j =>
    obtain ⟨r, len, hd, hm, rfl⟩ := zchR_s hc
    have g : (match L[j]? with
      | some (some (.long x)) => K L (.long x :: S) M
      | _ => False) := h
    clear h
    split at g
    · rename_i x hx
      cases r
      case lload j' =>
        obtain ⟨rfl, rfl⟩ := of_decide_eq_true hm
        exact st_lload hd hx (hK _ _ _ g)
      case lload_n f =>
        obtain ⟨e1, rfl⟩ := of_decide_eq_true hm
        exact st_lload_n hd e1 hx (hK _ _ _ g)
      all_goals exact absurd hm Bool.false_ne_true
    · exact g.elim
  case aload j =>
    obtain ⟨r, len, hd, hm, rfl⟩ := zchR_s hc
    have g : (match L[j]? with
      | some (some (.ref x)) => K L (.ref x :: S) M
      | _ => False) := h
    clear h
    split at g
    · rename_i x hx
      cases r
      case aload j' =>
        obtain ⟨rfl, rfl⟩ := of_decide_eq_true hm
        exact st_aload hd hx (hK _ _ _ g)
      case aload_n f =>
        obtain ⟨e1, rfl⟩ := of_decide_eq_true hm
        exact st_aload_n hd e1 hx (hK _ _ _ g)
      all_goals exact absurd hm Bool.false_ne_true
    · exact g.elim
  case istore j =>
    obtain ⟨r, len, hd, hm, rfl⟩ := zchR_s hc
    obtain ⟨x, S', rfl, g1⟩ := p_i_s h
    cases r
    case istore j' =>
      obtain ⟨rfl, rfl, e3⟩ := of_decide_eq_true hm
      exact st_istore hd e3 (hK _ _ _ g1)
    case istore_n f =>
      obtain ⟨e1, rfl, e3⟩ := of_decide_eq_true hm
      exact st_istore_n hd e1 e3 (hK _ _ _ g1)
    all_goals exact absurd hm Bool.false_ne_true
  case lstore j =>
    obtain ⟨r, len, hd, hm, rfl⟩ := zchR_s hc
    obtain ⟨x, S', rfl, g1⟩ := p_l_s h
    cases r
    case lstore j' =>
      obtain ⟨rfl, rfl, e3⟩ := of_decide_eq_true hm
      exact st_lstore hd e3 (hK _ _ _ g1)
    case lstore_n f =>
      obtain ⟨e1, rfl, e3⟩ := of_decide_eq_true hm
      exact st_lstore_n hd e1 e3 (hK _ _ _ g1)
    all_goals exact absurd hm Bool.false_ne_true
  case astore j =>
    obtain ⟨r, len, hd, hm, rfl⟩ := zchR_s hc
    obtain ⟨x, S', rfl, g1⟩ := p_r_s h
    cases r
    case astore j' =>
      obtain ⟨rfl, rfl, e3⟩ := of_decide_eq_true hm
      exact st_astore hd e3 (hK _ _ _ g1)
    case astore_n f =>
      obtain ⟨e1, rfl, e3⟩ := of_decide_eq_true hm
      exact st_astore_n hd e1 e3 (hK _ _ _ g1)
    all_goals exact absurd hm Bool.false_ne_true
  case iinc j n =>
    obtain ⟨r, len, hd, hm, rfl⟩ := zchR_s hc
    obtain ⟨rfl, rfl, e3⟩ := of_decide_eq_true hm
    have g : (match L[j]? with
      | some (some (.int x)) => K (zl_set L j (.int (x + Int32.ofInt n))) S M
      | _ => False) := h
    clear h
    split at g
    · rename_i x hx
      exact st_iinc hd hx e3 (hK _ _ _ g)
    · exact g.elim
  case dup =>
    obtain ⟨r, len, hd, hm, rfl⟩ := zchR_s hc
    obtain ⟨rfl, rfl⟩ := of_decide_eq_true hm
    obtain ⟨v, S', rfl, hv, g1⟩ := p_v_s h
    exact st_dup hd hv (hK _ _ _ g1)
  case pop =>
    obtain ⟨r, len, hd, hm, rfl⟩ := zchR_s hc
    obtain ⟨rfl, rfl⟩ := of_decide_eq_true hm
    obtain ⟨v, S', rfl, hv, g1⟩ := p_v_s h
    exact st_pop hd hv (hK _ _ _ g1)
  case dup2 =>
    obtain ⟨r, len, hd, hm, rfl⟩ := zchR_s hc
    obtain ⟨rfl, rfl⟩ := of_decide_eq_true hm
    obtain ⟨v, S', rfl, hv, g1⟩ := p_v_s h
    obtain ⟨w, S'', rfl, hw, g2⟩ := p_v_s g1
    exact st_dup2 hd hv hw (hK _ _ _ g2)
  case ifCond c t =>
    obtain ⟨r, len, hd, hm, rfl⟩ := zchR_s hc
    obtain ⟨x, S', rfl, g1⟩ := p_i_s h
    cases r
    case ifCond c' off =>
      obtain ⟨rfl, e1, e2, rfl⟩ := of_decide_eq_true hm
      exact st_if hd (by omega) (fun q => hJ _ _ _ _ q) (fun q => hK _ _ _ q) g1
    all_goals exact absurd hm Bool.false_ne_true
  case if_icmp c t =>
    obtain ⟨r, len, hd, hm, rfl⟩ := zchR_s hc
    obtain ⟨y, S', rfl, g1⟩ := p_i_s h
    obtain ⟨x, S'', rfl, g2⟩ := p_i_s g1
    cases r
    case if_icmp c' off =>
      obtain ⟨rfl, e1, e2, rfl⟩ := of_decide_eq_true hm
      exact st_icmp hd (by omega) (fun q => hJ _ _ _ _ q) (fun q => hK _ _ _ q) g2
    all_goals exact absurd hm Bool.false_ne_true
  case lookupswitch d ps =>
    obtain ⟨r, len, hd, hm, rfl⟩ := zchR_s hc
    obtain ⟨x, S', rfl, g1⟩ := p_i_s h
    cases r
    case lookupswitch d' ps' =>
      obtain ⟨e1, e2, e3, e4, e5⟩ := of_decide_eq_true hm
      exact st_look hd e1 e2 e3 e4 e5 (fun t q => hJ _ _ _ _ q) g1
    case tableswitch d' lo hi offs =>
      obtain ⟨e1, e2, e3, e4, e5⟩ := of_decide_eq_true hm
      exact st_table hd e1 e2 e3 e4 e5 (fun t q => hJ _ _ _ _ q) g1
    all_goals exact absurd hm Bool.false_ne_true
  case getfield n =>
    obtain ⟨r, len, hd, hm, rfl⟩ := zchR_s hc
    obtain ⟨q, S', rfl, g1⟩ := p_r_s h
    cases r
    case getfield x =>
      obtain ⟨h1, h2⟩ := Bool.and_eq_true_iff.mp hm
      have h1 := of_decide_eq_true h1
      subst h1
      split at g1
      · rename_i o hs
        split at g1
        · rename_i ho
          split at g1
          · rename_i f hf
            exact st_getfield h2 hd hs ho hf (hK _ _ _ g1)
          · exact g1.elim
        · exact g1.elim
      · exact g1.elim
    all_goals exact absurd hm Bool.false_ne_true
  case putfield n =>
    obtain ⟨r, len, hd, hm, rfl⟩ := zchR_s hc
    obtain ⟨v, S', rfl, g1⟩ := p_i_s h
    obtain ⟨q, S'', rfl, g2⟩ := p_r_s g1
    cases r
    case putfield x =>
      obtain ⟨h1, h3⟩ := Bool.and_eq_true_iff.mp hm
      obtain ⟨h1, h2⟩ := Bool.and_eq_true_iff.mp h1
      have h1 := of_decide_eq_true h1
      obtain ⟨e1, e2⟩ := of_decide_eq_true h3
      subst h1
      split at g2
      · rename_i o hs
        split at g2
        · rename_i ho
          split at g2
          · rename_i hf
            split at g2
            · rename_i hz
              exact st_putfield h2 hd hs ho hf e1 e2 (fun _ => g2.1) (hK _ _ _ g2.2)
            · rename_i hz
              exact st_putfield h2 hd hs ho hf e1 e2 (fun q => absurd q (by rw [← ho, hz]; decide)) (hK _ _ _ g2)
          · exact g2.elim
        · exact g2.elim
      · exact g2.elim
    all_goals exact absurd hm Bool.false_ne_true
  case getstatic x =>
    obtain ⟨r, len, hd, hm, rfl⟩ := zchR_s hc
    obtain ⟨rfl, rfl, e3⟩ := of_decide_eq_true hm
    exact st_gets hd e3 (hK _ _ _ h)
  case iaload =>
    obtain ⟨r, len, hd, hm, rfl⟩ := zchR_s hc
    obtain ⟨rfl, rfl⟩ := of_decide_eq_true hm
    obtain ⟨j, S', rfl, g1⟩ := p_i_s h
    split at g1
    · split at g1
      · rename_i hs
        exact st_iaload hd hs g1.1 (hK _ _ _ g1.2)
      · exact g1.elim
    · exact st_tab hd g1.1 (hK _ _ _ g1.2)
    · exact g1.elim
  case baload =>
    obtain ⟨r, len, hd, hm, rfl⟩ := zchR_s hc
    obtain ⟨rfl, rfl⟩ := of_decide_eq_true hm
    obtain ⟨j, S', rfl, g1⟩ := p_i_s h
    obtain ⟨q, S'', rfl, g2⟩ := p_r_s g1
    split at g2
    · rename_i hs
      exact st_baload hd hs g2.1 (hK _ _ _ g2.2)
    · exact g2.elim
  case iastore =>
    obtain ⟨r, len, hd, hm, rfl⟩ := zchR_s hc
    obtain ⟨rfl, rfl⟩ := of_decide_eq_true hm
    obtain ⟨v, S1, rfl, g1⟩ := p_i_s h
    obtain ⟨j, S2, rfl, g2⟩ := p_i_s g1
    obtain ⟨q, S3, rfl, g3⟩ := p_r_s g2
    split at g3
    · rename_i hs
      exact st_iastore hd hs g3.1 (hK _ _ _ g3.2)
    · exact g3.elim
  case bastore =>
    obtain ⟨r, len, hd, hm, rfl⟩ := zchR_s hc
    obtain ⟨rfl, rfl⟩ := of_decide_eq_true hm
    obtain ⟨v, S1, rfl, g1⟩ := p_i_s h
    obtain ⟨j, S2, rfl, g2⟩ := p_i_s g1
    obtain ⟨q, S3, rfl, g3⟩ := p_r_s g2
    split at g3
    · rename_i hs
      exact st_bastore hd hs g3.1 (hK _ _ _ g3.2)
    · exact g3.elim
  case arraylength =>
    obtain ⟨r, len, hd, hm, rfl⟩ := zchR_s hc
    obtain ⟨rfl, rfl⟩ := of_decide_eq_true hm
    obtain ⟨q, S', rfl, g1⟩ := p_r_s h
    split at g1
    · rename_i hs
      exact st_alen hd hs (hK _ _ _ g1)
    · exact g1.elim
  case invokedynamic w =>
    obtain ⟨r, len, hd, hm, rfl⟩ := zchR_s hc
    obtain ⟨n, S1, rfl, g1⟩ := p_i_s h
    obtain ⟨dp, S2, rfl, g2⟩ := p_i_s g1
    obtain ⟨a, S3, rfl, g3⟩ := p_r_s g2
    obtain ⟨sp, S4, rfl, g4⟩ := p_i_s g3
    obtain ⟨a0, S5, rfl, g5⟩ := p_r_s g4
    cases r
    case invokestatic x =>
      obtain ⟨h1, h2⟩ := Bool.and_eq_true_iff.mp hm
      obtain ⟨rfl, e2, e3⟩ := of_decide_eq_true h1
      split at g5
      · rename_i hs0
        split at g5
        · rename_i hs1
          split at g5
          · rename_i hcs
            obtain ⟨g1, g2, g3, g4, g5, g6⟩ := g5
            exact st_copy h2 ⟨e2, e3⟩ hd hs0 hs1 hcs g1 g2 g3 g4 g5 (hK _ _ _ g6)
          · exact g5.elim
        · exact g5.elim
      · exact g5.elim
    all_goals exact absurd hm Bool.false_ne_true
  case invokeinterface j w =>
    obtain ⟨r, len, hd, hm, rfl⟩ := zchR_s hc
    have g : (match (Nat.ble (w % 16) S.length && Nat.ble (zcats (S.drop (w % 16))) 8 && zrcv (w / 16) (S.take (w % 16)).reverse) with
      | true => ∃ (r : List Value) (M1 : zM), Call X j (S.take (w % 16)).reverse M r M1 ∧ K L (r ++ S.drop (w % 16)) M1
      | false => False) := h
    clear h
    split at g
    · rename_i hb
      obtain ⟨hb1, hb3⟩ := Bool.and_eq_true_iff.mp hb
      obtain ⟨hb1, hb2⟩ := Bool.and_eq_true_iff.mp hb1
      have hb1 := Nat.le_of_ble_eq_true hb1
      have hb2 := Nat.le_of_ble_eq_true hb2
      obtain ⟨r1, M1, hC, g⟩ := g
      have hSe : S = (S.take (w % 16)).reverse.reverse ++ S.drop (w % 16) := by rw [List.reverse_reverse, List.take_append_drop]
      have hlen : (S.take (w % 16)).reverse.length = w % 16 := by rw [List.length_reverse, List.length_take]; omega
      rw [hSe]
      cases r
      case invokestatic x =>
        obtain ⟨h1, h2⟩ := Bool.and_eq_true_iff.mp hm
        obtain ⟨rfl, e2, e3, e4, e5, e6⟩ := of_decide_eq_true h1
        exact st_callS h2 e3 (hlen.trans e4) ⟨e5, e6⟩ hd hb2 hC (hK _ _ _ g)
      case invokevirtual x =>
        obtain ⟨h1, h2⟩ := Bool.and_eq_true_iff.mp hm
        obtain ⟨rfl, e2, e3, e4, e5, e6, e7, e8⟩ := of_decide_eq_true h1
        rw [e2] at hb3
        generalize (S.take (w % 16)).reverse = as at hb3 hC hlen ⊢
        unfold zrcv at hb3
        simp only at hb3
        split at hb3
        · rename_i b as'
          split at hb3
          · rename_i o hs
            exact st_callV h2 e4 (hlen.trans e5) e3 hs (by simpa using hb3) ⟨e7, e8⟩ hd hb2 hC (hK _ _ _ g)
          · cases hb3
        · cases hb3
      all_goals exact absurd hm Bool.false_ne_true
    · exact g.elim
  case dmul =>
    obtain ⟨r, len, hd, hm, rfl⟩ := zchR_s hc
    have g : (match (Nat.ble 2 S.length && Nat.ble (zcats (S.drop 2)) 8) with
      | true => ∃ (r : List Value) (M1 : zM), Call X 7 (S.take 2).reverse M r M1 ∧ K L (r ++ S.drop 2) M1
      | false => False) := h
    clear h
    split at g
    · rename_i hb
      obtain ⟨hb1, hb2⟩ := Bool.and_eq_true_iff.mp hb
      have hb1 := Nat.le_of_ble_eq_true hb1
      have hb2 := Nat.le_of_ble_eq_true hb2
      obtain ⟨r1, M1, hC, g⟩ := g
      have hSe : S = (S.take 2).reverse.reverse ++ S.drop 2 := by rw [List.reverse_reverse, List.take_append_drop]
      have hlen : (S.take 2).reverse.length = 2 := by rw [List.length_reverse, List.length_take]; omega
      rw [hSe]
      obtain ⟨rfl, rfl, e3, e4, e5⟩ := of_decide_eq_true hm
      exact st_callN e3 hlen ⟨e4, e5⟩ hd hb2 hC (hK _ _ _ g)
    · exact g.elim
  case dadd =>
    obtain ⟨r, len, hd, hm, rfl⟩ := zchR_s hc
    obtain ⟨y, S', rfl, g1⟩ := p_i_s h
    obtain ⟨x, S'', rfl, g2⟩ := p_i_s g1
    split at g2
    · rename_i hcs
      cases r
      case invokestatic w =>
        obtain ⟨h1, h2⟩ := Bool.and_eq_true_iff.mp hm
        obtain ⟨rfl, e2, e3⟩ := of_decide_eq_true h1
        exact st_max h2 ⟨e2, e3⟩ hd hcs (hK _ _ _ g2)
      all_goals exact absurd hm Bool.false_ne_true
    · exact g2.elim
  case dsub =>
    obtain ⟨r, len, hd, hm, rfl⟩ := zchR_s hc
    obtain ⟨y, S', rfl, g1⟩ := p_i_s h
    obtain ⟨x, S'', rfl, g2⟩ := p_i_s g1
    split at g2
    · rename_i hcs
      cases r
      case invokestatic w =>
        obtain ⟨h1, h2⟩ := Bool.and_eq_true_iff.mp hm
        obtain ⟨rfl, e2, e3⟩ := of_decide_eq_true h1
        exact st_min h2 ⟨e2, e3⟩ hd hcs (hK _ _ _ g2)
      all_goals exact absurd hm Bool.false_ne_true
    · exact g2.elim
  case idiv =>
    obtain ⟨r, len, hd, hm, rfl⟩ := zchR_s hc
    obtain ⟨rfl, rfl⟩ := of_decide_eq_true hm
    obtain ⟨y, S', rfl, g1⟩ := p_i_s h
    obtain ⟨x, S'', rfl, g2⟩ := p_i_s g1
    exact st_idiv hd g2.1 (hK _ _ _ g2.2)
  case irem =>
    obtain ⟨r, len, hd, hm, rfl⟩ := zchR_s hc
    obtain ⟨rfl, rfl⟩ := of_decide_eq_true hm
    obtain ⟨y, S', rfl, g1⟩ := p_i_s h
    obtain ⟨x, S'', rfl, g2⟩ := p_i_s g1
    exact st_irem hd g2.1 (hK _ _ _ g2.2)
  case ldiv =>
    obtain ⟨r, len, hd, hm, rfl⟩ := zchR_s hc
    obtain ⟨rfl, rfl⟩ := of_decide_eq_true hm
    obtain ⟨y, S', rfl, g1⟩ := p_l_s h
    obtain ⟨x, S'', rfl, g2⟩ := p_l_s g1
    exact st_ldiv hd g2.1 (hK _ _ _ g2.2)
  case lrem =>
    obtain ⟨r, len, hd, hm, rfl⟩ := zchR_s hc
    obtain ⟨rfl, rfl⟩ := of_decide_eq_true hm
    obtain ⟨y, S', rfl, g1⟩ := p_l_s h
    obtain ⟨x, S'', rfl, g2⟩ := p_l_s g1
    exact st_lrem hd g2.1 (hK _ _ _ g2.2)
  case iadd =>
    obtain ⟨r, len, hd, hm, rfl⟩ := zchR_s hc
    obtain ⟨rfl, rfl⟩ := of_decide_eq_true hm
    obtain ⟨y, S', rfl, g1⟩ := p_i_s h
    obtain ⟨x, S'', rfl, g2⟩ := p_i_s g1
    exact st_iadd hd (hK _ _ _ g2)
  case isub =>
    obtain ⟨r, len, hd, hm, rfl⟩ := zchR_s hc
    obtain ⟨rfl, rfl⟩ := of_decide_eq_true hm
    obtain ⟨y, S', rfl, g1⟩ := p_i_s h
    obtain ⟨x, S'', rfl, g2⟩ := p_i_s g1
    exact st_isub hd (hK _ _ _ g2)
  case imul =>
    obtain ⟨r, len, hd, hm, rfl⟩ := zchR_s hc
    obtain ⟨rfl, rfl⟩ := of_decide_eq_true hm
    obtain ⟨y, S', rfl, g1⟩ := p_i_s h
    obtain ⟨x, S'', rfl, g2⟩ := p_i_s g1
    exact st_imul hd (hK _ _ _ g2)
  case iand =>
    obtain ⟨r, len, hd, hm, rfl⟩ := zchR_s hc
    obtain ⟨rfl, rfl⟩ := of_decide_eq_true hm
    obtain ⟨y, S', rfl, g1⟩ := p_i_s h
    obtain ⟨x, S'', rfl, g2⟩ := p_i_s g1
    exact st_iand hd (hK _ _ _ g2)
  case ior =>
    obtain ⟨r, len, hd, hm, rfl⟩ := zchR_s hc
    obtain ⟨rfl, rfl⟩ := of_decide_eq_true hm
    obtain ⟨y, S', rfl, g1⟩ := p_i_s h
    obtain ⟨x, S'', rfl, g2⟩ := p_i_s g1
    exact st_ior hd (hK _ _ _ g2)
  case ixor =>
    obtain ⟨r, len, hd, hm, rfl⟩ := zchR_s hc
    obtain ⟨rfl, rfl⟩ := of_decide_eq_true hm
    obtain ⟨y, S', rfl, g1⟩ := p_i_s h
    obtain ⟨x, S'', rfl, g2⟩ := p_i_s g1
    exact st_ixor hd (hK _ _ _ g2)
  case ishl =>
    obtain ⟨r, len, hd, hm, rfl⟩ := zchR_s hc
    obtain ⟨rfl, rfl⟩ := of_decide_eq_true hm
    obtain ⟨y, S', rfl, g1⟩ := p_i_s h
    obtain ⟨x, S'', rfl, g2⟩ := p_i_s g1
    exact st_ishl hd (hK _ _ _ g2)
  case ishr =>
    obtain ⟨r, len, hd, hm, rfl⟩ := zchR_s hc
    obtain ⟨rfl, rfl⟩ := of_decide_eq_true hm
    obtain ⟨y, S', rfl, g1⟩ := p_i_s h
    obtain ⟨x, S'', rfl, g2⟩ := p_i_s g1
    exact st_ishr hd (hK _ _ _ g2)
  case iushr =>
    obtain ⟨r, len, hd, hm, rfl⟩ := zchR_s hc
    obtain ⟨rfl, rfl⟩ := of_decide_eq_true hm
    obtain ⟨y, S', rfl, g1⟩ := p_i_s h
    obtain ⟨x, S'', rfl, g2⟩ := p_i_s g1
    exact st_iushr hd (hK _ _ _ g2)
  case ladd =>
    obtain ⟨r, len, hd, hm, rfl⟩ := zchR_s hc
    obtain ⟨rfl, rfl⟩ := of_decide_eq_true hm
    obtain ⟨y, S', rfl, g1⟩ := p_l_s h
    obtain ⟨x, S'', rfl, g2⟩ := p_l_s g1
    exact st_ladd hd (hK _ _ _ g2)
  case lsub =>
    obtain ⟨r, len, hd, hm, rfl⟩ := zchR_s hc
    obtain ⟨rfl, rfl⟩ := of_decide_eq_true hm
    obtain ⟨y, S', rfl, g1⟩ := p_l_s h
    obtain ⟨x, S'', rfl, g2⟩ := p_l_s g1
    exact st_lsub hd (hK _ _ _ g2)
  case lmul =>
    obtain ⟨r, len, hd, hm, rfl⟩ := zchR_s hc
    obtain ⟨rfl, rfl⟩ := of_decide_eq_true hm
    obtain ⟨y, S', rfl, g1⟩ := p_l_s h
    obtain ⟨x, S'', rfl, g2⟩ := p_l_s g1
    exact st_lmul hd (hK _ _ _ g2)
  case lcmp =>
    obtain ⟨r, len, hd, hm, rfl⟩ := zchR_s hc
    obtain ⟨rfl, rfl⟩ := of_decide_eq_true hm
    obtain ⟨y, S', rfl, g1⟩ := p_l_s h
    obtain ⟨x, S'', rfl, g2⟩ := p_l_s g1
    exact st_lcmp hd (hK _ _ _ g2)
  case lshl =>
    obtain ⟨r, len, hd, hm, rfl⟩ := zchR_s hc
    obtain ⟨rfl, rfl⟩ := of_decide_eq_true hm
    obtain ⟨y, S', rfl, g1⟩ := p_i_s h
    obtain ⟨x, S'', rfl, g2⟩ := p_l_s g1
    exact st_lshl hd (hK _ _ _ g2)
  case ineg =>
    obtain ⟨r, len, hd, hm, rfl⟩ := zchR_s hc
    obtain ⟨rfl, rfl⟩ := of_decide_eq_true hm
    obtain ⟨x, S', rfl, g1⟩ := p_i_s h
    exact st_ineg hd (hK _ _ _ g1)
  case i2l =>
    obtain ⟨r, len, hd, hm, rfl⟩ := zchR_s hc
    obtain ⟨rfl, rfl⟩ := of_decide_eq_true hm
    obtain ⟨x, S', rfl, g1⟩ := p_i_s h
    exact st_i2l hd (hK _ _ _ g1)
  case l2i =>
    obtain ⟨r, len, hd, hm, rfl⟩ := zchR_s hc
    obtain ⟨rfl, rfl⟩ := of_decide_eq_true hm
    obtain ⟨x, S', rfl, g1⟩ := p_l_s h
    exact st_l2i hd (hK _ _ _ g1)
  case i2b =>
    obtain ⟨r, len, hd, hm, rfl⟩ := zchR_s hc
    obtain ⟨rfl, rfl⟩ := of_decide_eq_true hm
    obtain ⟨x, S', rfl, g1⟩ := p_i_s h
    exact st_i2b hd (hK _ _ _ g1)
  case i2s =>
    obtain ⟨r, len, hd, hm, rfl⟩ := zchR_s hc
    obtain ⟨rfl, rfl⟩ := of_decide_eq_true hm
    obtain ⟨x, S', rfl, g1⟩ := p_i_s h
    exact st_i2s hd (hK _ _ _ g1)
  case ireturn =>
    obtain ⟨r, len, hd, hm, rfl⟩ := zchR_s hc
    obtain ⟨rfl, e2, rfl⟩ := of_decide_eq_true hm
    have g : (match (generalizing := false) S with
      | [.int v] => res = [.int v] ∧ M' = M
      | _ => False) := h
    split at g
    · obtain ⟨rfl, rfl⟩ := g
      exact st_ireturn hd e2
    · exact g.elim
  case lreturn =>
    obtain ⟨r, len, hd, hm, rfl⟩ := zchR_s hc
    obtain ⟨rfl, e2, rfl⟩ := of_decide_eq_true hm
    have g : (match (generalizing := false) S with
      | [.long v] => res = [.long v] ∧ M' = M
      | _ => False) := h
    split at g
    · obtain ⟨rfl, rfl⟩ := g
      exact st_lreturn hd e2
    · exact g.elim
  case areturn =>
    obtain ⟨r, len, hd, hm, rfl⟩ := zchR_s hc
    obtain ⟨rfl, e2, rfl⟩ := of_decide_eq_true hm
    have g : (match (generalizing := false) S with
      | [.ref v] => res = [.ref v] ∧ M' = M
      | _ => False) := h
    split at g
    · obtain ⟨rfl, rfl⟩ := g
      exact st_areturn hd e2
    · exact g.elim
  case return_ =>
    obtain ⟨r, len, hd, hm, rfl⟩ := zchR_s hc
    obtain ⟨rfl, e2, rfl⟩ := of_decide_eq_true hm
    have g : (match (generalizing := false) S with
      | [] => res = [] ∧ M' = M
      | _ => False) := h
    split at g
    · obtain ⟨rfl, rfl⟩ := g
      exact st_return hd e2
    · exact g.elim
  case freturn =>
    obtain ⟨r, len, hd, hm, rfl⟩ := zchR_s hc
    obtain ⟨rfl, e2, rfl⟩ := of_decide_eq_true hm
    have g : (match (generalizing := false) S with
      | [.int v] => (v = 0 ∨ v = 1) ∧ res = [.int v] ∧ M' = M
      | _ => False) := h
    split at g
    · obtain ⟨h1, rfl, rfl⟩ := g
      exact st_zreturn h1 hd e2
    · exact g.elim
  all_goals exact False.elim h
/-- instructions one behind another; a jump comes to J -/
def evP (X : zX) (J : Nat → List (Option Value) → List Value → zM → Prop) (res : List Value) (M' : zM) : List Instr → List (Option Value) → List Value → zM → Prop
  | [], _, _, _ => False
  | i :: cs, L, S, M => stp X J res M' i L S M (fun L S M => evP X J res M' cs L S M)
def zck (k : Nat) : Nat → List Instr → Bool
  | _, [] => true
  | pc, i :: cs => match zch k pc i with
    | some pc' => zck k pc' cs
    | none => false
/-- THE BLOCK RULE -/
theorem At.blk {X : zX} {k : Nat} {M' : zM} {res : List Value} : ∀ (cs : List Instr) {pc : Nat} {L : List (Option Value)} {S : List Value} {M : zM}, zck k pc cs = true → evP X (fun t L S M => At X k t L S M res M') res M' cs L S M → At X k pc L S M res M'
  | [], _, _, _, _, _, h => False.elim h
  | i :: cs, pc, L, S, M, hc, h => by
    unfold zck at hc
    split at hc
    · rename_i pc' hi
      exact sd_stp hi (fun t L S M q => q) (fun L S M q => At.blk cs hc q) h
    · cases hc
end
