section
-- ===== PART A: goes FIRST, ahead of the names: the tables' words, and 'selects' of the private methods out of them =====
/-- a private method of a class that the tables say can be made, by its rows of tables_1 -/
def lw_okq (q : MethodName × Nat) : Prop := (q.1.cls ≠ "java/lang/invoke/MethodHandle" ∧ q.1.cls ≠ "java/lang/invoke/VarHandle") ∧ Cond.instantiable q.1.cls q.2 ∈ tables_1 ∧ Cond.privateMethod q.1 ∈ tables_1 ∧ Cond.instanceMethod q.1 ∈ tables_1
theorem lw_p0 : lw_okq (⟨"SalaryLid$Reader", "readSlots", "()Z"⟩, 7) := ⟨⟨by decide +kernel, by decide +kernel⟩, List.mem_of_getElem? (i := 48) (by decide +kernel), List.mem_of_getElem? (i := 452) (by decide +kernel), List.mem_of_getElem? (i := 453) (by decide +kernel)⟩
theorem lw_p1 : lw_okq (⟨"SalaryLid$Reader", "step", "()V"⟩, 7) := ⟨⟨by decide +kernel, by decide +kernel⟩, List.mem_of_getElem? (i := 48) (by decide +kernel), List.mem_of_getElem? (i := 456) (by decide +kernel), List.mem_of_getElem? (i := 457) (by decide +kernel)⟩
theorem lw_p2 : lw_okq (⟨"SalaryLid$Reader", "stepOverLetters", "()V"⟩, 7) := ⟨⟨by decide +kernel, by decide +kernel⟩, List.mem_of_getElem? (i := 48) (by decide +kernel), List.mem_of_getElem? (i := 469) (by decide +kernel), List.mem_of_getElem? (i := 470) (by decide +kernel)⟩
theorem lw_p3 : lw_okq (⟨"SalaryLid$Reader", "stepOverDigits", "()V"⟩, 7) := ⟨⟨by decide +kernel, by decide +kernel⟩, List.mem_of_getElem? (i := 48) (by decide +kernel), List.mem_of_getElem? (i := 477) (by decide +kernel), List.mem_of_getElem? (i := 478) (by decide +kernel)⟩
theorem lw_p4 : lw_okq (⟨"SalaryLid$Reader", "isWord", "(Ljava/lang/String;)Z"⟩, 7) := ⟨⟨by decide +kernel, by decide +kernel⟩, List.mem_of_getElem? (i := 48) (by decide +kernel), List.mem_of_getElem? (i := 482) (by decide +kernel), List.mem_of_getElem? (i := 483) (by decide +kernel)⟩
theorem lw_p5 : lw_okq (⟨"SalaryLid$Reader", "isNumber", "(III)Z"⟩, 7) := ⟨⟨by decide +kernel, by decide +kernel⟩, List.mem_of_getElem? (i := 48) (by decide +kernel), List.mem_of_getElem? (i := 534) (by decide +kernel), List.mem_of_getElem? (i := 535) (by decide +kernel)⟩
theorem lw_p6 : lw_okq (⟨"SalaryLid$Reader", "readLines", "()Z"⟩, 7) := ⟨⟨by decide +kernel, by decide +kernel⟩, List.mem_of_getElem? (i := 48) (by decide +kernel), List.mem_of_getElem? (i := 538) (by decide +kernel), List.mem_of_getElem? (i := 539) (by decide +kernel)⟩
theorem lw_p7 : lw_okq (⟨"SalaryLid$Reader", "isSign", "(I)Z"⟩, 7) := ⟨⟨by decide +kernel, by decide +kernel⟩, List.mem_of_getElem? (i := 48) (by decide +kernel), List.mem_of_getElem? (i := 542) (by decide +kernel), List.mem_of_getElem? (i := 543) (by decide +kernel)⟩
theorem lw_p8 : lw_okq (⟨"SalaryLid$Reader", "readLine", "()Z"⟩, 7) := ⟨⟨by decide +kernel, by decide +kernel⟩, List.mem_of_getElem? (i := 48) (by decide +kernel), List.mem_of_getElem? (i := 546) (by decide +kernel), List.mem_of_getElem? (i := 547) (by decide +kernel)⟩
theorem lw_p9 : lw_okq (⟨"SalaryLid$Reader", "ruleNamed", "()I"⟩, 7) := ⟨⟨by decide +kernel, by decide +kernel⟩, List.mem_of_getElem? (i := 48) (by decide +kernel), List.mem_of_getElem? (i := 550) (by decide +kernel), List.mem_of_getElem? (i := 551) (by decide +kernel)⟩
theorem lw_p10 : lw_okq (⟨"SalaryLid$Reader", "readRule", "(I)Z"⟩, 7) := ⟨⟨by decide +kernel, by decide +kernel⟩, List.mem_of_getElem? (i := 48) (by decide +kernel), List.mem_of_getElem? (i := 563) (by decide +kernel), List.mem_of_getElem? (i := 564) (by decide +kernel)⟩
theorem lw_p11 : lw_okq (⟨"SalaryLid$Reader", "placeNamed", "()I"⟩, 7) := ⟨⟨by decide +kernel, by decide +kernel⟩, List.mem_of_getElem? (i := 48) (by decide +kernel), List.mem_of_getElem? (i := 573) (by decide +kernel), List.mem_of_getElem? (i := 574) (by decide +kernel)⟩
theorem lw_p12 : lw_okq (⟨"SalaryLid$Reader", "readPlayer", "(I)Z"⟩, 7) := ⟨⟨by decide +kernel, by decide +kernel⟩, List.mem_of_getElem? (i := 48) (by decide +kernel), List.mem_of_getElem? (i := 577) (by decide +kernel), List.mem_of_getElem? (i := 578) (by decide +kernel)⟩
theorem lw_p13 : lw_okq (⟨"SalaryLid$Reader", "clubNamed", "()I"⟩, 7) := ⟨⟨by decide +kernel, by decide +kernel⟩, List.mem_of_getElem? (i := 48) (by decide +kernel), List.mem_of_getElem? (i := 581) (by decide +kernel), List.mem_of_getElem? (i := 582) (by decide +kernel)⟩
theorem lw_p14 : lw_okq (⟨"SalaryLid$Reader", "readPoints", "()Z"⟩, 7) := ⟨⟨by decide +kernel, by decide +kernel⟩, List.mem_of_getElem? (i := 48) (by decide +kernel), List.mem_of_getElem? (i := 585) (by decide +kernel), List.mem_of_getElem? (i := 586) (by decide +kernel)⟩
theorem lw_p15 : lw_okq (⟨"SalaryLid$League", "moved", "(II)I"⟩, 10) := ⟨⟨by decide +kernel, by decide +kernel⟩, List.mem_of_getElem? (i := 319) (by decide +kernel), List.mem_of_getElem? (i := 601) (by decide +kernel), List.mem_of_getElem? (i := 602) (by decide +kernel)⟩
def lw_privs_1 : List (MethodName × Nat) := [(⟨"SalaryLid$Reader", "readSlots", "()Z"⟩, 7), (⟨"SalaryLid$Reader", "step", "()V"⟩, 7), (⟨"SalaryLid$Reader", "stepOverLetters", "()V"⟩, 7), (⟨"SalaryLid$Reader", "stepOverDigits", "()V"⟩, 7), (⟨"SalaryLid$Reader", "isWord", "(Ljava/lang/String;)Z"⟩, 7), (⟨"SalaryLid$Reader", "isNumber", "(III)Z"⟩, 7), (⟨"SalaryLid$Reader", "readLines", "()Z"⟩, 7), (⟨"SalaryLid$Reader", "isSign", "(I)Z"⟩, 7), (⟨"SalaryLid$Reader", "readLine", "()Z"⟩, 7), (⟨"SalaryLid$Reader", "ruleNamed", "()I"⟩, 7), (⟨"SalaryLid$Reader", "readRule", "(I)Z"⟩, 7), (⟨"SalaryLid$Reader", "placeNamed", "()I"⟩, 7), (⟨"SalaryLid$Reader", "readPlayer", "(I)Z"⟩, 7), (⟨"SalaryLid$Reader", "clubNamed", "()I"⟩, 7), (⟨"SalaryLid$Reader", "readPoints", "()Z"⟩, 7), (⟨"SalaryLid$League", "moved", "(II)I"⟩, 10)]
theorem lw_r1 : ∀ q ∈ lw_privs_1, lw_okq q := List.forall_mem_cons.mpr ⟨lw_p0, List.forall_mem_cons.mpr ⟨lw_p1, List.forall_mem_cons.mpr ⟨lw_p2, List.forall_mem_cons.mpr ⟨lw_p3, List.forall_mem_cons.mpr ⟨lw_p4, List.forall_mem_cons.mpr ⟨lw_p5, List.forall_mem_cons.mpr ⟨lw_p6, List.forall_mem_cons.mpr ⟨lw_p7, List.forall_mem_cons.mpr ⟨lw_p8, List.forall_mem_cons.mpr ⟨lw_p9, List.forall_mem_cons.mpr ⟨lw_p10, List.forall_mem_cons.mpr ⟨lw_p11, List.forall_mem_cons.mpr ⟨lw_p12, List.forall_mem_cons.mpr ⟨lw_p13, List.forall_mem_cons.mpr ⟨lw_p14, List.forall_mem_cons.mpr ⟨lw_p15, fun _ h => absurd h List.not_mem_nil⟩⟩⟩⟩⟩⟩⟩⟩⟩⟩⟩⟩⟩⟩⟩⟩
theorem lw_p16 : lw_okq (⟨"SalaryLid$TeamTable", "makeRows", "()V"⟩, 13) := ⟨⟨by decide +kernel, by decide +kernel⟩, List.mem_of_getElem? (i := 76) (by decide +kernel), List.mem_of_getElem? (i := 615) (by decide +kernel), List.mem_of_getElem? (i := 616) (by decide +kernel)⟩
theorem lw_p17 : lw_okq (⟨"SalaryLid$TeamTable", "addTeam", "(I)V"⟩, 13) := ⟨⟨by decide +kernel, by decide +kernel⟩, List.mem_of_getElem? (i := 76) (by decide +kernel), List.mem_of_getElem? (i := 637) (by decide +kernel), List.mem_of_getElem? (i := 638) (by decide +kernel)⟩
theorem lw_p18 : lw_okq (⟨"SalaryLid$League", "sumOf", "(I[I)I"⟩, 10) := ⟨⟨by decide +kernel, by decide +kernel⟩, List.mem_of_getElem? (i := 319) (by decide +kernel), List.mem_of_getElem? (i := 645) (by decide +kernel), List.mem_of_getElem? (i := 646) (by decide +kernel)⟩
theorem lw_p19 : lw_okq (⟨"SalaryLid", "isPlayer", "(I)Z"⟩, 13) := ⟨⟨by decide +kernel, by decide +kernel⟩, List.mem_of_getElem? (i := 24) (by decide +kernel), List.mem_of_getElem? (i := 666) (by decide +kernel), List.mem_of_getElem? (i := 667) (by decide +kernel)⟩
theorem lw_p20 : lw_okq (⟨"SalaryLid", "isWeek", "(I)Z"⟩, 13) := ⟨⟨by decide +kernel, by decide +kernel⟩, List.mem_of_getElem? (i := 24) (by decide +kernel), List.mem_of_getElem? (i := 674) (by decide +kernel), List.mem_of_getElem? (i := 675) (by decide +kernel)⟩
theorem lw_p21 : lw_okq (⟨"SalaryLid", "whyNotBegin", "(I)I"⟩, 13) := ⟨⟨by decide +kernel, by decide +kernel⟩, List.mem_of_getElem? (i := 24) (by decide +kernel), List.mem_of_getElem? (i := 702) (by decide +kernel), List.mem_of_getElem? (i := 703) (by decide +kernel)⟩
theorem lw_p22 : lw_okq (⟨"SalaryLid", "refuse", "(I)I"⟩, 13) := ⟨⟨by decide +kernel, by decide +kernel⟩, List.mem_of_getElem? (i := 24) (by decide +kernel), List.mem_of_getElem? (i := 712) (by decide +kernel), List.mem_of_getElem? (i := 713) (by decide +kernel)⟩
theorem lw_p23 : lw_okq (⟨"SalaryLid", "keepAct", "()V"⟩, 13) := ⟨⟨by decide +kernel, by decide +kernel⟩, List.mem_of_getElem? (i := 24) (by decide +kernel), List.mem_of_getElem? (i := 716) (by decide +kernel), List.mem_of_getElem? (i := 717) (by decide +kernel)⟩
theorem lw_p24 : lw_okq (⟨"SalaryLid", "whyNotSwap", "(II)I"⟩, 13) := ⟨⟨by decide +kernel, by decide +kernel⟩, List.mem_of_getElem? (i := 24) (by decide +kernel), List.mem_of_getElem? (i := 742) (by decide +kernel), List.mem_of_getElem? (i := 743) (by decide +kernel)⟩
theorem lw_p25 : lw_okq (⟨"SalaryLid", "inPlay", "()Z"⟩, 13) := ⟨⟨by decide +kernel, by decide +kernel⟩, List.mem_of_getElem? (i := 24) (by decide +kernel), List.mem_of_getElem? (i := 746) (by decide +kernel), List.mem_of_getElem? (i := 747) (by decide +kernel)⟩
theorem lw_p26 : lw_okq (⟨"SalaryLid", "weeksAreLeft", "()Z"⟩, 13) := ⟨⟨by decide +kernel, by decide +kernel⟩, List.mem_of_getElem? (i := 24) (by decide +kernel), List.mem_of_getElem? (i := 750) (by decide +kernel), List.mem_of_getElem? (i := 751) (by decide +kernel)⟩
theorem lw_p27 : lw_okq (⟨"SalaryLid", "whyNotLoan", "(I)I"⟩, 13) := ⟨⟨by decide +kernel, by decide +kernel⟩, List.mem_of_getElem? (i := 24) (by decide +kernel), List.mem_of_getElem? (i := 781) (by decide +kernel), List.mem_of_getElem? (i := 782) (by decide +kernel)⟩
theorem lw_p28 : lw_okq (⟨"SalaryLid$Season", "swapsPaid", "()I"⟩, 13) := ⟨⟨by decide +kernel, by decide +kernel⟩, List.mem_of_getElem? (i := 130) (by decide +kernel), List.mem_of_getElem? (i := 802) (by decide +kernel), List.mem_of_getElem? (i := 803) (by decide +kernel)⟩
theorem lw_p29 : lw_okq (⟨"SalaryLid$Season", "swapsOfFree", "()I"⟩, 13) := ⟨⟨by decide +kernel, by decide +kernel⟩, List.mem_of_getElem? (i := 130) (by decide +kernel), List.mem_of_getElem? (i := 806) (by decide +kernel), List.mem_of_getElem? (i := 807) (by decide +kernel)⟩
theorem lw_p30 : lw_okq (⟨"SalaryLid$Season", "tell", "(IIII)V"⟩, 13) := ⟨⟨by decide +kernel, by decide +kernel⟩, List.mem_of_getElem? (i := 130) (by decide +kernel), List.mem_of_getElem? (i := 813) (by decide +kernel), List.mem_of_getElem? (i := 814) (by decide +kernel)⟩
theorem lw_p31 : lw_okq (⟨"SalaryLid", "wasPlayed", "(I)Z"⟩, 13) := ⟨⟨by decide +kernel, by decide +kernel⟩, List.mem_of_getElem? (i := 24) (by decide +kernel), List.mem_of_getElem? (i := 822) (by decide +kernel), List.mem_of_getElem? (i := 823) (by decide +kernel)⟩
def lw_privs_2 : List (MethodName × Nat) := [(⟨"SalaryLid$TeamTable", "makeRows", "()V"⟩, 13), (⟨"SalaryLid$TeamTable", "addTeam", "(I)V"⟩, 13), (⟨"SalaryLid$League", "sumOf", "(I[I)I"⟩, 10), (⟨"SalaryLid", "isPlayer", "(I)Z"⟩, 13), (⟨"SalaryLid", "isWeek", "(I)Z"⟩, 13), (⟨"SalaryLid", "whyNotBegin", "(I)I"⟩, 13), (⟨"SalaryLid", "refuse", "(I)I"⟩, 13), (⟨"SalaryLid", "keepAct", "()V"⟩, 13), (⟨"SalaryLid", "whyNotSwap", "(II)I"⟩, 13), (⟨"SalaryLid", "inPlay", "()Z"⟩, 13), (⟨"SalaryLid", "weeksAreLeft", "()Z"⟩, 13), (⟨"SalaryLid", "whyNotLoan", "(I)I"⟩, 13), (⟨"SalaryLid$Season", "swapsPaid", "()I"⟩, 13), (⟨"SalaryLid$Season", "swapsOfFree", "()I"⟩, 13), (⟨"SalaryLid$Season", "tell", "(IIII)V"⟩, 13), (⟨"SalaryLid", "wasPlayed", "(I)Z"⟩, 13)]
theorem lw_r2 : ∀ q ∈ lw_privs_2, lw_okq q := List.forall_mem_cons.mpr ⟨lw_p16, List.forall_mem_cons.mpr ⟨lw_p17, List.forall_mem_cons.mpr ⟨lw_p18, List.forall_mem_cons.mpr ⟨lw_p19, List.forall_mem_cons.mpr ⟨lw_p20, List.forall_mem_cons.mpr ⟨lw_p21, List.forall_mem_cons.mpr ⟨lw_p22, List.forall_mem_cons.mpr ⟨lw_p23, List.forall_mem_cons.mpr ⟨lw_p24, List.forall_mem_cons.mpr ⟨lw_p25, List.forall_mem_cons.mpr ⟨lw_p26, List.forall_mem_cons.mpr ⟨lw_p27, List.forall_mem_cons.mpr ⟨lw_p28, List.forall_mem_cons.mpr ⟨lw_p29, List.forall_mem_cons.mpr ⟨lw_p30, List.forall_mem_cons.mpr ⟨lw_p31, fun _ h => absurd h List.not_mem_nil⟩⟩⟩⟩⟩⟩⟩⟩⟩⟩⟩⟩⟩⟩⟩⟩
theorem lw_p32 : lw_okq (⟨"SalaryLid", "bestNow", "(II)I"⟩, 13) := ⟨⟨by decide +kernel, by decide +kernel⟩, List.mem_of_getElem? (i := 24) (by decide +kernel), List.mem_of_getElem? (i := 856) (by decide +kernel), List.mem_of_getElem? (i := 857) (by decide +kernel)⟩
theorem lw_p33 : lw_okq (⟨"SalaryLid$TeamTable", "leastScore", "(III)I"⟩, 13) := ⟨⟨by decide +kernel, by decide +kernel⟩, List.mem_of_getElem? (i := 76) (by decide +kernel), List.mem_of_getElem? (i := 908) (by decide +kernel), List.mem_of_getElem? (i := 909) (by decide +kernel)⟩
theorem lw_p34 : lw_okq (⟨"SalaryLid$League", "outdoes", "(III)Z"⟩, 10) := ⟨⟨by decide +kernel, by decide +kernel⟩, List.mem_of_getElem? (i := 319) (by decide +kernel), List.mem_of_getElem? (i := 930) (by decide +kernel), List.mem_of_getElem? (i := 931) (by decide +kernel)⟩
theorem lw_p35 : lw_okq (⟨"SalaryLid$SwapSearch", "start", "(LSalaryLid$League;LSalaryLid$Season;)V"⟩, 7) := ⟨⟨by decide +kernel, by decide +kernel⟩, List.mem_of_getElem? (i := 222) (by decide +kernel), List.mem_of_getElem? (i := 987) (by decide +kernel), List.mem_of_getElem? (i := 988) (by decide +kernel)⟩
theorem lw_p36 : lw_okq (⟨"SalaryLid$SwapSearch", "bringsNow", "(II)I"⟩, 7) := ⟨⟨by decide +kernel, by decide +kernel⟩, List.mem_of_getElem? (i := 222) (by decide +kernel), List.mem_of_getElem? (i := 992) (by decide +kernel), List.mem_of_getElem? (i := 993) (by decide +kernel)⟩
theorem lw_p37 : lw_okq (⟨"SalaryLid$SwapSearch", "canFollow", "(IIII)Z"⟩, 7) := ⟨⟨by decide +kernel, by decide +kernel⟩, List.mem_of_getElem? (i := 222) (by decide +kernel), List.mem_of_getElem? (i := 997) (by decide +kernel), List.mem_of_getElem? (i := 998) (by decide +kernel)⟩
theorem lw_p38 : lw_okq (⟨"SalaryLid$SwapSearch", "weigh", "(IIII)V"⟩, 7) := ⟨⟨by decide +kernel, by decide +kernel⟩, List.mem_of_getElem? (i := 222) (by decide +kernel), List.mem_of_getElem? (i := 1002) (by decide +kernel), List.mem_of_getElem? (i := 1003) (by decide +kernel)⟩
theorem lw_p39 : lw_okq (⟨"SalaryLid$SwapSearch", "findSecond", "(III)V"⟩, 7) := ⟨⟨by decide +kernel, by decide +kernel⟩, List.mem_of_getElem? (i := 222) (by decide +kernel), List.mem_of_getElem? (i := 1014) (by decide +kernel), List.mem_of_getElem? (i := 1015) (by decide +kernel)⟩
theorem lw_p40 : lw_okq (⟨"SalaryLid", "isToCome", "(J)Z"⟩, 13) := ⟨⟨by decide +kernel, by decide +kernel⟩, List.mem_of_getElem? (i := 24) (by decide +kernel), List.mem_of_getElem? (i := 1023) (by decide +kernel), List.mem_of_getElem? (i := 1024) (by decide +kernel)⟩
theorem lw_p41 : lw_okq (⟨"SalaryLid$Planner", "makeRows", "()V"⟩, 18) := ⟨⟨by decide +kernel, by decide +kernel⟩, List.mem_of_getElem? (i := 252) (by decide +kernel), List.mem_of_getElem? (i := 1032) (by decide +kernel), List.mem_of_getElem? (i := 1033) (by decide +kernel)⟩
theorem lw_p42 : lw_okq (⟨"SalaryLid$Planner", "choose", "(LSalaryLid$TeamTable;I)V"⟩, 18) := ⟨⟨by decide +kernel, by decide +kernel⟩, List.mem_of_getElem? (i := 252) (by decide +kernel), List.mem_of_getElem? (i := 1037) (by decide +kernel), List.mem_of_getElem? (i := 1038) (by decide +kernel)⟩
theorem lw_p43 : lw_okq (⟨"SalaryLid$Planner", "setOwned", "()V"⟩, 18) := ⟨⟨by decide +kernel, by decide +kernel⟩, List.mem_of_getElem? (i := 252) (by decide +kernel), List.mem_of_getElem? (i := 1045) (by decide +kernel), List.mem_of_getElem? (i := 1046) (by decide +kernel)⟩
theorem lw_p44 : lw_okq (⟨"SalaryLid$Planner", "measure", "()V"⟩, 18) := ⟨⟨by decide +kernel, by decide +kernel⟩, List.mem_of_getElem? (i := 252) (by decide +kernel), List.mem_of_getElem? (i := 1049) (by decide +kernel), List.mem_of_getElem? (i := 1050) (by decide +kernel)⟩
theorem lw_p45 : lw_okq (⟨"SalaryLid$Planner", "clearEnd", "()V"⟩, 18) := ⟨⟨by decide +kernel, by decide +kernel⟩, List.mem_of_getElem? (i := 252) (by decide +kernel), List.mem_of_getElem? (i := 1058) (by decide +kernel), List.mem_of_getElem? (i := 1059) (by decide +kernel)⟩
theorem lw_p46 : lw_okq (⟨"SalaryLid$Planner", "valueWeek", "(I)V"⟩, 18) := ⟨⟨by decide +kernel, by decide +kernel⟩, List.mem_of_getElem? (i := 252) (by decide +kernel), List.mem_of_getElem? (i := 1062) (by decide +kernel), List.mem_of_getElem? (i := 1063) (by decide +kernel)⟩
theorem lw_p47 : lw_okq (⟨"SalaryLid$Planner", "wildValue", "(II)I"⟩, 18) := ⟨⟨by decide +kernel, by decide +kernel⟩, List.mem_of_getElem? (i := 252) (by decide +kernel), List.mem_of_getElem? (i := 1066) (by decide +kernel), List.mem_of_getElem? (i := 1067) (by decide +kernel)⟩
def lw_privs_3 : List (MethodName × Nat) := [(⟨"SalaryLid", "bestNow", "(II)I"⟩, 13), (⟨"SalaryLid$TeamTable", "leastScore", "(III)I"⟩, 13), (⟨"SalaryLid$League", "outdoes", "(III)Z"⟩, 10), (⟨"SalaryLid$SwapSearch", "start", "(LSalaryLid$League;LSalaryLid$Season;)V"⟩, 7), (⟨"SalaryLid$SwapSearch", "bringsNow", "(II)I"⟩, 7), (⟨"SalaryLid$SwapSearch", "canFollow", "(IIII)Z"⟩, 7), (⟨"SalaryLid$SwapSearch", "weigh", "(IIII)V"⟩, 7), (⟨"SalaryLid$SwapSearch", "findSecond", "(III)V"⟩, 7), (⟨"SalaryLid", "isToCome", "(J)Z"⟩, 13), (⟨"SalaryLid$Planner", "makeRows", "()V"⟩, 18), (⟨"SalaryLid$Planner", "choose", "(LSalaryLid$TeamTable;I)V"⟩, 18), (⟨"SalaryLid$Planner", "setOwned", "()V"⟩, 18), (⟨"SalaryLid$Planner", "measure", "()V"⟩, 18), (⟨"SalaryLid$Planner", "clearEnd", "()V"⟩, 18), (⟨"SalaryLid$Planner", "valueWeek", "(I)V"⟩, 18), (⟨"SalaryLid$Planner", "wildValue", "(II)I"⟩, 18)]
theorem lw_r3 : ∀ q ∈ lw_privs_3, lw_okq q := List.forall_mem_cons.mpr ⟨lw_p32, List.forall_mem_cons.mpr ⟨lw_p33, List.forall_mem_cons.mpr ⟨lw_p34, List.forall_mem_cons.mpr ⟨lw_p35, List.forall_mem_cons.mpr ⟨lw_p36, List.forall_mem_cons.mpr ⟨lw_p37, List.forall_mem_cons.mpr ⟨lw_p38, List.forall_mem_cons.mpr ⟨lw_p39, List.forall_mem_cons.mpr ⟨lw_p40, List.forall_mem_cons.mpr ⟨lw_p41, List.forall_mem_cons.mpr ⟨lw_p42, List.forall_mem_cons.mpr ⟨lw_p43, List.forall_mem_cons.mpr ⟨lw_p44, List.forall_mem_cons.mpr ⟨lw_p45, List.forall_mem_cons.mpr ⟨lw_p46, List.forall_mem_cons.mpr ⟨lw_p47, fun _ h => absurd h List.not_mem_nil⟩⟩⟩⟩⟩⟩⟩⟩⟩⟩⟩⟩⟩⟩⟩⟩
theorem lw_p48 : lw_okq (⟨"SalaryLid$Planner", "loanValue", "(III)I"⟩, 18) := ⟨⟨by decide +kernel, by decide +kernel⟩, List.mem_of_getElem? (i := 252) (by decide +kernel), List.mem_of_getElem? (i := 1073) (by decide +kernel), List.mem_of_getElem? (i := 1074) (by decide +kernel)⟩
theorem lw_p49 : lw_okq (⟨"SalaryLid$Planner", "swapValue", "(IIII)I"⟩, 18) := ⟨⟨by decide +kernel, by decide +kernel⟩, List.mem_of_getElem? (i := 252) (by decide +kernel), List.mem_of_getElem? (i := 1077) (by decide +kernel), List.mem_of_getElem? (i := 1078) (by decide +kernel)⟩
theorem lw_p50 : lw_okq (⟨"SalaryLid$Planner", "walk", "()V"⟩, 18) := ⟨⟨by decide +kernel, by decide +kernel⟩, List.mem_of_getElem? (i := 252) (by decide +kernel), List.mem_of_getElem? (i := 1084) (by decide +kernel), List.mem_of_getElem? (i := 1085) (by decide +kernel)⟩
theorem lw_p51 : lw_okq (⟨"SalaryLid$Planner", "take", "(I)V"⟩, 18) := ⟨⟨by decide +kernel, by decide +kernel⟩, List.mem_of_getElem? (i := 252) (by decide +kernel), List.mem_of_getElem? (i := 1088) (by decide +kernel), List.mem_of_getElem? (i := 1089) (by decide +kernel)⟩
theorem lw_p52 : lw_okq (⟨"SalaryLid$Planner", "mayTake", "(III)Z"⟩, 18) := ⟨⟨by decide +kernel, by decide +kernel⟩, List.mem_of_getElem? (i := 252) (by decide +kernel), List.mem_of_getElem? (i := 1092) (by decide +kernel), List.mem_of_getElem? (i := 1093) (by decide +kernel)⟩
theorem lw_p53 : lw_okq (⟨"SalaryLid$Planner", "optionValue", "(III)I"⟩, 18) := ⟨⟨by decide +kernel, by decide +kernel⟩, List.mem_of_getElem? (i := 252) (by decide +kernel), List.mem_of_getElem? (i := 1096) (by decide +kernel), List.mem_of_getElem? (i := 1097) (by decide +kernel)⟩
theorem lw_p54 : lw_okq (⟨"SalaryLid$Planner", "swapsUsed", "(III)I"⟩, 18) := ⟨⟨by decide +kernel, by decide +kernel⟩, List.mem_of_getElem? (i := 252) (by decide +kernel), List.mem_of_getElem? (i := 1100) (by decide +kernel), List.mem_of_getElem? (i := 1101) (by decide +kernel)⟩
theorem lw_p55 : lw_okq (⟨"SalaryLid$Planner", "chipsWith", "(I)I"⟩, 18) := ⟨⟨by decide +kernel, by decide +kernel⟩, List.mem_of_getElem? (i := 252) (by decide +kernel), List.mem_of_getElem? (i := 1104) (by decide +kernel), List.mem_of_getElem? (i := 1105) (by decide +kernel)⟩
theorem lw_p56 : lw_okq (⟨"SalaryLid$Planner", "moveOn", "(III)V"⟩, 18) := ⟨⟨by decide +kernel, by decide +kernel⟩, List.mem_of_getElem? (i := 252) (by decide +kernel), List.mem_of_getElem? (i := 1108) (by decide +kernel), List.mem_of_getElem? (i := 1109) (by decide +kernel)⟩
theorem lw_p57 : lw_okq (⟨"java/lang/Throwable", "fillInStackTrace", "(I)Ljava/lang/Throwable;"⟩, 6) := ⟨⟨by decide +kernel, by decide +kernel⟩, List.mem_of_getElem? (i := 1209) (by decide +kernel), List.mem_of_getElem? (i := 1207) (by decide +kernel), List.mem_of_getElem? (i := 1208) (by decide +kernel)⟩
theorem lw_p58 : lw_okq (⟨"SalaryLidModel", "brings", "(I)V"⟩, 37) := ⟨⟨by decide +kernel, by decide +kernel⟩, List.mem_of_getElem? (i := 1234) (by decide +kernel), List.mem_of_getElem? (i := 1363) (by decide +kernel), List.mem_of_getElem? (i := 1364) (by decide +kernel)⟩
theorem lw_p59 : lw_okq (⟨"SalaryLidModel", "reads", "()I"⟩, 37) := ⟨⟨by decide +kernel, by decide +kernel⟩, List.mem_of_getElem? (i := 1234) (by decide +kernel), List.mem_of_getElem? (i := 1375) (by decide +kernel), List.mem_of_getElem? (i := 1376) (by decide +kernel)⟩
theorem lw_p60 : lw_okq (⟨"SalaryLidModel", "slots", "()V"⟩, 37) := ⟨⟨by decide +kernel, by decide +kernel⟩, List.mem_of_getElem? (i := 1234) (by decide +kernel), List.mem_of_getElem? (i := 1379) (by decide +kernel), List.mem_of_getElem? (i := 1380) (by decide +kernel)⟩
theorem lw_p61 : lw_okq (⟨"SalaryLidModel", "word", "(Ljava/lang/String;)Z"⟩, 37) := ⟨⟨by decide +kernel, by decide +kernel⟩, List.mem_of_getElem? (i := 1234) (by decide +kernel), List.mem_of_getElem? (i := 1384) (by decide +kernel), List.mem_of_getElem? (i := 1385) (by decide +kernel)⟩
theorem lw_p62 : lw_okq (⟨"SalaryLidModel", "look", "()I"⟩, 37) := ⟨⟨by decide +kernel, by decide +kernel⟩, List.mem_of_getElem? (i := 1234) (by decide +kernel), List.mem_of_getElem? (i := 1388) (by decide +kernel), List.mem_of_getElem? (i := 1389) (by decide +kernel)⟩
theorem lw_p63 : lw_okq (⟨"SalaryLidModel", "here", "()I"⟩, 37) := ⟨⟨by decide +kernel, by decide +kernel⟩, List.mem_of_getElem? (i := 1234) (by decide +kernel), List.mem_of_getElem? (i := 1392) (by decide +kernel), List.mem_of_getElem? (i := 1393) (by decide +kernel)⟩
def lw_privs_4 : List (MethodName × Nat) := [(⟨"SalaryLid$Planner", "loanValue", "(III)I"⟩, 18), (⟨"SalaryLid$Planner", "swapValue", "(IIII)I"⟩, 18), (⟨"SalaryLid$Planner", "walk", "()V"⟩, 18), (⟨"SalaryLid$Planner", "take", "(I)V"⟩, 18), (⟨"SalaryLid$Planner", "mayTake", "(III)Z"⟩, 18), (⟨"SalaryLid$Planner", "optionValue", "(III)I"⟩, 18), (⟨"SalaryLid$Planner", "swapsUsed", "(III)I"⟩, 18), (⟨"SalaryLid$Planner", "chipsWith", "(I)I"⟩, 18), (⟨"SalaryLid$Planner", "moveOn", "(III)V"⟩, 18), (⟨"java/lang/Throwable", "fillInStackTrace", "(I)Ljava/lang/Throwable;"⟩, 6), (⟨"SalaryLidModel", "brings", "(I)V"⟩, 37), (⟨"SalaryLidModel", "reads", "()I"⟩, 37), (⟨"SalaryLidModel", "slots", "()V"⟩, 37), (⟨"SalaryLidModel", "word", "(Ljava/lang/String;)Z"⟩, 37), (⟨"SalaryLidModel", "look", "()I"⟩, 37), (⟨"SalaryLidModel", "here", "()I"⟩, 37)]
theorem lw_r4 : ∀ q ∈ lw_privs_4, lw_okq q := List.forall_mem_cons.mpr ⟨lw_p48, List.forall_mem_cons.mpr ⟨lw_p49, List.forall_mem_cons.mpr ⟨lw_p50, List.forall_mem_cons.mpr ⟨lw_p51, List.forall_mem_cons.mpr ⟨lw_p52, List.forall_mem_cons.mpr ⟨lw_p53, List.forall_mem_cons.mpr ⟨lw_p54, List.forall_mem_cons.mpr ⟨lw_p55, List.forall_mem_cons.mpr ⟨lw_p56, List.forall_mem_cons.mpr ⟨lw_p57, List.forall_mem_cons.mpr ⟨lw_p58, List.forall_mem_cons.mpr ⟨lw_p59, List.forall_mem_cons.mpr ⟨lw_p60, List.forall_mem_cons.mpr ⟨lw_p61, List.forall_mem_cons.mpr ⟨lw_p62, List.forall_mem_cons.mpr ⟨lw_p63, fun _ h => absurd h List.not_mem_nil⟩⟩⟩⟩⟩⟩⟩⟩⟩⟩⟩⟩⟩⟩⟩⟩
theorem lw_p64 : lw_okq (⟨"SalaryLidModel", "fails", "(I)V"⟩, 37) := ⟨⟨by decide +kernel, by decide +kernel⟩, List.mem_of_getElem? (i := 1234) (by decide +kernel), List.mem_of_getElem? (i := 1398) (by decide +kernel), List.mem_of_getElem? (i := 1399) (by decide +kernel)⟩
theorem lw_p65 : lw_okq (⟨"SalaryLidModel", "number", "(III)I"⟩, 37) := ⟨⟨by decide +kernel, by decide +kernel⟩, List.mem_of_getElem? (i := 1234) (by decide +kernel), List.mem_of_getElem? (i := 1402) (by decide +kernel), List.mem_of_getElem? (i := 1403) (by decide +kernel)⟩
theorem lw_p66 : lw_okq (⟨"SalaryLidModel", "takes", "(I)Z"⟩, 37) := ⟨⟨by decide +kernel, by decide +kernel⟩, List.mem_of_getElem? (i := 1234) (by decide +kernel), List.mem_of_getElem? (i := 1410) (by decide +kernel), List.mem_of_getElem? (i := 1411) (by decide +kernel)⟩
theorem lw_p67 : lw_okq (⟨"SalaryLidModel", "line", "()V"⟩, 37) := ⟨⟨by decide +kernel, by decide +kernel⟩, List.mem_of_getElem? (i := 1234) (by decide +kernel), List.mem_of_getElem? (i := 1414) (by decide +kernel), List.mem_of_getElem? (i := 1415) (by decide +kernel)⟩
theorem lw_p68 : lw_okq (⟨"SalaryLidModel", "placeHere", "()I"⟩, 37) := ⟨⟨by decide +kernel, by decide +kernel⟩, List.mem_of_getElem? (i := 1234) (by decide +kernel), List.mem_of_getElem? (i := 1418) (by decide +kernel), List.mem_of_getElem? (i := 1419) (by decide +kernel)⟩
theorem lw_p69 : lw_okq (⟨"SalaryLidModel", "letter", "(II)I"⟩, 37) := ⟨⟨by decide +kernel, by decide +kernel⟩, List.mem_of_getElem? (i := 1234) (by decide +kernel), List.mem_of_getElem? (i := 1422) (by decide +kernel), List.mem_of_getElem? (i := 1423) (by decide +kernel)⟩
theorem lw_p70 : lw_okq (⟨"SalaryLidModel", "playerHere", "(II)V"⟩, 37) := ⟨⟨by decide +kernel, by decide +kernel⟩, List.mem_of_getElem? (i := 1234) (by decide +kernel), List.mem_of_getElem? (i := 1426) (by decide +kernel), List.mem_of_getElem? (i := 1427) (by decide +kernel)⟩
theorem lw_p71 : lw_okq (⟨"SalaryLidModel", "optionHere", "()I"⟩, 37) := ⟨⟨by decide +kernel, by decide +kernel⟩, List.mem_of_getElem? (i := 1234) (by decide +kernel), List.mem_of_getElem? (i := 1430) (by decide +kernel), List.mem_of_getElem? (i := 1431) (by decide +kernel)⟩
theorem lw_p72 : lw_okq (⟨"SalaryLidModel", "optionNumber", "(I)I"⟩, 37) := ⟨⟨by decide +kernel, by decide +kernel⟩, List.mem_of_getElem? (i := 1234) (by decide +kernel), List.mem_of_getElem? (i := 1443) (by decide +kernel), List.mem_of_getElem? (i := 1444) (by decide +kernel)⟩
theorem lw_p73 : lw_okq (⟨"SalaryLidModel", "laysTeams", "()V"⟩, 37) := ⟨⟨by decide +kernel, by decide +kernel⟩, List.mem_of_getElem? (i := 1234) (by decide +kernel), List.mem_of_getElem? (i := 1451) (by decide +kernel), List.mem_of_getElem? (i := 1452) (by decide +kernel)⟩
theorem lw_p74 : lw_okq (⟨"SalaryLidModel", "size", "()I"⟩, 37) := ⟨⟨by decide +kernel, by decide +kernel⟩, List.mem_of_getElem? (i := 1234) (by decide +kernel), List.mem_of_getElem? (i := 1458) (by decide +kernel), List.mem_of_getElem? (i := 1459) (by decide +kernel)⟩
theorem lw_p75 : lw_okq (⟨"SalaryLidModel", "hasSlots", "(I)Z"⟩, 37) := ⟨⟨by decide +kernel, by decide +kernel⟩, List.mem_of_getElem? (i := 1234) (by decide +kernel), List.mem_of_getElem? (i := 1462) (by decide +kernel), List.mem_of_getElem? (i := 1463) (by decide +kernel)⟩
theorem lw_p76 : lw_okq (⟨"SalaryLidModel", "placesIn", "(II)I"⟩, 37) := ⟨⟨by decide +kernel, by decide +kernel⟩, List.mem_of_getElem? (i := 1234) (by decide +kernel), List.mem_of_getElem? (i := 1466) (by decide +kernel), List.mem_of_getElem? (i := 1467) (by decide +kernel)⟩
theorem lw_p77 : lw_okq (⟨"SalaryLidModel", "hasClubs", "(I)Z"⟩, 37) := ⟨⟨by decide +kernel, by decide +kernel⟩, List.mem_of_getElem? (i := 1234) (by decide +kernel), List.mem_of_getElem? (i := 1470) (by decide +kernel), List.mem_of_getElem? (i := 1471) (by decide +kernel)⟩
theorem lw_p78 : lw_okq (⟨"SalaryLidModel", "isPlayer", "(I)Z"⟩, 37) := ⟨⟨by decide +kernel, by decide +kernel⟩, List.mem_of_getElem? (i := 1234) (by decide +kernel), List.mem_of_getElem? (i := 1484) (by decide +kernel), List.mem_of_getElem? (i := 1485) (by decide +kernel)⟩
theorem lw_p79 : lw_okq (⟨"SalaryLidModel", "priceOf", "(I)I"⟩, 37) := ⟨⟨by decide +kernel, by decide +kernel⟩, List.mem_of_getElem? (i := 1234) (by decide +kernel), List.mem_of_getElem? (i := 1489) (by decide +kernel), List.mem_of_getElem? (i := 1490) (by decide +kernel)⟩
def lw_privs_5 : List (MethodName × Nat) := [(⟨"SalaryLidModel", "fails", "(I)V"⟩, 37), (⟨"SalaryLidModel", "number", "(III)I"⟩, 37), (⟨"SalaryLidModel", "takes", "(I)Z"⟩, 37), (⟨"SalaryLidModel", "line", "()V"⟩, 37), (⟨"SalaryLidModel", "placeHere", "()I"⟩, 37), (⟨"SalaryLidModel", "letter", "(II)I"⟩, 37), (⟨"SalaryLidModel", "playerHere", "(II)V"⟩, 37), (⟨"SalaryLidModel", "optionHere", "()I"⟩, 37), (⟨"SalaryLidModel", "optionNumber", "(I)I"⟩, 37), (⟨"SalaryLidModel", "laysTeams", "()V"⟩, 37), (⟨"SalaryLidModel", "size", "()I"⟩, 37), (⟨"SalaryLidModel", "hasSlots", "(I)Z"⟩, 37), (⟨"SalaryLidModel", "placesIn", "(II)I"⟩, 37), (⟨"SalaryLidModel", "hasClubs", "(I)Z"⟩, 37), (⟨"SalaryLidModel", "isPlayer", "(I)Z"⟩, 37), (⟨"SalaryLidModel", "priceOf", "(I)I"⟩, 37)]
theorem lw_r5 : ∀ q ∈ lw_privs_5, lw_okq q := List.forall_mem_cons.mpr ⟨lw_p64, List.forall_mem_cons.mpr ⟨lw_p65, List.forall_mem_cons.mpr ⟨lw_p66, List.forall_mem_cons.mpr ⟨lw_p67, List.forall_mem_cons.mpr ⟨lw_p68, List.forall_mem_cons.mpr ⟨lw_p69, List.forall_mem_cons.mpr ⟨lw_p70, List.forall_mem_cons.mpr ⟨lw_p71, List.forall_mem_cons.mpr ⟨lw_p72, List.forall_mem_cons.mpr ⟨lw_p73, List.forall_mem_cons.mpr ⟨lw_p74, List.forall_mem_cons.mpr ⟨lw_p75, List.forall_mem_cons.mpr ⟨lw_p76, List.forall_mem_cons.mpr ⟨lw_p77, List.forall_mem_cons.mpr ⟨lw_p78, List.forall_mem_cons.mpr ⟨lw_p79, fun _ h => absurd h List.not_mem_nil⟩⟩⟩⟩⟩⟩⟩⟩⟩⟩⟩⟩⟩⟩⟩⟩
theorem lw_p80 : lw_okq (⟨"SalaryLidModel", "isOwned", "(I)Z"⟩, 37) := ⟨⟨by decide +kernel, by decide +kernel⟩, List.mem_of_getElem? (i := 1234) (by decide +kernel), List.mem_of_getElem? (i := 1493) (by decide +kernel), List.mem_of_getElem? (i := 1494) (by decide +kernel)⟩
theorem lw_p81 : lw_okq (⟨"SalaryLidModel", "brings2", "(I)I"⟩, 37) := ⟨⟨by decide +kernel, by decide +kernel⟩, List.mem_of_getElem? (i := 1234) (by decide +kernel), List.mem_of_getElem? (i := 1497) (by decide +kernel), List.mem_of_getElem? (i := 1498) (by decide +kernel)⟩
theorem lw_p82 : lw_okq (⟨"SalaryLidModel", "pointsIn", "(II)I"⟩, 37) := ⟨⟨by decide +kernel, by decide +kernel⟩, List.mem_of_getElem? (i := 1234) (by decide +kernel), List.mem_of_getElem? (i := 1501) (by decide +kernel), List.mem_of_getElem? (i := 1502) (by decide +kernel)⟩
theorem lw_p83 : lw_okq (⟨"SalaryLidModel", "isWeek", "(I)Z"⟩, 37) := ⟨⟨by decide +kernel, by decide +kernel⟩, List.mem_of_getElem? (i := 1234) (by decide +kernel), List.mem_of_getElem? (i := 1509) (by decide +kernel), List.mem_of_getElem? (i := 1510) (by decide +kernel)⟩
theorem lw_p84 : lw_okq (⟨"SalaryLidModel", "worth", "()I"⟩, 37) := ⟨⟨by decide +kernel, by decide +kernel⟩, List.mem_of_getElem? (i := 1234) (by decide +kernel), List.mem_of_getElem? (i := 1517) (by decide +kernel), List.mem_of_getElem? (i := 1518) (by decide +kernel)⟩
theorem lw_p85 : lw_okq (⟨"SalaryLidModel", "refuse", "(I)I"⟩, 37) := ⟨⟨by decide +kernel, by decide +kernel⟩, List.mem_of_getElem? (i := 1234) (by decide +kernel), List.mem_of_getElem? (i := 1525) (by decide +kernel), List.mem_of_getElem? (i := 1526) (by decide +kernel)⟩
theorem lw_p86 : lw_okq (⟨"SalaryLidModel", "isSet", "(I)Z"⟩, 37) := ⟨⟨by decide +kernel, by decide +kernel⟩, List.mem_of_getElem? (i := 1234) (by decide +kernel), List.mem_of_getElem? (i := 1529) (by decide +kernel), List.mem_of_getElem? (i := 1530) (by decide +kernel)⟩
theorem lw_p87 : lw_okq (⟨"SalaryLidModel", "isTeam", "(I)Z"⟩, 37) := ⟨⟨by decide +kernel, by decide +kernel⟩, List.mem_of_getElem? (i := 1234) (by decide +kernel), List.mem_of_getElem? (i := 1533) (by decide +kernel), List.mem_of_getElem? (i := 1534) (by decide +kernel)⟩
theorem lw_p88 : lw_okq (⟨"SalaryLidModel", "pricesOf", "(I)I"⟩, 37) := ⟨⟨by decide +kernel, by decide +kernel⟩, List.mem_of_getElem? (i := 1234) (by decide +kernel), List.mem_of_getElem? (i := 1537) (by decide +kernel), List.mem_of_getElem? (i := 1538) (by decide +kernel)⟩
theorem lw_p89 : lw_okq (⟨"SalaryLidModel", "keeps", "()V"⟩, 37) := ⟨⟨by decide +kernel, by decide +kernel⟩, List.mem_of_getElem? (i := 1234) (by decide +kernel), List.mem_of_getElem? (i := 1541) (by decide +kernel), List.mem_of_getElem? (i := 1542) (by decide +kernel)⟩
theorem lw_p90 : lw_okq (⟨"SalaryLidModel", "isPlaying", "()Z"⟩, 37) := ⟨⟨by decide +kernel, by decide +kernel⟩, List.mem_of_getElem? (i := 1234) (by decide +kernel), List.mem_of_getElem? (i := 1552) (by decide +kernel), List.mem_of_getElem? (i := 1553) (by decide +kernel)⟩
theorem lw_p91 : lw_okq (⟨"SalaryLidModel", "swapped", "(II)I"⟩, 37) := ⟨⟨by decide +kernel, by decide +kernel⟩, List.mem_of_getElem? (i := 1234) (by decide +kernel), List.mem_of_getElem? (i := 1556) (by decide +kernel), List.mem_of_getElem? (i := 1557) (by decide +kernel)⟩
theorem lw_p92 : lw_okq (⟨"SalaryLidModel", "bestCaptain", "(II)I"⟩, 37) := ⟨⟨by decide +kernel, by decide +kernel⟩, List.mem_of_getElem? (i := 1234) (by decide +kernel), List.mem_of_getElem? (i := 1572) (by decide +kernel), List.mem_of_getElem? (i := 1573) (by decide +kernel)⟩
theorem lw_p93 : lw_okq (⟨"SalaryLidModel", "pointsOf", "(II)I"⟩, 37) := ⟨⟨by decide +kernel, by decide +kernel⟩, List.mem_of_getElem? (i := 1234) (by decide +kernel), List.mem_of_getElem? (i := 1580) (by decide +kernel), List.mem_of_getElem? (i := 1581) (by decide +kernel)⟩
theorem lw_p94 : lw_okq (⟨"SalaryLidModel", "paid", "(II)I"⟩, 37) := ⟨⟨by decide +kernel, by decide +kernel⟩, List.mem_of_getElem? (i := 1234) (by decide +kernel), List.mem_of_getElem? (i := 1584) (by decide +kernel), List.mem_of_getElem? (i := 1585) (by decide +kernel)⟩
theorem lw_p95 : lw_okq (⟨"SalaryLidModel", "moved", "(III)I"⟩, 37) := ⟨⟨by decide +kernel, by decide +kernel⟩, List.mem_of_getElem? (i := 1234) (by decide +kernel), List.mem_of_getElem? (i := 1593) (by decide +kernel), List.mem_of_getElem? (i := 1594) (by decide +kernel)⟩
def lw_privs_6 : List (MethodName × Nat) := [(⟨"SalaryLidModel", "isOwned", "(I)Z"⟩, 37), (⟨"SalaryLidModel", "brings2", "(I)I"⟩, 37), (⟨"SalaryLidModel", "pointsIn", "(II)I"⟩, 37), (⟨"SalaryLidModel", "isWeek", "(I)Z"⟩, 37), (⟨"SalaryLidModel", "worth", "()I"⟩, 37), (⟨"SalaryLidModel", "refuse", "(I)I"⟩, 37), (⟨"SalaryLidModel", "isSet", "(I)Z"⟩, 37), (⟨"SalaryLidModel", "isTeam", "(I)Z"⟩, 37), (⟨"SalaryLidModel", "pricesOf", "(I)I"⟩, 37), (⟨"SalaryLidModel", "keeps", "()V"⟩, 37), (⟨"SalaryLidModel", "isPlaying", "()Z"⟩, 37), (⟨"SalaryLidModel", "swapped", "(II)I"⟩, 37), (⟨"SalaryLidModel", "bestCaptain", "(II)I"⟩, 37), (⟨"SalaryLidModel", "pointsOf", "(II)I"⟩, 37), (⟨"SalaryLidModel", "paid", "(II)I"⟩, 37), (⟨"SalaryLidModel", "moved", "(III)I"⟩, 37)]
theorem lw_r6 : ∀ q ∈ lw_privs_6, lw_okq q := List.forall_mem_cons.mpr ⟨lw_p80, List.forall_mem_cons.mpr ⟨lw_p81, List.forall_mem_cons.mpr ⟨lw_p82, List.forall_mem_cons.mpr ⟨lw_p83, List.forall_mem_cons.mpr ⟨lw_p84, List.forall_mem_cons.mpr ⟨lw_p85, List.forall_mem_cons.mpr ⟨lw_p86, List.forall_mem_cons.mpr ⟨lw_p87, List.forall_mem_cons.mpr ⟨lw_p88, List.forall_mem_cons.mpr ⟨lw_p89, List.forall_mem_cons.mpr ⟨lw_p90, List.forall_mem_cons.mpr ⟨lw_p91, List.forall_mem_cons.mpr ⟨lw_p92, List.forall_mem_cons.mpr ⟨lw_p93, List.forall_mem_cons.mpr ⟨lw_p94, List.forall_mem_cons.mpr ⟨lw_p95, fun _ h => absurd h List.not_mem_nil⟩⟩⟩⟩⟩⟩⟩⟩⟩⟩⟩⟩⟩⟩⟩⟩
theorem lw_p96 : lw_okq (⟨"SalaryLidModel", "teamsUnder", "(I)I"⟩, 37) := ⟨⟨by decide +kernel, by decide +kernel⟩, List.mem_of_getElem? (i := 1234) (by decide +kernel), List.mem_of_getElem? (i := 1613) (by decide +kernel), List.mem_of_getElem? (i := 1614) (by decide +kernel)⟩
theorem lw_p97 : lw_okq (⟨"SalaryLidModel", "bestTeam", "(II)I"⟩, 37) := ⟨⟨by decide +kernel, by decide +kernel⟩, List.mem_of_getElem? (i := 1234) (by decide +kernel), List.mem_of_getElem? (i := 1622) (by decide +kernel), List.mem_of_getElem? (i := 1623) (by decide +kernel)⟩
theorem lw_p98 : lw_okq (⟨"SalaryLidModel", "withBest", "(II)I"⟩, 37) := ⟨⟨by decide +kernel, by decide +kernel⟩, List.mem_of_getElem? (i := 1234) (by decide +kernel), List.mem_of_getElem? (i := 1626) (by decide +kernel), List.mem_of_getElem? (i := 1627) (by decide +kernel)⟩
theorem lw_p99 : lw_okq (⟨"SalaryLidModel", "isOver", "()Z"⟩, 37) := ⟨⟨by decide +kernel, by decide +kernel⟩, List.mem_of_getElem? (i := 1234) (by decide +kernel), List.mem_of_getElem? (i := 1642) (by decide +kernel), List.mem_of_getElem? (i := 1643) (by decide +kernel)⟩
theorem lw_p100 : lw_okq (⟨"SalaryLidModel", "outdoneBy", "(I)I"⟩, 37) := ⟨⟨by decide +kernel, by decide +kernel⟩, List.mem_of_getElem? (i := 1234) (by decide +kernel), List.mem_of_getElem? (i := 1646) (by decide +kernel), List.mem_of_getElem? (i := 1647) (by decide +kernel)⟩
theorem lw_p101 : lw_okq (⟨"SalaryLidModel", "outdoes", "(II)Z"⟩, 37) := ⟨⟨by decide +kernel, by decide +kernel⟩, List.mem_of_getElem? (i := 1234) (by decide +kernel), List.mem_of_getElem? (i := 1650) (by decide +kernel), List.mem_of_getElem? (i := 1651) (by decide +kernel)⟩
theorem lw_p102 : lw_okq (⟨"SalaryLidModel", "foretold", "(II)I"⟩, 37) := ⟨⟨by decide +kernel, by decide +kernel⟩, List.mem_of_getElem? (i := 1234) (by decide +kernel), List.mem_of_getElem? (i := 1662) (by decide +kernel), List.mem_of_getElem? (i := 1663) (by decide +kernel)⟩
theorem lw_p103 : lw_okq (⟨"SalaryLidModel", "leastPoints", "(I)I"⟩, 37) := ⟨⟨by decide +kernel, by decide +kernel⟩, List.mem_of_getElem? (i := 1234) (by decide +kernel), List.mem_of_getElem? (i := 1678) (by decide +kernel), List.mem_of_getElem? (i := 1679) (by decide +kernel)⟩
theorem lw_p104 : lw_okq (⟨"SalaryLidModel", "laysMost", "(I)V"⟩, 37) := ⟨⟨by decide +kernel, by decide +kernel⟩, List.mem_of_getElem? (i := 1234) (by decide +kernel), List.mem_of_getElem? (i := 1686) (by decide +kernel), List.mem_of_getElem? (i := 1687) (by decide +kernel)⟩
theorem lw_p105 : lw_okq (⟨"SalaryLidModel", "second", "(III)V"⟩, 37) := ⟨⟨by decide +kernel, by decide +kernel⟩, List.mem_of_getElem? (i := 1234) (by decide +kernel), List.mem_of_getElem? (i := 1703) (by decide +kernel), List.mem_of_getElem? (i := 1704) (by decide +kernel)⟩
theorem lw_p106 : lw_okq (⟨"SalaryLidModel", "laysChoices", "()V"⟩, 37) := ⟨⟨by decide +kernel, by decide +kernel⟩, List.mem_of_getElem? (i := 1234) (by decide +kernel), List.mem_of_getElem? (i := 1713) (by decide +kernel), List.mem_of_getElem? (i := 1714) (by decide +kernel)⟩
theorem lw_p107 : lw_okq (⟨"SalaryLidModel", "laysValues", "()V"⟩, 37) := ⟨⟨by decide +kernel, by decide +kernel⟩, List.mem_of_getElem? (i := 1234) (by decide +kernel), List.mem_of_getElem? (i := 1717) (by decide +kernel), List.mem_of_getElem? (i := 1718) (by decide +kernel)⟩
theorem lw_p108 : lw_okq (⟨"SalaryLidModel", "laysValue", "(IIII)V"⟩, 37) := ⟨⟨by decide +kernel, by decide +kernel⟩, List.mem_of_getElem? (i := 1234) (by decide +kernel), List.mem_of_getElem? (i := 1724) (by decide +kernel), List.mem_of_getElem? (i := 1725) (by decide +kernel)⟩
theorem lw_p109 : lw_okq (⟨"SalaryLidModel", "isLent", "(I)Z"⟩, 37) := ⟨⟨by decide +kernel, by decide +kernel⟩, List.mem_of_getElem? (i := 1234) (by decide +kernel), List.mem_of_getElem? (i := 1728) (by decide +kernel), List.mem_of_getElem? (i := 1729) (by decide +kernel)⟩
theorem lw_p110 : lw_okq (⟨"SalaryLidModel", "isFirst", "(I)Z"⟩, 37) := ⟨⟨by decide +kernel, by decide +kernel⟩, List.mem_of_getElem? (i := 1234) (by decide +kernel), List.mem_of_getElem? (i := 1732) (by decide +kernel), List.mem_of_getElem? (i := 1733) (by decide +kernel)⟩
theorem lw_p111 : lw_okq (⟨"SalaryLidModel", "lentScore", "(IIII)I"⟩, 37) := ⟨⟨by decide +kernel, by decide +kernel⟩, List.mem_of_getElem? (i := 1234) (by decide +kernel), List.mem_of_getElem? (i := 1736) (by decide +kernel), List.mem_of_getElem? (i := 1737) (by decide +kernel)⟩
def lw_privs_7 : List (MethodName × Nat) := [(⟨"SalaryLidModel", "teamsUnder", "(I)I"⟩, 37), (⟨"SalaryLidModel", "bestTeam", "(II)I"⟩, 37), (⟨"SalaryLidModel", "withBest", "(II)I"⟩, 37), (⟨"SalaryLidModel", "isOver", "()Z"⟩, 37), (⟨"SalaryLidModel", "outdoneBy", "(I)I"⟩, 37), (⟨"SalaryLidModel", "outdoes", "(II)Z"⟩, 37), (⟨"SalaryLidModel", "foretold", "(II)I"⟩, 37), (⟨"SalaryLidModel", "leastPoints", "(I)I"⟩, 37), (⟨"SalaryLidModel", "laysMost", "(I)V"⟩, 37), (⟨"SalaryLidModel", "second", "(III)V"⟩, 37), (⟨"SalaryLidModel", "laysChoices", "()V"⟩, 37), (⟨"SalaryLidModel", "laysValues", "()V"⟩, 37), (⟨"SalaryLidModel", "laysValue", "(IIII)V"⟩, 37), (⟨"SalaryLidModel", "isLent", "(I)Z"⟩, 37), (⟨"SalaryLidModel", "isFirst", "(I)Z"⟩, 37), (⟨"SalaryLidModel", "lentScore", "(IIII)I"⟩, 37)]
theorem lw_r7 : ∀ q ∈ lw_privs_7, lw_okq q := List.forall_mem_cons.mpr ⟨lw_p96, List.forall_mem_cons.mpr ⟨lw_p97, List.forall_mem_cons.mpr ⟨lw_p98, List.forall_mem_cons.mpr ⟨lw_p99, List.forall_mem_cons.mpr ⟨lw_p100, List.forall_mem_cons.mpr ⟨lw_p101, List.forall_mem_cons.mpr ⟨lw_p102, List.forall_mem_cons.mpr ⟨lw_p103, List.forall_mem_cons.mpr ⟨lw_p104, List.forall_mem_cons.mpr ⟨lw_p105, List.forall_mem_cons.mpr ⟨lw_p106, List.forall_mem_cons.mpr ⟨lw_p107, List.forall_mem_cons.mpr ⟨lw_p108, List.forall_mem_cons.mpr ⟨lw_p109, List.forall_mem_cons.mpr ⟨lw_p110, List.forall_mem_cons.mpr ⟨lw_p111, fun _ h => absurd h List.not_mem_nil⟩⟩⟩⟩⟩⟩⟩⟩⟩⟩⟩⟩⟩⟩⟩⟩
theorem lw_p112 : lw_okq (⟨"SalaryLidModel", "steps", "(IIIIII)Z"⟩, 37) := ⟨⟨by decide +kernel, by decide +kernel⟩, List.mem_of_getElem? (i := 1234) (by decide +kernel), List.mem_of_getElem? (i := 1740) (by decide +kernel), List.mem_of_getElem? (i := 1741) (by decide +kernel)⟩
theorem lw_p113 : lw_okq (⟨"SalaryLidModel", "ahead", "(I)I"⟩, 37) := ⟨⟨by decide +kernel, by decide +kernel⟩, List.mem_of_getElem? (i := 1234) (by decide +kernel), List.mem_of_getElem? (i := 1744) (by decide +kernel), List.mem_of_getElem? (i := 1745) (by decide +kernel)⟩
theorem lw_p114 : lw_okq (⟨"SalaryLidModel", "laysPlan", "()V"⟩, 37) := ⟨⟨by decide +kernel, by decide +kernel⟩, List.mem_of_getElem? (i := 1234) (by decide +kernel), List.mem_of_getElem? (i := 1748) (by decide +kernel), List.mem_of_getElem? (i := 1749) (by decide +kernel)⟩
theorem lw_p115 : lw_okq (⟨"SalaryLidModel", "rivalMany", "()I"⟩, 37) := ⟨⟨by decide +kernel, by decide +kernel⟩, List.mem_of_getElem? (i := 1234) (by decide +kernel), List.mem_of_getElem? (i := 1756) (by decide +kernel), List.mem_of_getElem? (i := 1757) (by decide +kernel)⟩
theorem lw_p116 : lw_okq (⟨"SalaryLidModel", "toldPrices", "(I)I"⟩, 37) := ⟨⟨by decide +kernel, by decide +kernel⟩, List.mem_of_getElem? (i := 1234) (by decide +kernel), List.mem_of_getElem? (i := 1760) (by decide +kernel), List.mem_of_getElem? (i := 1761) (by decide +kernel)⟩
theorem lw_p117 : lw_okq (⟨"SalaryLidModel", "rivalTeam", "(JI)I"⟩, 37) := ⟨⟨by decide +kernel, by decide +kernel⟩, List.mem_of_getElem? (i := 1234) (by decide +kernel), List.mem_of_getElem? (i := 1764) (by decide +kernel), List.mem_of_getElem? (i := 1765) (by decide +kernel)⟩
theorem lw_p118 : lw_okq (⟨"SalaryLidModel", "allWeeks", "(I)I"⟩, 37) := ⟨⟨by decide +kernel, by decide +kernel⟩, List.mem_of_getElem? (i := 1234) (by decide +kernel), List.mem_of_getElem? (i := 1770) (by decide +kernel), List.mem_of_getElem? (i := 1771) (by decide +kernel)⟩
theorem lw_p119 : lw_okq (⟨"SalaryLidModel", "mostOf", "(I)I"⟩, 37) := ⟨⟨by decide +kernel, by decide +kernel⟩, List.mem_of_getElem? (i := 1234) (by decide +kernel), List.mem_of_getElem? (i := 1806) (by decide +kernel), List.mem_of_getElem? (i := 1807) (by decide +kernel)⟩
theorem lw_p120 : lw_okq (⟨"SalaryLidModel", "outdoneMany", "()I"⟩, 37) := ⟨⟨by decide +kernel, by decide +kernel⟩, List.mem_of_getElem? (i := 1234) (by decide +kernel), List.mem_of_getElem? (i := 1810) (by decide +kernel), List.mem_of_getElem? (i := 1811) (by decide +kernel)⟩
theorem lw_p121 : lw_okq (⟨"SalaryLidModel", "fullestClub", "()I"⟩, 37) := ⟨⟨by decide +kernel, by decide +kernel⟩, List.mem_of_getElem? (i := 1234) (by decide +kernel), List.mem_of_getElem? (i := 1814) (by decide +kernel), List.mem_of_getElem? (i := 1815) (by decide +kernel)⟩
theorem lw_p122 : lw_okq (⟨"SalaryLidModel", "richestWeek", "()I"⟩, 37) := ⟨⟨by decide +kernel, by decide +kernel⟩, List.mem_of_getElem? (i := 1234) (by decide +kernel), List.mem_of_getElem? (i := 1818) (by decide +kernel), List.mem_of_getElem? (i := 1819) (by decide +kernel)⟩
def lw_privs_8 : List (MethodName × Nat) := [(⟨"SalaryLidModel", "steps", "(IIIIII)Z"⟩, 37), (⟨"SalaryLidModel", "ahead", "(I)I"⟩, 37), (⟨"SalaryLidModel", "laysPlan", "()V"⟩, 37), (⟨"SalaryLidModel", "rivalMany", "()I"⟩, 37), (⟨"SalaryLidModel", "toldPrices", "(I)I"⟩, 37), (⟨"SalaryLidModel", "rivalTeam", "(JI)I"⟩, 37), (⟨"SalaryLidModel", "allWeeks", "(I)I"⟩, 37), (⟨"SalaryLidModel", "mostOf", "(I)I"⟩, 37), (⟨"SalaryLidModel", "outdoneMany", "()I"⟩, 37), (⟨"SalaryLidModel", "fullestClub", "()I"⟩, 37), (⟨"SalaryLidModel", "richestWeek", "()I"⟩, 37)]
theorem lw_r8 : ∀ q ∈ lw_privs_8, lw_okq q := List.forall_mem_cons.mpr ⟨lw_p112, List.forall_mem_cons.mpr ⟨lw_p113, List.forall_mem_cons.mpr ⟨lw_p114, List.forall_mem_cons.mpr ⟨lw_p115, List.forall_mem_cons.mpr ⟨lw_p116, List.forall_mem_cons.mpr ⟨lw_p117, List.forall_mem_cons.mpr ⟨lw_p118, List.forall_mem_cons.mpr ⟨lw_p119, List.forall_mem_cons.mpr ⟨lw_p120, List.forall_mem_cons.mpr ⟨lw_p121, List.forall_mem_cons.mpr ⟨lw_p122, fun _ h => absurd h List.not_mem_nil⟩⟩⟩⟩⟩⟩⟩⟩⟩⟩⟩
def lw_privs : List (MethodName × Nat) := lw_privs_1 ++ (lw_privs_2 ++ (lw_privs_3 ++ (lw_privs_4 ++ (lw_privs_5 ++ (lw_privs_6 ++ (lw_privs_7 ++ (lw_privs_8)))))))
def lw_tbl : List Cond := k2_sels lw_privs ++ tables_1
theorem lw_privs_ok : ∀ q ∈ lw_privs, lw_okq q := by
  show ∀ q ∈ lw_privs_1 ++ (lw_privs_2 ++ (lw_privs_3 ++ (lw_privs_4 ++ (lw_privs_5 ++ (lw_privs_6 ++ (lw_privs_7 ++ (lw_privs_8))))))), lw_okq q
  exact List.forall_mem_append.mpr ⟨lw_r1, List.forall_mem_append.mpr ⟨lw_r2, List.forall_mem_append.mpr ⟨lw_r3, List.forall_mem_append.mpr ⟨lw_r4, List.forall_mem_append.mpr ⟨lw_r5, List.forall_mem_append.mpr ⟨lw_r6, List.forall_mem_append.mpr ⟨lw_r7, lw_r8⟩⟩⟩⟩⟩⟩⟩
end
section
/-! ===== the pure interpreter: plain instructions ===== -/
/-- the words that stay true along a run -/
def z_ws : List Cond := lw_tbl.filter goodWord
theorem z_ws_in {w : Cond} (h : w ∈ lw_tbl) (hg : goodWord w = true) : w ∈ z_ws := List.mem_filter.mpr ⟨h, hg⟩
/-- the pure heap: numbers (int fields, elements), references (fields, elements), the next free address -/
abbrev z_H : Type := (Nat → Nat → Int32) × (Nat → Nat → Option Nat) × Nat
abbrev z_L : Type := List (Option Value)
abbrev z_R : Type := Option (Option Value × z_H)
/-- what goes on: pc, locals, stack, heap, cells, slots -/
abbrev z_K : Type := Nat → z_L → List Value → z_H → Nat → Nat → z_R
def z_up {α : Type} (f : Nat → Nat → α) (a i : Nat) (v : α) : Nat → Nat → α := fun b j => if b = a ∧ j = i then v else f b j
def z_len : Instr → Nat
  | .bipush _ => 2
  | .sipush _ => 3
  | .iload _ => 2
  | .lload _ => 2
  | .aload _ => 2
  | .istore _ => 2
  | .lstore _ => 2
  | .astore _ => 2
  | .iinc _ _ => 3
  | .ifCond _ _ => 3
  | .if_icmp _ _ => 3
  | .goto _ => 3
  | _ => 1
def z_const : Instr → Option Value
  | .iconst n => some (.int (Int32.ofInt n))
  | .bipush n => some (.int (Int8.ofInt n).toInt32)
  | .sipush n => some (.int (Int16.ofInt n).toInt32)
  | .lconst n => some (.long (Int64.ofNat (n : Nat)))
  | _ => none
/-- kind (0 int, 1 long, 2 reference) and place -/
def z_load : Instr → Option (Nat × Nat)
  | .iload i => some (0, i)
  | .iload_n i => some (0, i.val)
  | .lload i => some (1, i)
  | .lload_n i => some (1, i.val)
  | .aload i => some (2, i)
  | .aload_n i => some (2, i.val)
  | _ => none
def z_store : Instr → Option (Nat × Nat)
  | .istore i => some (0, i)
  | .istore_n i => some (0, i.val)
  | .lstore i => some (1, i)
  | .lstore_n i => some (1, i.val)
  | .astore i => some (2, i)
  | .astore_n i => some (2, i.val)
  | _ => none
def z_bin : Instr → Option (Int32 → Int32 → Int32)
  | .iadd => some (fun x y => x + y)
  | .isub => some (fun x y => x - y)
  | .imul => some (fun x y => x * y)
  | .iand => some (fun x y => x &&& y)
  | .ior => some (fun x y => x ||| y)
  | .ixor => some (fun x y => x ^^^ y)
  | .ishl => some (fun x y => x <<< (y &&& 31))
  | .ishr => some (fun x y => x >>> (y &&& 31))
  | .iushr => some (fun x y => (x.toUInt32 >>> (y.toUInt32 &&& Int32.toUInt32 31)).toInt32)
  | _ => none
def z_div : Instr → Option (Int32 → Int32 → Int32)
  | .idiv => some (fun x y => x / y)
  | .irem => some (fun x y => x - x / y * y)
  | _ => none
def z_lbin : Instr → Option (Int64 → Int64 → Int64)
  | .ladd => some (fun x y => x + y)
  | .lsub => some (fun x y => x - y)
  | .lmul => some (fun x y => x * y)
  | .land => some (fun x y => x &&& y)
  | .lor => some (fun x y => x ||| y)
  | _ => none
def z_un : Instr → Value → Option Value
  | .ineg, .int x => some (.int (-x))
  | .i2l, .int x => some (.long x.toInt64)
  | .l2i, .long x => some (.int x.toInt32)
  | .i2b, .int x => some (.int x.toInt8.toInt32)
  | _, _ => none
def z_cond : ClassFile.Cond → Int32 → Int32 → Bool
  | .eq, x, y => decide (x = y)
  | .ne, x, y => decide (¬ x = y)
  | .lt, x, y => decide (x < y)
  | .ge, x, y => decide (y ≤ x)
  | .gt, x, y => decide (y < x)
  | .le, x, y => decide (x ≤ y)
section ZPlain
variable {p : Program} {l : Launch} {e : Env} {R : Room} {s : State} {m : MethodId} {args : Array Value} {below : List Frame} {meth : Method} {c : Code} {H : Heap} {locs : List Loc} {cells slots : Nat} {Q : State → Prop}
variable {cc : ByteArray} {pc : Nat} {ls : Array Slot} {rest : List Value}
set_option maxHeartbeats 4000000 in
theorem zs_const (hx : p.tables.exec = Jvm.exec) (hb : c.code = cc) {I : Instr} {v : Value} (hI : z_const I = some v) (hd : decode cc pc = .ok (I, z_len I))
    (k : W p l e R s m args below meth c H locs cells slots Q (F0 m (pc + z_len I) ls (v :: rest))) : W p l e R s m args below meth c H locs cells slots Q (F0 m pc ls rest) := by
  cases I <;> first | (cases hI; done) | skip
  case iconst n => cases hI; exact lv_iconst hx hb hd rfl k
  case bipush n => cases hI; exact lv_bipush hx hb hd rfl k
  case sipush n => cases hI; exact lv_sipush hx hb hd rfl k
  case lconst n => cases hI; exact lv_lconst hx hb hd rfl k
set_option maxHeartbeats 4000000 in
theorem zs_bin (hx : p.tables.exec = Jvm.exec) (hb : c.code = cc) {I : Instr} {f : Int32 → Int32 → Int32} (hI : z_bin I = some f) (hd : decode cc pc = .ok (I, z_len I)) {x y : Int32}
    (k : W p l e R s m args below meth c H locs cells slots Q (F0 m (pc + z_len I) ls (.int (f x y) :: rest))) : W p l e R s m args below meth c H locs cells slots Q (F0 m pc ls (.int y :: .int x :: rest)) := by
  cases I <;> first | (cases hI; done) | skip
  case iadd => cases hI; exact lv_iadd hx hb hd k
  case isub => cases hI; exact lv_isub hx hb hd k
  case imul => cases hI; exact lv_imul hx hb hd k
  case iand => cases hI; exact lv_iand hx hb hd k
  case ior => cases hI; exact lv_ior hx hb hd k
  case ixor => cases hI; exact lv_ixor hx hb hd k
  case ishl => cases hI; exact lv_ishl hx hb hd k
  case ishr => cases hI; exact lv_ishr hx hb hd k
  case iushr => cases hI; exact lv_iushr hx hb hd rfl k
set_option maxHeartbeats 4000000 in
theorem zs_div (hx : p.tables.exec = Jvm.exec) (hb : c.code = cc) {I : Instr} {f : Int32 → Int32 → Int32} (hI : z_div I = some f) (hd : decode cc pc = .ok (I, z_len I)) {x y : Int32} (hy : ¬ y = 0)
    (k : W p l e R s m args below meth c H locs cells slots Q (F0 m (pc + z_len I) ls (.int (f x y) :: rest))) : W p l e R s m args below meth c H locs cells slots Q (F0 m pc ls (.int y :: .int x :: rest)) := by
  cases I <;> first | (cases hI; done) | skip
  case idiv => cases hI; exact lv_idiv hx hb hd hy k
  case irem => cases hI; exact lv_irem hx hb hd hy k
set_option maxHeartbeats 4000000 in
theorem zs_lbin (hx : p.tables.exec = Jvm.exec) (hb : c.code = cc) {I : Instr} {f : Int64 → Int64 → Int64} (hI : z_lbin I = some f) (hd : decode cc pc = .ok (I, z_len I)) {x y : Int64}
    (k : W p l e R s m args below meth c H locs cells slots Q (F0 m (pc + z_len I) ls (.long (f x y) :: rest))) : W p l e R s m args below meth c H locs cells slots Q (F0 m pc ls (.long y :: .long x :: rest)) := by
  cases I <;> first | (cases hI; done) | skip
  case ladd => cases hI; exact lv_ladd hx hb hd k
  case lsub => cases hI; exact lv_lsub hx hb hd k
  case lmul => cases hI; exact lv_lmul hx hb hd k
  case land => cases hI; exact lv_land hx hb hd k
  case lor => cases hI; exact lv_lor hx hb hd k
set_option maxHeartbeats 4000000 in
theorem zs_un (hx : p.tables.exec = Jvm.exec) (hb : c.code = cc) {I : Instr} {v w : Value} (hI : z_un I v = some w) (hd : decode cc pc = .ok (I, z_len I))
    (k : W p l e R s m args below meth c H locs cells slots Q (F0 m (pc + z_len I) ls (w :: rest))) : W p l e R s m args below meth c H locs cells slots Q (F0 m pc ls (v :: rest)) := by
  cases I <;> first | (cases hI; done) | skip
  case ineg => cases v <;> first | (cases hI; done) | (cases hI; exact lv_ineg hx hb hd k)
  case i2l => cases v <;> first | (cases hI; done) | (cases hI; exact lv_i2l hx hb hd rfl k)
  case l2i => cases v <;> first | (cases hI; done) | (cases hI; exact lv_l2i hx hb hd rfl k)
  case i2b => cases v <;> first | (cases hI; done) | (cases hI; exact lv_i2b hx hb hd rfl k)
set_option maxHeartbeats 4000000 in
theorem zs_icmp (hx : p.tables.exec = Jvm.exec) (hb : c.code = cc) {q : ClassFile.Cond} {off : Int} {tgt : Nat} {x y : Int32} (hd : decode cc pc = .ok (.if_icmp q off, 3)) (ht : (pc : Int) + off = (tgt : Int))
    (kt : z_cond q x y = true → W p l e R s m args below meth c H locs cells slots Q (F0 m tgt ls rest)) (kf : z_cond q x y = false → W p l e R s m args below meth c H locs cells slots Q (F0 m (pc + 3) ls rest)) : W p l e R s m args below meth c H locs cells slots Q (F0 m pc ls (.int y :: .int x :: rest)) := by
  cases q
  case eq => exact lv_icmp_eq hx hb hd ht (fun h => kt (decide_eq_true h)) (fun h => kf (decide_eq_false h))
  case ne => exact lv_icmp_ne hx hb hd ht (fun h => kt (decide_eq_true h)) (fun h => kf (decide_eq_false h))
  case lt => exact lv_icmp_lt hx hb hd ht (fun h => kt (decide_eq_true h)) (fun h => kf (decide_eq_false h))
  case ge => exact lv_icmp_ge hx hb hd ht (fun h => kt (decide_eq_true h)) (fun h => kf (decide_eq_false h))
  case gt => exact lv_icmp_gt hx hb hd ht (fun h => kt (decide_eq_true h)) (fun h => kf (decide_eq_false h))
  case le => exact lv_icmp_le hx hb hd ht (fun h => kt (decide_eq_true h)) (fun h => kf (decide_eq_false h))
set_option maxHeartbeats 4000000 in
theorem zs_if (hx : p.tables.exec = Jvm.exec) (hb : c.code = cc) {q : ClassFile.Cond} {off : Int} {tgt : Nat} {x : Int32} (hd : decode cc pc = .ok (.ifCond q off, 3)) (ht : (pc : Int) + off = (tgt : Int))
    (kt : z_cond q x 0 = true → W p l e R s m args below meth c H locs cells slots Q (F0 m tgt ls rest)) (kf : z_cond q x 0 = false → W p l e R s m args below meth c H locs cells slots Q (F0 m (pc + 3) ls rest)) : W p l e R s m args below meth c H locs cells slots Q (F0 m pc ls (.int x :: rest)) := by
  cases q
  case eq => exact lv_if_eq hx hb hd ht (fun h => kt (decide_eq_true h)) (fun h => kf (decide_eq_false h))
  case ne => exact lv_if_ne hx hb hd ht (fun h => kt (decide_eq_true h)) (fun h => kf (decide_eq_false h))
  case lt => exact lv_if_lt hx hb hd ht (fun h => kt (decide_eq_true h)) (fun h => kf (decide_eq_false h))
  case ge => exact lv_if_ge hx hb hd ht (fun h => kt (decide_eq_true h)) (fun h => kf (decide_eq_false h))
  case gt => exact lv_if_gt hx hb hd ht (fun h => kt (decide_eq_true h)) (fun h => kf (decide_eq_false h))
  case le => exact lv_if_le hx hb hd ht (fun h => kt (decide_eq_true h)) (fun h => kf (decide_eq_false h))
end ZPlain
end
