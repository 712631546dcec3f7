section
-- ===== PART A: goes FIRST, ahead of the names: the tables' words, and 'selects' of the private methods out of them =====
/-- a private method of a class that the tables say can be made, by its rows of tables_1 -/
def lw_okq (q : MethodName × Nat) : Prop := (q.1.cls ≠ "java/lang/invoke/MethodHandle" ∧ q.1.cls ≠ "java/lang/invoke/VarHandle") ∧ Cond.instantiable q.1.cls q.2 ∈ tables_1 ∧ Cond.privateMethod q.1 ∈ tables_1 ∧ Cond.instanceMethod q.1 ∈ tables_1
theorem lw_p0 : lw_okq (⟨"CourtMatcher", "changed", "()V"⟩, 17) := ⟨⟨by decide +kernel, by decide +kernel⟩, List.mem_of_getElem? (i := 18) (by decide +kernel), List.mem_of_getElem? (i := 426) (by decide +kernel), List.mem_of_getElem? (i := 427) (by decide +kernel)⟩
theorem lw_p1 : lw_okq (⟨"CourtMatcher", "refreshPlan", "()V"⟩, 17) := ⟨⟨by decide +kernel, by decide +kernel⟩, List.mem_of_getElem? (i := 18) (by decide +kernel), List.mem_of_getElem? (i := 448) (by decide +kernel), List.mem_of_getElem? (i := 449) (by decide +kernel)⟩
theorem lw_p2 : lw_okq (⟨"CourtMatcher$Teller", "fail", "(III)J"⟩, 7) := ⟨⟨by decide +kernel, by decide +kernel⟩, List.mem_of_getElem? (i := 140) (by decide +kernel), List.mem_of_getElem? (i := 493) (by decide +kernel), List.mem_of_getElem? (i := 494) (by decide +kernel)⟩
theorem lw_p3 : lw_okq (⟨"CourtMatcher$Plan", "force", "(II)V"⟩, 10) := ⟨⟨by decide +kernel, by decide +kernel⟩, List.mem_of_getElem? (i := 173) (by decide +kernel), List.mem_of_getElem? (i := 505) (by decide +kernel), List.mem_of_getElem? (i := 506) (by decide +kernel)⟩
theorem lw_p4 : lw_okq (⟨"CourtMatcher$Plan", "listCases", "()V"⟩, 10) := ⟨⟨by decide +kernel, by decide +kernel⟩, List.mem_of_getElem? (i := 173) (by decide +kernel), List.mem_of_getElem? (i := 513) (by decide +kernel), List.mem_of_getElem? (i := 514) (by decide +kernel)⟩
theorem lw_p5 : lw_okq (⟨"CourtMatcher$Plan", "weighFrom", "(IIZ)V"⟩, 10) := ⟨⟨by decide +kernel, by decide +kernel⟩, List.mem_of_getElem? (i := 173) (by decide +kernel), List.mem_of_getElem? (i := 527) (by decide +kernel), List.mem_of_getElem? (i := 528) (by decide +kernel)⟩
theorem lw_p6 : lw_okq (⟨"CourtMatcher$Tape", "step", "()V"⟩, 9) := ⟨⟨by decide +kernel, by decide +kernel⟩, List.mem_of_getElem? (i := 102) (by decide +kernel), List.mem_of_getElem? (i := 577) (by decide +kernel), List.mem_of_getElem? (i := 578) (by decide +kernel)⟩
theorem lw_p7 : lw_okq (⟨"CourtMatcher$Tape", "word", "(I)V"⟩, 9) := ⟨⟨by decide +kernel, by decide +kernel⟩, List.mem_of_getElem? (i := 102) (by decide +kernel), List.mem_of_getElem? (i := 584) (by decide +kernel), List.mem_of_getElem? (i := 585) (by decide +kernel)⟩
theorem lw_p8 : lw_okq (⟨"CourtMatcher$Tape", "nameOfOne", "(I)V"⟩, 9) := ⟨⟨by decide +kernel, by decide +kernel⟩, List.mem_of_getElem? (i := 102) (by decide +kernel), List.mem_of_getElem? (i := 588) (by decide +kernel), List.mem_of_getElem? (i := 589) (by decide +kernel)⟩
theorem lw_p9 : lw_okq (⟨"CourtMatcher$Tape", "nameOfThree", "(III)V"⟩, 9) := ⟨⟨by decide +kernel, by decide +kernel⟩, List.mem_of_getElem? (i := 102) (by decide +kernel), List.mem_of_getElem? (i := 592) (by decide +kernel), List.mem_of_getElem? (i := 593) (by decide +kernel)⟩
theorem lw_p10 : lw_okq (⟨"CourtMatcher$Tape", "digits", "(I)V"⟩, 9) := ⟨⟨by decide +kernel, by decide +kernel⟩, List.mem_of_getElem? (i := 102) (by decide +kernel), List.mem_of_getElem? (i := 599) (by decide +kernel), List.mem_of_getElem? (i := 600) (by decide +kernel)⟩
theorem lw_p11 : lw_okq (⟨"CourtMatcher$Tape", "expr", "()Z"⟩, 9) := ⟨⟨by decide +kernel, by decide +kernel⟩, List.mem_of_getElem? (i := 102) (by decide +kernel), List.mem_of_getElem? (i := 606) (by decide +kernel), List.mem_of_getElem? (i := 607) (by decide +kernel)⟩
theorem lw_p12 : lw_okq (⟨"CourtMatcher$Tape", "sum", "()Z"⟩, 9) := ⟨⟨by decide +kernel, by decide +kernel⟩, List.mem_of_getElem? (i := 102) (by decide +kernel), List.mem_of_getElem? (i := 610) (by decide +kernel), List.mem_of_getElem? (i := 611) (by decide +kernel)⟩
theorem lw_p13 : lw_okq (⟨"CourtMatcher$Tape", "product", "()Z"⟩, 9) := ⟨⟨by decide +kernel, by decide +kernel⟩, List.mem_of_getElem? (i := 102) (by decide +kernel), List.mem_of_getElem? (i := 614) (by decide +kernel), List.mem_of_getElem? (i := 615) (by decide +kernel)⟩
theorem lw_p14 : lw_okq (⟨"CourtMatcher$Tape", "factor", "()Z"⟩, 9) := ⟨⟨by decide +kernel, by decide +kernel⟩, List.mem_of_getElem? (i := 102) (by decide +kernel), List.mem_of_getElem? (i := 618) (by decide +kernel), List.mem_of_getElem? (i := 619) (by decide +kernel)⟩
theorem lw_p15 : lw_okq (⟨"CourtMatcher$Tape", "part", "()Z"⟩, 9) := ⟨⟨by decide +kernel, by decide +kernel⟩, List.mem_of_getElem? (i := 102) (by decide +kernel), List.mem_of_getElem? (i := 622) (by decide +kernel), List.mem_of_getElem? (i := 623) (by decide +kernel)⟩
def lw_privs_1 : List (MethodName × Nat) := [(⟨"CourtMatcher", "changed", "()V"⟩, 17), (⟨"CourtMatcher", "refreshPlan", "()V"⟩, 17), (⟨"CourtMatcher$Teller", "fail", "(III)J"⟩, 7), (⟨"CourtMatcher$Plan", "force", "(II)V"⟩, 10), (⟨"CourtMatcher$Plan", "listCases", "()V"⟩, 10), (⟨"CourtMatcher$Plan", "weighFrom", "(IIZ)V"⟩, 10), (⟨"CourtMatcher$Tape", "step", "()V"⟩, 9), (⟨"CourtMatcher$Tape", "word", "(I)V"⟩, 9), (⟨"CourtMatcher$Tape", "nameOfOne", "(I)V"⟩, 9), (⟨"CourtMatcher$Tape", "nameOfThree", "(III)V"⟩, 9), (⟨"CourtMatcher$Tape", "digits", "(I)V"⟩, 9), (⟨"CourtMatcher$Tape", "expr", "()Z"⟩, 9), (⟨"CourtMatcher$Tape", "sum", "()Z"⟩, 9), (⟨"CourtMatcher$Tape", "product", "()Z"⟩, 9), (⟨"CourtMatcher$Tape", "factor", "()Z"⟩, 9), (⟨"CourtMatcher$Tape", "part", "()Z"⟩, 9)]
theorem lw_r1 : ∀ q ∈ lw_privs_1, lw_okq q := List.forall_mem_cons.mpr ⟨lw_p0, List.forall_mem_cons.mpr ⟨lw_p1, List.forall_mem_cons.mpr ⟨lw_p2, List.forall_mem_cons.mpr ⟨lw_p3, List.forall_mem_cons.mpr ⟨lw_p4, List.forall_mem_cons.mpr ⟨lw_p5, List.forall_mem_cons.mpr ⟨lw_p6, List.forall_mem_cons.mpr ⟨lw_p7, List.forall_mem_cons.mpr ⟨lw_p8, List.forall_mem_cons.mpr ⟨lw_p9, List.forall_mem_cons.mpr ⟨lw_p10, List.forall_mem_cons.mpr ⟨lw_p11, List.forall_mem_cons.mpr ⟨lw_p12, List.forall_mem_cons.mpr ⟨lw_p13, List.forall_mem_cons.mpr ⟨lw_p14, List.forall_mem_cons.mpr ⟨lw_p15, fun _ h => absurd h List.not_mem_nil⟩⟩⟩⟩⟩⟩⟩⟩⟩⟩⟩⟩⟩⟩⟩⟩
theorem lw_p16 : lw_okq (⟨"CourtMatcher$Tape", "atom", "()Z"⟩, 9) := ⟨⟨by decide +kernel, by decide +kernel⟩, List.mem_of_getElem? (i := 102) (by decide +kernel), List.mem_of_getElem? (i := 626) (by decide +kernel), List.mem_of_getElem? (i := 627) (by decide +kernel)⟩
theorem lw_p17 : lw_okq (⟨"CourtMatcher$Tape", "enter", "()Z"⟩, 9) := ⟨⟨by decide +kernel, by decide +kernel⟩, List.mem_of_getElem? (i := 102) (by decide +kernel), List.mem_of_getElem? (i := 634) (by decide +kernel), List.mem_of_getElem? (i := 635) (by decide +kernel)⟩
theorem lw_p18 : lw_okq (⟨"CourtMatcher$Tape", "leave", "(I)Z"⟩, 9) := ⟨⟨by decide +kernel, by decide +kernel⟩, List.mem_of_getElem? (i := 102) (by decide +kernel), List.mem_of_getElem? (i := 638) (by decide +kernel), List.mem_of_getElem? (i := 639) (by decide +kernel)⟩
theorem lw_p19 : lw_okq (⟨"CourtMatcher$Tape", "function", "()Z"⟩, 9) := ⟨⟨by decide +kernel, by decide +kernel⟩, List.mem_of_getElem? (i := 102) (by decide +kernel), List.mem_of_getElem? (i := 642) (by decide +kernel), List.mem_of_getElem? (i := 643) (by decide +kernel)⟩
theorem lw_p20 : lw_okq (⟨"CourtMatcher$Rounds", "firstPay", "(LCourtMatcher$Plan;I)J"⟩, 6) := ⟨⟨by decide +kernel, by decide +kernel⟩, List.mem_of_getElem? (i := 259) (by decide +kernel), List.mem_of_getElem? (i := 705) (by decide +kernel), List.mem_of_getElem? (i := 706) (by decide +kernel)⟩
theorem lw_p21 : lw_okq (⟨"CourtMatcher$Rounds", "findTight", "(LCourtMatcher$Plan;)I"⟩, 6) := ⟨⟨by decide +kernel, by decide +kernel⟩, List.mem_of_getElem? (i := 259) (by decide +kernel), List.mem_of_getElem? (i := 712) (by decide +kernel), List.mem_of_getElem? (i := 713) (by decide +kernel)⟩
theorem lw_p22 : lw_okq (⟨"CourtMatcher$Rounds", "slack", "(LCourtMatcher$Plan;II)J"⟩, 6) := ⟨⟨by decide +kernel, by decide +kernel⟩, List.mem_of_getElem? (i := 259) (by decide +kernel), List.mem_of_getElem? (i := 717) (by decide +kernel), List.mem_of_getElem? (i := 718) (by decide +kernel)⟩
theorem lw_p23 : lw_okq (⟨"CourtMatcher$Greatest", "grow", "([II)Z"⟩, 7) := ⟨⟨by decide +kernel, by decide +kernel⟩, List.mem_of_getElem? (i := 225) (by decide +kernel), List.mem_of_getElem? (i := 726) (by decide +kernel), List.mem_of_getElem? (i := 727) (by decide +kernel)⟩
theorem lw_p24 : lw_okq (⟨"CourtMatcher$Greatest", "turn", "(I)V"⟩, 7) := ⟨⟨by decide +kernel, by decide +kernel⟩, List.mem_of_getElem? (i := 225) (by decide +kernel), List.mem_of_getElem? (i := 730) (by decide +kernel), List.mem_of_getElem? (i := 731) (by decide +kernel)⟩
theorem lw_p25 : lw_okq (⟨"CourtMatcher$Greatest", "spread", "([II)V"⟩, 7) := ⟨⟨by decide +kernel, by decide +kernel⟩, List.mem_of_getElem? (i := 225) (by decide +kernel), List.mem_of_getElem? (i := 734) (by decide +kernel), List.mem_of_getElem? (i := 735) (by decide +kernel)⟩
theorem lw_p26 : lw_okq (⟨"CourtMatcher$Rounds", "leastSlack", "(LCourtMatcher$Plan;II)J"⟩, 6) := ⟨⟨by decide +kernel, by decide +kernel⟩, List.mem_of_getElem? (i := 259) (by decide +kernel), List.mem_of_getElem? (i := 738) (by decide +kernel), List.mem_of_getElem? (i := 739) (by decide +kernel)⟩
theorem lw_p27 : lw_okq (⟨"CourtMatcher$Rounds", "keep", "(IILCourtMatcher$Greatest;)V"⟩, 6) := ⟨⟨by decide +kernel, by decide +kernel⟩, List.mem_of_getElem? (i := 259) (by decide +kernel), List.mem_of_getElem? (i := 742) (by decide +kernel), List.mem_of_getElem? (i := 743) (by decide +kernel)⟩
theorem lw_p28 : lw_okq (⟨"CourtMatcher$Rounds", "raise", "(LCourtMatcher$Greatest;J)V"⟩, 6) := ⟨⟨by decide +kernel, by decide +kernel⟩, List.mem_of_getElem? (i := 259) (by decide +kernel), List.mem_of_getElem? (i := 749) (by decide +kernel), List.mem_of_getElem? (i := 750) (by decide +kernel)⟩
theorem lw_p29 : lw_okq (⟨"CourtMatcher$Plan", "leads", "(III)Z"⟩, 10) := ⟨⟨by decide +kernel, by decide +kernel⟩, List.mem_of_getElem? (i := 173) (by decide +kernel), List.mem_of_getElem? (i := 777) (by decide +kernel), List.mem_of_getElem? (i := 778) (by decide +kernel)⟩
theorem lw_p30 : lw_okq (⟨"CourtMatcher", "refreshShares", "()V"⟩, 17) := ⟨⟨by decide +kernel, by decide +kernel⟩, List.mem_of_getElem? (i := 18) (by decide +kernel), List.mem_of_getElem? (i := 785) (by decide +kernel), List.mem_of_getElem? (i := 786) (by decide +kernel)⟩
theorem lw_p31 : lw_okq (⟨"CourtMatcher$Plan", "shareFrom", "(II)V"⟩, 10) := ⟨⟨by decide +kernel, by decide +kernel⟩, List.mem_of_getElem? (i := 173) (by decide +kernel), List.mem_of_getElem? (i := 793) (by decide +kernel), List.mem_of_getElem? (i := 794) (by decide +kernel)⟩
def lw_privs_2 : List (MethodName × Nat) := [(⟨"CourtMatcher$Tape", "atom", "()Z"⟩, 9), (⟨"CourtMatcher$Tape", "enter", "()Z"⟩, 9), (⟨"CourtMatcher$Tape", "leave", "(I)Z"⟩, 9), (⟨"CourtMatcher$Tape", "function", "()Z"⟩, 9), (⟨"CourtMatcher$Rounds", "firstPay", "(LCourtMatcher$Plan;I)J"⟩, 6), (⟨"CourtMatcher$Rounds", "findTight", "(LCourtMatcher$Plan;)I"⟩, 6), (⟨"CourtMatcher$Rounds", "slack", "(LCourtMatcher$Plan;II)J"⟩, 6), (⟨"CourtMatcher$Greatest", "grow", "([II)Z"⟩, 7), (⟨"CourtMatcher$Greatest", "turn", "(I)V"⟩, 7), (⟨"CourtMatcher$Greatest", "spread", "([II)V"⟩, 7), (⟨"CourtMatcher$Rounds", "leastSlack", "(LCourtMatcher$Plan;II)J"⟩, 6), (⟨"CourtMatcher$Rounds", "keep", "(IILCourtMatcher$Greatest;)V"⟩, 6), (⟨"CourtMatcher$Rounds", "raise", "(LCourtMatcher$Greatest;J)V"⟩, 6), (⟨"CourtMatcher$Plan", "leads", "(III)Z"⟩, 10), (⟨"CourtMatcher", "refreshShares", "()V"⟩, 17), (⟨"CourtMatcher$Plan", "shareFrom", "(II)V"⟩, 10)]
theorem lw_r2 : ∀ q ∈ lw_privs_2, lw_okq q := List.forall_mem_cons.mpr ⟨lw_p16, List.forall_mem_cons.mpr ⟨lw_p17, List.forall_mem_cons.mpr ⟨lw_p18, List.forall_mem_cons.mpr ⟨lw_p19, List.forall_mem_cons.mpr ⟨lw_p20, List.forall_mem_cons.mpr ⟨lw_p21, List.forall_mem_cons.mpr ⟨lw_p22, List.forall_mem_cons.mpr ⟨lw_p23, List.forall_mem_cons.mpr ⟨lw_p24, List.forall_mem_cons.mpr ⟨lw_p25, List.forall_mem_cons.mpr ⟨lw_p26, List.forall_mem_cons.mpr ⟨lw_p27, List.forall_mem_cons.mpr ⟨lw_p28, List.forall_mem_cons.mpr ⟨lw_p29, List.forall_mem_cons.mpr ⟨lw_p30, List.forall_mem_cons.mpr ⟨lw_p31, fun _ h => absurd h List.not_mem_nil⟩⟩⟩⟩⟩⟩⟩⟩⟩⟩⟩⟩⟩⟩⟩⟩
theorem lw_p32 : lw_okq (⟨"CourtMatcher", "refreshNextOnes", "()V"⟩, 17) := ⟨⟨by decide +kernel, by decide +kernel⟩, List.mem_of_getElem? (i := 18) (by decide +kernel), List.mem_of_getElem? (i := 810) (by decide +kernel), List.mem_of_getElem? (i := 811) (by decide +kernel)⟩
theorem lw_p33 : lw_okq (⟨"CourtMatcher$NextOnes", "merge", "(LCourtMatcher$Plan;II)I"⟩, 7) := ⟨⟨by decide +kernel, by decide +kernel⟩, List.mem_of_getElem? (i := 287) (by decide +kernel), List.mem_of_getElem? (i := 821) (by decide +kernel), List.mem_of_getElem? (i := 822) (by decide +kernel)⟩
theorem lw_p34 : lw_okq (⟨"CourtMatcher$NextOnes", "headTotal", "(LCourtMatcher$Plan;III)J"⟩, 7) := ⟨⟨by decide +kernel, by decide +kernel⟩, List.mem_of_getElem? (i := 287) (by decide +kernel), List.mem_of_getElem? (i := 826) (by decide +kernel), List.mem_of_getElem? (i := 827) (by decide +kernel)⟩
theorem lw_p35 : lw_okq (⟨"CourtMatcher$NextOnes", "firstJudge", "()I"⟩, 7) := ⟨⟨by decide +kernel, by decide +kernel⟩, List.mem_of_getElem? (i := 287) (by decide +kernel), List.mem_of_getElem? (i := 830) (by decide +kernel), List.mem_of_getElem? (i := 831) (by decide +kernel)⟩
theorem lw_p36 : lw_okq (⟨"CourtMatcher$NextOnes", "follow", "(LCourtMatcher$Plan;I)V"⟩, 7) := ⟨⟨by decide +kernel, by decide +kernel⟩, List.mem_of_getElem? (i := 287) (by decide +kernel), List.mem_of_getElem? (i := 834) (by decide +kernel), List.mem_of_getElem? (i := 835) (by decide +kernel)⟩
theorem lw_p37 : lw_okq (⟨"CourtMatcher", "refreshDiary", "()V"⟩, 17) := ⟨⟨by decide +kernel, by decide +kernel⟩, List.mem_of_getElem? (i := 18) (by decide +kernel), List.mem_of_getElem? (i := 855) (by decide +kernel), List.mem_of_getElem? (i := 856) (by decide +kernel)⟩
theorem lw_p38 : lw_okq (⟨"CourtMatcher$Diary", "hear", "(LCourtMatcher$Plan;I)V"⟩, 5) := ⟨⟨by decide +kernel, by decide +kernel⟩, List.mem_of_getElem? (i := 318) (by decide +kernel), List.mem_of_getElem? (i := 868) (by decide +kernel), List.mem_of_getElem? (i := 869) (by decide +kernel)⟩
theorem lw_p39 : lw_okq (⟨"CourtMatcherModel", "next", "()V"⟩, 80) := ⟨⟨by decide +kernel, by decide +kernel⟩, List.mem_of_getElem? (i := 990) (by decide +kernel), List.mem_of_getElem? (i := 1265) (by decide +kernel), List.mem_of_getElem? (i := 1266) (by decide +kernel)⟩
theorem lw_p40 : lw_okq (⟨"CourtMatcherModel", "byteAt", "(I)I"⟩, 80) := ⟨⟨by decide +kernel, by decide +kernel⟩, List.mem_of_getElem? (i := 990) (by decide +kernel), List.mem_of_getElem? (i := 1269) (by decide +kernel), List.mem_of_getElem? (i := 1270) (by decide +kernel)⟩
theorem lw_p41 : lw_okq (⟨"CourtMatcherModel", "word", "()I"⟩, 80) := ⟨⟨by decide +kernel, by decide +kernel⟩, List.mem_of_getElem? (i := 990) (by decide +kernel), List.mem_of_getElem? (i := 1278) (by decide +kernel), List.mem_of_getElem? (i := 1279) (by decide +kernel)⟩
theorem lw_p42 : lw_okq (⟨"CourtMatcherModel", "isThree", "(III)Z"⟩, 80) := ⟨⟨by decide +kernel, by decide +kernel⟩, List.mem_of_getElem? (i := 990) (by decide +kernel), List.mem_of_getElem? (i := 1282) (by decide +kernel), List.mem_of_getElem? (i := 1283) (by decide +kernel)⟩
theorem lw_p43 : lw_okq (⟨"CourtMatcherModel", "expression", "()I"⟩, 80) := ⟨⟨by decide +kernel, by decide +kernel⟩, List.mem_of_getElem? (i := 990) (by decide +kernel), List.mem_of_getElem? (i := 1298) (by decide +kernel), List.mem_of_getElem? (i := 1299) (by decide +kernel)⟩
theorem lw_p44 : lw_okq (⟨"CourtMatcherModel", "sum", "()I"⟩, 80) := ⟨⟨by decide +kernel, by decide +kernel⟩, List.mem_of_getElem? (i := 990) (by decide +kernel), List.mem_of_getElem? (i := 1302) (by decide +kernel), List.mem_of_getElem? (i := 1303) (by decide +kernel)⟩
theorem lw_p45 : lw_okq (⟨"CourtMatcherModel", "product", "()I"⟩, 80) := ⟨⟨by decide +kernel, by decide +kernel⟩, List.mem_of_getElem? (i := 990) (by decide +kernel), List.mem_of_getElem? (i := 1306) (by decide +kernel), List.mem_of_getElem? (i := 1307) (by decide +kernel)⟩
theorem lw_p46 : lw_okq (⟨"CourtMatcherModel", "factor", "()I"⟩, 80) := ⟨⟨by decide +kernel, by decide +kernel⟩, List.mem_of_getElem? (i := 990) (by decide +kernel), List.mem_of_getElem? (i := 1310) (by decide +kernel), List.mem_of_getElem? (i := 1311) (by decide +kernel)⟩
theorem lw_p47 : lw_okq (⟨"CourtMatcherModel", "part", "(II)I"⟩, 80) := ⟨⟨by decide +kernel, by decide +kernel⟩, List.mem_of_getElem? (i := 990) (by decide +kernel), List.mem_of_getElem? (i := 1314) (by decide +kernel), List.mem_of_getElem? (i := 1315) (by decide +kernel)⟩
def lw_privs_3 : List (MethodName × Nat) := [(⟨"CourtMatcher", "refreshNextOnes", "()V"⟩, 17), (⟨"CourtMatcher$NextOnes", "merge", "(LCourtMatcher$Plan;II)I"⟩, 7), (⟨"CourtMatcher$NextOnes", "headTotal", "(LCourtMatcher$Plan;III)J"⟩, 7), (⟨"CourtMatcher$NextOnes", "firstJudge", "()I"⟩, 7), (⟨"CourtMatcher$NextOnes", "follow", "(LCourtMatcher$Plan;I)V"⟩, 7), (⟨"CourtMatcher", "refreshDiary", "()V"⟩, 17), (⟨"CourtMatcher$Diary", "hear", "(LCourtMatcher$Plan;I)V"⟩, 5), (⟨"CourtMatcherModel", "next", "()V"⟩, 80), (⟨"CourtMatcherModel", "byteAt", "(I)I"⟩, 80), (⟨"CourtMatcherModel", "word", "()I"⟩, 80), (⟨"CourtMatcherModel", "isThree", "(III)Z"⟩, 80), (⟨"CourtMatcherModel", "expression", "()I"⟩, 80), (⟨"CourtMatcherModel", "sum", "()I"⟩, 80), (⟨"CourtMatcherModel", "product", "()I"⟩, 80), (⟨"CourtMatcherModel", "factor", "()I"⟩, 80), (⟨"CourtMatcherModel", "part", "(II)I"⟩, 80)]
theorem lw_r3 : ∀ q ∈ lw_privs_3, lw_okq q := List.forall_mem_cons.mpr ⟨lw_p32, List.forall_mem_cons.mpr ⟨lw_p33, List.forall_mem_cons.mpr ⟨lw_p34, List.forall_mem_cons.mpr ⟨lw_p35, List.forall_mem_cons.mpr ⟨lw_p36, List.forall_mem_cons.mpr ⟨lw_p37, List.forall_mem_cons.mpr ⟨lw_p38, List.forall_mem_cons.mpr ⟨lw_p39, List.forall_mem_cons.mpr ⟨lw_p40, List.forall_mem_cons.mpr ⟨lw_p41, List.forall_mem_cons.mpr ⟨lw_p42, List.forall_mem_cons.mpr ⟨lw_p43, List.forall_mem_cons.mpr ⟨lw_p44, List.forall_mem_cons.mpr ⟨lw_p45, List.forall_mem_cons.mpr ⟨lw_p46, List.forall_mem_cons.mpr ⟨lw_p47, fun _ h => absurd h List.not_mem_nil⟩⟩⟩⟩⟩⟩⟩⟩⟩⟩⟩⟩⟩⟩⟩⟩
theorem lw_p48 : lw_okq (⟨"CourtMatcherModel", "fail", "()V"⟩, 80) := ⟨⟨by decide +kernel, by decide +kernel⟩, List.mem_of_getElem? (i := 990) (by decide +kernel), List.mem_of_getElem? (i := 1318) (by decide +kernel), List.mem_of_getElem? (i := 1319) (by decide +kernel)⟩
theorem lw_p49 : lw_okq (⟨"CourtMatcherModel", "ofTwo", "()I"⟩, 80) := ⟨⟨by decide +kernel, by decide +kernel⟩, List.mem_of_getElem? (i := 990) (by decide +kernel), List.mem_of_getElem? (i := 1322) (by decide +kernel), List.mem_of_getElem? (i := 1323) (by decide +kernel)⟩
theorem lw_p50 : lw_okq (⟨"CourtMatcherModel", "isSign", "(I)Z"⟩, 80) := ⟨⟨by decide +kernel, by decide +kernel⟩, List.mem_of_getElem? (i := 990) (by decide +kernel), List.mem_of_getElem? (i := 1326) (by decide +kernel), List.mem_of_getElem? (i := 1327) (by decide +kernel)⟩
theorem lw_p51 : lw_okq (⟨"CourtMatcherModel", "opens", "()Z"⟩, 80) := ⟨⟨by decide +kernel, by decide +kernel⟩, List.mem_of_getElem? (i := 990) (by decide +kernel), List.mem_of_getElem? (i := 1330) (by decide +kernel), List.mem_of_getElem? (i := 1331) (by decide +kernel)⟩
theorem lw_p52 : lw_okq (⟨"CourtMatcherModel", "takes", "(I)V"⟩, 80) := ⟨⟨by decide +kernel, by decide +kernel⟩, List.mem_of_getElem? (i := 990) (by decide +kernel), List.mem_of_getElem? (i := 1334) (by decide +kernel), List.mem_of_getElem? (i := 1335) (by decide +kernel)⟩
theorem lw_p53 : lw_okq (⟨"CourtMatcherModel", "trades", "(I)V"⟩, 80) := ⟨⟨by decide +kernel, by decide +kernel⟩, List.mem_of_getElem? (i := 990) (by decide +kernel), List.mem_of_getElem? (i := 1338) (by decide +kernel), List.mem_of_getElem? (i := 1339) (by decide +kernel)⟩
theorem lw_p54 : lw_okq (⟨"CourtMatcherModel", "comesTo", "(I)I"⟩, 80) := ⟨⟨by decide +kernel, by decide +kernel⟩, List.mem_of_getElem? (i := 990) (by decide +kernel), List.mem_of_getElem? (i := 1342) (by decide +kernel), List.mem_of_getElem? (i := 1343) (by decide +kernel)⟩
theorem lw_p55 : lw_okq (⟨"CourtMatcherModel", "names", "(I)I"⟩, 80) := ⟨⟨by decide +kernel, by decide +kernel⟩, List.mem_of_getElem? (i := 990) (by decide +kernel), List.mem_of_getElem? (i := 1346) (by decide +kernel), List.mem_of_getElem? (i := 1347) (by decide +kernel)⟩
theorem lw_p56 : lw_okq (⟨"CourtMatcherModel", "isHeavy", "()Z"⟩, 80) := ⟨⟨by decide +kernel, by decide +kernel⟩, List.mem_of_getElem? (i := 990) (by decide +kernel), List.mem_of_getElem? (i := 1350) (by decide +kernel), List.mem_of_getElem? (i := 1351) (by decide +kernel)⟩
theorem lw_p57 : lw_okq (⟨"CourtMatcherModel", "weight", "(I)I"⟩, 80) := ⟨⟨by decide +kernel, by decide +kernel⟩, List.mem_of_getElem? (i := 990) (by decide +kernel), List.mem_of_getElem? (i := 1354) (by decide +kernel), List.mem_of_getElem? (i := 1355) (by decide +kernel)⟩
theorem lw_p58 : lw_okq (⟨"CourtMatcherModel", "asked", "(III)J"⟩, 80) := ⟨⟨by decide +kernel, by decide +kernel⟩, List.mem_of_getElem? (i := 990) (by decide +kernel), List.mem_of_getElem? (i := 1375) (by decide +kernel), List.mem_of_getElem? (i := 1376) (by decide +kernel)⟩
theorem lw_p59 : lw_okq (⟨"CourtMatcherModel", "valueOf", "(I)J"⟩, 80) := ⟨⟨by decide +kernel, by decide +kernel⟩, List.mem_of_getElem? (i := 990) (by decide +kernel), List.mem_of_getElem? (i := 1379) (by decide +kernel), List.mem_of_getElem? (i := 1380) (by decide +kernel)⟩
theorem lw_p60 : lw_okq (⟨"CourtMatcherModel", "valueOf", "(II)J"⟩, 80) := ⟨⟨by decide +kernel, by decide +kernel⟩, List.mem_of_getElem? (i := 990) (by decide +kernel), List.mem_of_getElem? (i := 1383) (by decide +kernel), List.mem_of_getElem? (i := 1384) (by decide +kernel)⟩
theorem lw_p61 : lw_okq (⟨"CourtMatcherModel", "named", "(II)J"⟩, 80) := ⟨⟨by decide +kernel, by decide +kernel⟩, List.mem_of_getElem? (i := 990) (by decide +kernel), List.mem_of_getElem? (i := 1387) (by decide +kernel), List.mem_of_getElem? (i := 1388) (by decide +kernel)⟩
theorem lw_p62 : lw_okq (⟨"CourtMatcherModel", "limited", "(JII)J"⟩, 80) := ⟨⟨by decide +kernel, by decide +kernel⟩, List.mem_of_getElem? (i := 990) (by decide +kernel), List.mem_of_getElem? (i := 1391) (by decide +kernel), List.mem_of_getElem? (i := 1392) (by decide +kernel)⟩
theorem lw_p63 : lw_okq (⟨"CourtMatcherModel", "fails", "(III)J"⟩, 80) := ⟨⟨by decide +kernel, by decide +kernel⟩, List.mem_of_getElem? (i := 990) (by decide +kernel), List.mem_of_getElem? (i := 1397) (by decide +kernel), List.mem_of_getElem? (i := 1398) (by decide +kernel)⟩
def lw_privs_4 : List (MethodName × Nat) := [(⟨"CourtMatcherModel", "fail", "()V"⟩, 80), (⟨"CourtMatcherModel", "ofTwo", "()I"⟩, 80), (⟨"CourtMatcherModel", "isSign", "(I)Z"⟩, 80), (⟨"CourtMatcherModel", "opens", "()Z"⟩, 80), (⟨"CourtMatcherModel", "takes", "(I)V"⟩, 80), (⟨"CourtMatcherModel", "trades", "(I)V"⟩, 80), (⟨"CourtMatcherModel", "comesTo", "(I)I"⟩, 80), (⟨"CourtMatcherModel", "names", "(I)I"⟩, 80), (⟨"CourtMatcherModel", "isHeavy", "()Z"⟩, 80), (⟨"CourtMatcherModel", "weight", "(I)I"⟩, 80), (⟨"CourtMatcherModel", "asked", "(III)J"⟩, 80), (⟨"CourtMatcherModel", "valueOf", "(I)J"⟩, 80), (⟨"CourtMatcherModel", "valueOf", "(II)J"⟩, 80), (⟨"CourtMatcherModel", "named", "(II)J"⟩, 80), (⟨"CourtMatcherModel", "limited", "(JII)J"⟩, 80), (⟨"CourtMatcherModel", "fails", "(III)J"⟩, 80)]
theorem lw_r4 : ∀ q ∈ lw_privs_4, lw_okq q := List.forall_mem_cons.mpr ⟨lw_p48, List.forall_mem_cons.mpr ⟨lw_p49, List.forall_mem_cons.mpr ⟨lw_p50, List.forall_mem_cons.mpr ⟨lw_p51, List.forall_mem_cons.mpr ⟨lw_p52, List.forall_mem_cons.mpr ⟨lw_p53, List.forall_mem_cons.mpr ⟨lw_p54, List.forall_mem_cons.mpr ⟨lw_p55, List.forall_mem_cons.mpr ⟨lw_p56, List.forall_mem_cons.mpr ⟨lw_p57, List.forall_mem_cons.mpr ⟨lw_p58, List.forall_mem_cons.mpr ⟨lw_p59, List.forall_mem_cons.mpr ⟨lw_p60, List.forall_mem_cons.mpr ⟨lw_p61, List.forall_mem_cons.mpr ⟨lw_p62, List.forall_mem_cons.mpr ⟨lw_p63, fun _ h => absurd h List.not_mem_nil⟩⟩⟩⟩⟩⟩⟩⟩⟩⟩⟩⟩⟩⟩⟩⟩
theorem lw_p64 : lw_okq (⟨"CourtMatcherModel", "burdenOf", "(II)J"⟩, 80) := ⟨⟨by decide +kernel, by decide +kernel⟩, List.mem_of_getElem? (i := 990) (by decide +kernel), List.mem_of_getElem? (i := 1411) (by decide +kernel), List.mem_of_getElem? (i := 1412) (by decide +kernel)⟩
theorem lw_p65 : lw_okq (⟨"CourtMatcherModel", "costs", "()V"⟩, 80) := ⟨⟨by decide +kernel, by decide +kernel⟩, List.mem_of_getElem? (i := 990) (by decide +kernel), List.mem_of_getElem? (i := 1426) (by decide +kernel), List.mem_of_getElem? (i := 1427) (by decide +kernel)⟩
theorem lw_p66 : lw_okq (⟨"CourtMatcherModel", "tellsBurdens", "()V"⟩, 80) := ⟨⟨by decide +kernel, by decide +kernel⟩, List.mem_of_getElem? (i := 990) (by decide +kernel), List.mem_of_getElem? (i := 1430) (by decide +kernel), List.mem_of_getElem? (i := 1431) (by decide +kernel)⟩
theorem lw_p67 : lw_okq (⟨"CourtMatcherModel", "opens", "([I)V"⟩, 80) := ⟨⟨by decide +kernel, by decide +kernel⟩, List.mem_of_getElem? (i := 990) (by decide +kernel), List.mem_of_getElem? (i := 1434) (by decide +kernel), List.mem_of_getElem? (i := 1435) (by decide +kernel)⟩
theorem lw_p68 : lw_okq (⟨"CourtMatcherModel", "isOpen", "([III)Z"⟩, 80) := ⟨⟨by decide +kernel, by decide +kernel⟩, List.mem_of_getElem? (i := 990) (by decide +kernel), List.mem_of_getElem? (i := 1438) (by decide +kernel), List.mem_of_getElem? (i := 1439) (by decide +kernel)⟩
theorem lw_p69 : lw_okq (⟨"CourtMatcherModel", "isJudge", "(I)Z"⟩, 80) := ⟨⟨by decide +kernel, by decide +kernel⟩, List.mem_of_getElem? (i := 990) (by decide +kernel), List.mem_of_getElem? (i := 1442) (by decide +kernel), List.mem_of_getElem? (i := 1443) (by decide +kernel)⟩
theorem lw_p70 : lw_okq (⟨"CourtMatcherModel", "isCase", "(I)Z"⟩, 80) := ⟨⟨by decide +kernel, by decide +kernel⟩, List.mem_of_getElem? (i := 990) (by decide +kernel), List.mem_of_getElem? (i := 1446) (by decide +kernel), List.mem_of_getElem? (i := 1447) (by decide +kernel)⟩
theorem lw_p71 : lw_okq (⟨"CourtMatcherModel", "least", "()J"⟩, 80) := ⟨⟨by decide +kernel, by decide +kernel⟩, List.mem_of_getElem? (i := 990) (by decide +kernel), List.mem_of_getElem? (i := 1459) (by decide +kernel), List.mem_of_getElem? (i := 1460) (by decide +kernel)⟩
theorem lw_p72 : lw_okq (⟨"CourtMatcherModel", "picks", "(I)V"⟩, 80) := ⟨⟨by decide +kernel, by decide +kernel⟩, List.mem_of_getElem? (i := 990) (by decide +kernel), List.mem_of_getElem? (i := 1476) (by decide +kernel), List.mem_of_getElem? (i := 1477) (by decide +kernel)⟩
theorem lw_p73 : lw_okq (⟨"CourtMatcherModel", "with", "(II)J"⟩, 80) := ⟨⟨by decide +kernel, by decide +kernel⟩, List.mem_of_getElem? (i := 990) (by decide +kernel), List.mem_of_getElem? (i := 1484) (by decide +kernel), List.mem_of_getElem? (i := 1485) (by decide +kernel)⟩
theorem lw_p74 : lw_okq (⟨"CourtMatcherModel", "lacking", "(II)J"⟩, 80) := ⟨⟨by decide +kernel, by decide +kernel⟩, List.mem_of_getElem? (i := 990) (by decide +kernel), List.mem_of_getElem? (i := 1488) (by decide +kernel), List.mem_of_getElem? (i := 1489) (by decide +kernel)⟩
theorem lw_p75 : lw_okq (⟨"CourtMatcherModel", "lists", "()V"⟩, 80) := ⟨⟨by decide +kernel, by decide +kernel⟩, List.mem_of_getElem? (i := 990) (by decide +kernel), List.mem_of_getElem? (i := 1501) (by decide +kernel), List.mem_of_getElem? (i := 1502) (by decide +kernel)⟩
theorem lw_p76 : lw_okq (⟨"CourtMatcherModel", "walks", "(IIJ)V"⟩, 80) := ⟨⟨by decide +kernel, by decide +kernel⟩, List.mem_of_getElem? (i := 990) (by decide +kernel), List.mem_of_getElem? (i := 1505) (by decide +kernel), List.mem_of_getElem? (i := 1506) (by decide +kernel)⟩
theorem lw_p77 : lw_okq (⟨"CourtMatcherModel", "enters", "(J)V"⟩, 80) := ⟨⟨by decide +kernel, by decide +kernel⟩, List.mem_of_getElem? (i := 990) (by decide +kernel), List.mem_of_getElem? (i := 1509) (by decide +kernel), List.mem_of_getElem? (i := 1510) (by decide +kernel)⟩
theorem lw_p78 : lw_okq (⟨"CourtMatcherModel", "heaviest", "()J"⟩, 80) := ⟨⟨by decide +kernel, by decide +kernel⟩, List.mem_of_getElem? (i := 990) (by decide +kernel), List.mem_of_getElem? (i := 1517) (by decide +kernel), List.mem_of_getElem? (i := 1518) (by decide +kernel)⟩
theorem lw_p79 : lw_okq (⟨"CourtMatcherModel", "begins", "()V"⟩, 80) := ⟨⟨by decide +kernel, by decide +kernel⟩, List.mem_of_getElem? (i := 990) (by decide +kernel), List.mem_of_getElem? (i := 1527) (by decide +kernel), List.mem_of_getElem? (i := 1528) (by decide +kernel)⟩
def lw_privs_5 : List (MethodName × Nat) := [(⟨"CourtMatcherModel", "burdenOf", "(II)J"⟩, 80), (⟨"CourtMatcherModel", "costs", "()V"⟩, 80), (⟨"CourtMatcherModel", "tellsBurdens", "()V"⟩, 80), (⟨"CourtMatcherModel", "opens", "([I)V"⟩, 80), (⟨"CourtMatcherModel", "isOpen", "([III)Z"⟩, 80), (⟨"CourtMatcherModel", "isJudge", "(I)Z"⟩, 80), (⟨"CourtMatcherModel", "isCase", "(I)Z"⟩, 80), (⟨"CourtMatcherModel", "least", "()J"⟩, 80), (⟨"CourtMatcherModel", "picks", "(I)V"⟩, 80), (⟨"CourtMatcherModel", "with", "(II)J"⟩, 80), (⟨"CourtMatcherModel", "lacking", "(II)J"⟩, 80), (⟨"CourtMatcherModel", "lists", "()V"⟩, 80), (⟨"CourtMatcherModel", "walks", "(IIJ)V"⟩, 80), (⟨"CourtMatcherModel", "enters", "(J)V"⟩, 80), (⟨"CourtMatcherModel", "heaviest", "()J"⟩, 80), (⟨"CourtMatcherModel", "begins", "()V"⟩, 80)]
theorem lw_r5 : ∀ q ∈ lw_privs_5, lw_okq q := List.forall_mem_cons.mpr ⟨lw_p64, List.forall_mem_cons.mpr ⟨lw_p65, List.forall_mem_cons.mpr ⟨lw_p66, List.forall_mem_cons.mpr ⟨lw_p67, List.forall_mem_cons.mpr ⟨lw_p68, List.forall_mem_cons.mpr ⟨lw_p69, List.forall_mem_cons.mpr ⟨lw_p70, List.forall_mem_cons.mpr ⟨lw_p71, List.forall_mem_cons.mpr ⟨lw_p72, List.forall_mem_cons.mpr ⟨lw_p73, List.forall_mem_cons.mpr ⟨lw_p74, List.forall_mem_cons.mpr ⟨lw_p75, List.forall_mem_cons.mpr ⟨lw_p76, List.forall_mem_cons.mpr ⟨lw_p77, List.forall_mem_cons.mpr ⟨lw_p78, List.forall_mem_cons.mpr ⟨lw_p79, fun _ h => absurd h List.not_mem_nil⟩⟩⟩⟩⟩⟩⟩⟩⟩⟩⟩⟩⟩⟩⟩⟩
theorem lw_p80 : lw_okq (⟨"CourtMatcherModel", "casesIn", "()I"⟩, 80) := ⟨⟨by decide +kernel, by decide +kernel⟩, List.mem_of_getElem? (i := 990) (by decide +kernel), List.mem_of_getElem? (i := 1531) (by decide +kernel), List.mem_of_getElem? (i := 1532) (by decide +kernel)⟩
theorem lw_p81 : lw_okq (⟨"CourtMatcherModel", "isLast", "()Z"⟩, 80) := ⟨⟨by decide +kernel, by decide +kernel⟩, List.mem_of_getElem? (i := 990) (by decide +kernel), List.mem_of_getElem? (i := 1535) (by decide +kernel), List.mem_of_getElem? (i := 1536) (by decide +kernel)⟩
theorem lw_p82 : lw_okq (⟨"CourtMatcherModel", "slack", "(II)J"⟩, 80) := ⟨⟨by decide +kernel, by decide +kernel⟩, List.mem_of_getElem? (i := 990) (by decide +kernel), List.mem_of_getElem? (i := 1539) (by decide +kernel), List.mem_of_getElem? (i := 1540) (by decide +kernel)⟩
theorem lw_p83 : lw_okq (⟨"CourtMatcherModel", "marking", "()I"⟩, 80) := ⟨⟨by decide +kernel, by decide +kernel⟩, List.mem_of_getElem? (i := 990) (by decide +kernel), List.mem_of_getElem? (i := 1543) (by decide +kernel), List.mem_of_getElem? (i := 1544) (by decide +kernel)⟩
theorem lw_p84 : lw_okq (⟨"CourtMatcherModel", "greatest", "(I)I"⟩, 80) := ⟨⟨by decide +kernel, by decide +kernel⟩, List.mem_of_getElem? (i := 990) (by decide +kernel), List.mem_of_getElem? (i := 1547) (by decide +kernel), List.mem_of_getElem? (i := 1548) (by decide +kernel)⟩
theorem lw_p85 : lw_okq (⟨"CourtMatcherModel", "finds", "(I)Z"⟩, 80) := ⟨⟨by decide +kernel, by decide +kernel⟩, List.mem_of_getElem? (i := 990) (by decide +kernel), List.mem_of_getElem? (i := 1551) (by decide +kernel), List.mem_of_getElem? (i := 1552) (by decide +kernel)⟩
theorem lw_p86 : lw_okq (⟨"CourtMatcherModel", "rise", "()J"⟩, 80) := ⟨⟨by decide +kernel, by decide +kernel⟩, List.mem_of_getElem? (i := 990) (by decide +kernel), List.mem_of_getElem? (i := 1555) (by decide +kernel), List.mem_of_getElem? (i := 1556) (by decide +kernel)⟩
theorem lw_p87 : lw_okq (⟨"CourtMatcherModel", "daysOf", "(I)J"⟩, 80) := ⟨⟨by decide +kernel, by decide +kernel⟩, List.mem_of_getElem? (i := 990) (by decide +kernel), List.mem_of_getElem? (i := 1573) (by decide +kernel), List.mem_of_getElem? (i := 1574) (by decide +kernel)⟩
theorem lw_p88 : lw_okq (⟨"CourtMatcherModel", "reads", "(I)Z"⟩, 80) := ⟨⟨by decide +kernel, by decide +kernel⟩, List.mem_of_getElem? (i := 990) (by decide +kernel), List.mem_of_getElem? (i := 1598) (by decide +kernel), List.mem_of_getElem? (i := 1599) (by decide +kernel)⟩
theorem lw_p89 : lw_okq (⟨"CourtMatcherModel", "casesMany", "()I"⟩, 80) := ⟨⟨by decide +kernel, by decide +kernel⟩, List.mem_of_getElem? (i := 990) (by decide +kernel), List.mem_of_getElem? (i := 1602) (by decide +kernel), List.mem_of_getElem? (i := 1603) (by decide +kernel)⟩
theorem lw_p90 : lw_okq (⟨"CourtMatcherModel", "placeOf", "()I"⟩, 80) := ⟨⟨by decide +kernel, by decide +kernel⟩, List.mem_of_getElem? (i := 990) (by decide +kernel), List.mem_of_getElem? (i := 1607) (by decide +kernel), List.mem_of_getElem? (i := 1608) (by decide +kernel)⟩
theorem lw_p91 : lw_okq (⟨"CourtMatcherModel", "keeps", "(Z)V"⟩, 80) := ⟨⟨by decide +kernel, by decide +kernel⟩, List.mem_of_getElem? (i := 990) (by decide +kernel), List.mem_of_getElem? (i := 1619) (by decide +kernel), List.mem_of_getElem? (i := 1620) (by decide +kernel)⟩
theorem lw_p92 : lw_okq (⟨"CourtMatcherModel", "openMany", "()I"⟩, 80) := ⟨⟨by decide +kernel, by decide +kernel⟩, List.mem_of_getElem? (i := 990) (by decide +kernel), List.mem_of_getElem? (i := 1626) (by decide +kernel), List.mem_of_getElem? (i := 1627) (by decide +kernel)⟩
theorem lw_p93 : lw_okq (⟨"CourtMatcherModel", "marksOf", "(I)I"⟩, 80) := ⟨⟨by decide +kernel, by decide +kernel⟩, List.mem_of_getElem? (i := 990) (by decide +kernel), List.mem_of_getElem? (i := 1638) (by decide +kernel), List.mem_of_getElem? (i := 1639) (by decide +kernel)⟩
def lw_privs_6 : List (MethodName × Nat) := [(⟨"CourtMatcherModel", "casesIn", "()I"⟩, 80), (⟨"CourtMatcherModel", "isLast", "()Z"⟩, 80), (⟨"CourtMatcherModel", "slack", "(II)J"⟩, 80), (⟨"CourtMatcherModel", "marking", "()I"⟩, 80), (⟨"CourtMatcherModel", "greatest", "(I)I"⟩, 80), (⟨"CourtMatcherModel", "finds", "(I)Z"⟩, 80), (⟨"CourtMatcherModel", "rise", "()J"⟩, 80), (⟨"CourtMatcherModel", "daysOf", "(I)J"⟩, 80), (⟨"CourtMatcherModel", "reads", "(I)Z"⟩, 80), (⟨"CourtMatcherModel", "casesMany", "()I"⟩, 80), (⟨"CourtMatcherModel", "placeOf", "()I"⟩, 80), (⟨"CourtMatcherModel", "keeps", "(Z)V"⟩, 80), (⟨"CourtMatcherModel", "openMany", "()I"⟩, 80), (⟨"CourtMatcherModel", "marksOf", "(I)I"⟩, 80)]
theorem lw_r6 : ∀ q ∈ lw_privs_6, lw_okq q := List.forall_mem_cons.mpr ⟨lw_p80, List.forall_mem_cons.mpr ⟨lw_p81, List.forall_mem_cons.mpr ⟨lw_p82, List.forall_mem_cons.mpr ⟨lw_p83, List.forall_mem_cons.mpr ⟨lw_p84, List.forall_mem_cons.mpr ⟨lw_p85, List.forall_mem_cons.mpr ⟨lw_p86, List.forall_mem_cons.mpr ⟨lw_p87, List.forall_mem_cons.mpr ⟨lw_p88, List.forall_mem_cons.mpr ⟨lw_p89, List.forall_mem_cons.mpr ⟨lw_p90, List.forall_mem_cons.mpr ⟨lw_p91, List.forall_mem_cons.mpr ⟨lw_p92, List.forall_mem_cons.mpr ⟨lw_p93, fun _ h => absurd h List.not_mem_nil⟩⟩⟩⟩⟩⟩⟩⟩⟩⟩⟩⟩⟩⟩
def lw_privs : List (MethodName × Nat) := lw_privs_1 ++ (lw_privs_2 ++ (lw_privs_3 ++ (lw_privs_4 ++ (lw_privs_5 ++ (lw_privs_6)))))
def lw_tbl : List Cond := k2_sels lw_privs ++ tables_1
theorem lw_privs_ok : ∀ q ∈ lw_privs, lw_okq q := by
  show ∀ q ∈ lw_privs_1 ++ (lw_privs_2 ++ (lw_privs_3 ++ (lw_privs_4 ++ (lw_privs_5 ++ (lw_privs_6))))), lw_okq q
  exact List.forall_mem_append.mpr ⟨lw_r1, List.forall_mem_append.mpr ⟨lw_r2, List.forall_mem_append.mpr ⟨lw_r3, List.forall_mem_append.mpr ⟨lw_r4, List.forall_mem_append.mpr ⟨lw_r5, lw_r6⟩⟩⟩⟩⟩
end
section
/-! names, as the program beside the claim printed them: classes, fields, types, codes, methods -/
def RX0 : String := "CourtMatcher$Court"
def TX0 : u_T := fun k => match k with
  | 0 => ("CourtMatcher$Court", "judges", "I", false)
  | 1 => ("CourtMatcher$Court", "matters", "I", false)
  | 2 => ("CourtMatcher$Court", "traits", "[I", true)
  | 3 => ("CourtMatcher$Court", "own", "[J", true)
  | 4 => ("CourtMatcher$Court", "marks", "[I", true)
  | 5 => ("CourtMatcher$Court", "rules", "[LCourtMatcher$Rule;", true)
  | _ => ("CourtMatcher$Court", "weights", "[I", true)
def tyX0 : Nat → FieldType := fun k => match k with
  | 0 => .int
  | 1 => .int
  | 2 => .array .int
  | 3 => .array .long
  | 4 => .array .int
  | 5 => .array (.object "CourtMatcher$Rule")
  | _ => .array .int
theorem nmX0 : ∀ a, a < 7 → ∀ b, b < 7 → a ≠ b → (TX0 a).2.1 ≠ (TX0 b).2.1 := by decide +kernel
theorem tyX0_ok : ∀ k, k < 7 → parseFieldDescriptor (TX0 k).2.2.1 = some (tyX0 k) := by decide +kernel
abbrev cX0_init : ByteArray := prog_2_method_1_code
def yX0_init : MethodName := ⟨RX0, "<init>", "()V"⟩
abbrev cX0_take : ByteArray := prog_2_method_2_code
def yX0_take : MethodName := ⟨RX0, "take", "(LCourtMatcher$Court;)V"⟩
abbrev cX0_seat : ByteArray := prog_2_method_3_code
def yX0_seat : MethodName := ⟨RX0, "seat", "(III)I"⟩
abbrev cX0_isIn : ByteArray := prog_2_method_4_code
def yX0_isIn : MethodName := ⟨RX0, "isIn", "(I)Z"⟩
abbrev cX0_forcedBeside : ByteArray := prog_2_method_5_code
def yX0_forcedBeside : MethodName := ⟨RX0, "forcedBeside", "(I)Z"⟩
abbrev cX0_marked : ByteArray := prog_2_method_6_code
def yX0_marked : MethodName := ⟨RX0, "marked", "(I)I"⟩
abbrev cX0_owned : ByteArray := prog_2_method_7_code
def yX0_owned : MethodName := ⟨RX0, "owned", "()I"⟩
abbrev cX0_namersOf : ByteArray := prog_2_method_8_code
def yX0_namersOf : MethodName := ⟨RX0, "namersOf", "(I)I"⟩
abbrev cX0_reachOf : ByteArray := prog_2_method_9_code
def yX0_reachOf : MethodName := ⟨RX0, "reachOf", "(I)I"⟩
abbrev cX0_weighRules : ByteArray := prog_2_method_10_code
def yX0_weighRules : MethodName := ⟨RX0, "weighRules", "()V"⟩
abbrev cX0_refusalOf : ByteArray := prog_2_method_11_code
def yX0_refusalOf : MethodName := ⟨RX0, "refusalOf", "(I)I"⟩
def RX1 : String := "CourtMatcher$Diary"
def TX1 : u_T := fun k => match k with
  | 0 => ("CourtMatcher$Diary", "heard", "I", false)
  | 1 => ("CourtMatcher$Diary", "totals", "[J", true)
  | 2 => ("CourtMatcher$Diary", "judges", "[I", true)
  | 3 => ("CourtMatcher$Diary", "picks", "[I", true)
  | _ => ("CourtMatcher$Diary", "marks", "[I", true)
def tyX1 : Nat → FieldType := fun k => match k with
  | 0 => .int
  | 1 => .array .long
  | 2 => .array .int
  | 3 => .array .int
  | _ => .array .int
theorem nmX1 : ∀ a, a < 5 → ∀ b, b < 5 → a ≠ b → (TX1 a).2.1 ≠ (TX1 b).2.1 := by decide +kernel
theorem tyX1_ok : ∀ k, k < 5 → parseFieldDescriptor (TX1 k).2.2.1 = some (tyX1 k) := by decide +kernel
abbrev cX1_init : ByteArray := prog_3_method_1_code
def yX1_init : MethodName := ⟨RX1, "<init>", "()V"⟩
abbrev cX1_write : ByteArray := prog_3_method_2_code
def yX1_write : MethodName := ⟨RX1, "write", "(LCourtMatcher$Plan;LCourtMatcher$Plan;[I)V"⟩
abbrev cX1_hear : ByteArray := prog_3_method_3_code
def yX1_hear : MethodName := ⟨RX1, "hear", "(LCourtMatcher$Plan;I)V"⟩
def RX2 : String := "CourtMatcher$Greatest"
def TX2 : u_T := fun k => match k with
  | 0 => ("CourtMatcher$Greatest", "size", "I", false)
  | 1 => ("CourtMatcher$Greatest", "markedCases", "I", false)
  | 2 => ("CourtMatcher$Greatest", "markedJudges", "I", false)
  | 3 => ("CourtMatcher$Greatest", "judgeOf", "[I", true)
  | 4 => ("CourtMatcher$Greatest", "caseOf", "[I", true)
  | 5 => ("CourtMatcher$Greatest", "from", "[I", true)
  | _ => ("CourtMatcher$Greatest", "queue", "[I", true)
def tyX2 : Nat → FieldType := fun k => match k with
  | 0 => .int
  | 1 => .int
  | 2 => .int
  | 3 => .array .int
  | 4 => .array .int
  | 5 => .array .int
  | _ => .array .int
theorem nmX2 : ∀ a, a < 7 → ∀ b, b < 7 → a ≠ b → (TX2 a).2.1 ≠ (TX2 b).2.1 := by decide +kernel
theorem tyX2_ok : ∀ k, k < 7 → parseFieldDescriptor (TX2 k).2.2.1 = some (tyX2 k) := by decide +kernel
abbrev cX2_init : ByteArray := prog_4_method_1_code
def yX2_init : MethodName := ⟨RX2, "<init>", "()V"⟩
abbrev cX2_find : ByteArray := prog_4_method_2_code
def yX2_find : MethodName := ⟨RX2, "find", "([II)V"⟩
abbrev cX2_grow : ByteArray := prog_4_method_3_code
def yX2_grow : MethodName := ⟨RX2, "grow", "([II)Z"⟩
abbrev cX2_turn : ByteArray := prog_4_method_4_code
def yX2_turn : MethodName := ⟨RX2, "turn", "(I)V"⟩
abbrev cX2_spread : ByteArray := prog_4_method_5_code
def yX2_spread : MethodName := ⟨RX2, "spread", "([II)V"⟩
def RX3 : String := "CourtMatcher$NextOnes"
def TX3 : u_T := fun k => match k with
  | 0 => ("CourtMatcher$NextOnes", "sizes", "[I", true)
  | 1 => ("CourtMatcher$NextOnes", "totals", "[J", true)
  | 2 => ("CourtMatcher$NextOnes", "firsts", "[I", true)
  | 3 => ("CourtMatcher$NextOnes", "onward", "[I", true)
  | 4 => ("CourtMatcher$NextOnes", "heads", "[I", true)
  | 5 => ("CourtMatcher$NextOnes", "sums", "[J", true)
  | _ => ("CourtMatcher$NextOnes", "judges", "[I", true)
def tyX3 : Nat → FieldType := fun k => match k with
  | 0 => .array .int
  | 1 => .array .long
  | 2 => .array .int
  | 3 => .array .int
  | 4 => .array .int
  | 5 => .array .long
  | _ => .array .int
theorem nmX3 : ∀ a, a < 7 → ∀ b, b < 7 → a ≠ b → (TX3 a).2.1 ≠ (TX3 b).2.1 := by decide +kernel
theorem tyX3_ok : ∀ k, k < 7 → parseFieldDescriptor (TX3 k).2.2.1 = some (tyX3 k) := by decide +kernel
abbrev cX3_init : ByteArray := prog_5_method_1_code
def yX3_init : MethodName := ⟨RX3, "<init>", "()V"⟩
abbrev cX3_find : ByteArray := prog_5_method_2_code
def yX3_find : MethodName := ⟨RX3, "find", "(LCourtMatcher$Plan;)V"⟩
abbrev cX3_merge : ByteArray := prog_5_method_3_code
def yX3_merge : MethodName := ⟨RX3, "merge", "(LCourtMatcher$Plan;II)I"⟩
abbrev cX3_headTotal : ByteArray := prog_5_method_4_code
def yX3_headTotal : MethodName := ⟨RX3, "headTotal", "(LCourtMatcher$Plan;III)J"⟩
abbrev cX3_firstJudge : ByteArray := prog_5_method_5_code
def yX3_firstJudge : MethodName := ⟨RX3, "firstJudge", "()I"⟩
abbrev cX3_follow : ByteArray := prog_5_method_6_code
def yX3_follow : MethodName := ⟨RX3, "follow", "(LCourtMatcher$Plan;I)V"⟩
abbrev cX3_placeOf : ByteArray := prog_5_method_7_code
def yX3_placeOf : MethodName := ⟨RX3, "placeOf", "([I)I"⟩
def RX4 : String := "CourtMatcher$Plan"
def TX4 : u_T := fun k => match k with
  | 0 => ("CourtMatcher$Plan", "matters", "I", false)
  | 1 => ("CourtMatcher$Plan", "cases", "I", false)
  | 2 => ("CourtMatcher$Plan", "order", "[I", true)
  | 3 => ("CourtMatcher$Plan", "openJudges", "I", false)
  | 4 => ("CourtMatcher$Plan", "burdens", "[J", true)
  | 5 => ("CourtMatcher$Plan", "rows", "[I", true)
  | 6 => ("CourtMatcher$Plan", "least", "[J", true)
  | 7 => ("CourtMatcher$Plan", "ways", "[I", true)
  | 8 => ("CourtMatcher$Plan", "reached", "[I", true)
  | _ => ("CourtMatcher$Plan", "shares", "[I", true)
def tyX4 : Nat → FieldType := fun k => match k with
  | 0 => .int
  | 1 => .int
  | 2 => .array .int
  | 3 => .int
  | 4 => .array .long
  | 5 => .array .int
  | 6 => .array .long
  | 7 => .array .int
  | 8 => .array .int
  | _ => .array .int
theorem nmX4 : ∀ a, a < 10 → ∀ b, b < 10 → a ≠ b → (TX4 a).2.1 ≠ (TX4 b).2.1 := by decide +kernel
theorem tyX4_ok : ∀ k, k < 10 → parseFieldDescriptor (TX4 k).2.2.1 = some (tyX4 k) := by decide +kernel
abbrev cX4_init : ByteArray := prog_6_method_1_code
def yX4_init : MethodName := ⟨RX4, "<init>", "()V"⟩
abbrev cX4_load : ByteArray := prog_6_method_2_code
def yX4_load : MethodName := ⟨RX4, "load", "(LCourtMatcher$Court;LCourtMatcher$Teller;)V"⟩
abbrev cX4_take : ByteArray := prog_6_method_3_code
def yX4_take : MethodName := ⟨RX4, "take", "(LCourtMatcher$Plan;)V"⟩
abbrev cX4_openBy : ByteArray := prog_6_method_4_code
def yX4_openBy : MethodName := ⟨RX4, "openBy", "([I)V"⟩
abbrev cX4_force : ByteArray := prog_6_method_5_code
def yX4_force : MethodName := ⟨RX4, "force", "(II)V"⟩
abbrev cX4_isOpen : ByteArray := prog_6_method_6_code
def yX4_isOpen : MethodName := ⟨RX4, "isOpen", "(II)Z"⟩
abbrev cX4_openPairs : ByteArray := prog_6_method_7_code
def yX4_openPairs : MethodName := ⟨RX4, "openPairs", "()I"⟩
abbrev cX4_closeJudge : ByteArray := prog_6_method_8_code
def yX4_closeJudge : MethodName := ⟨RX4, "closeJudge", "(I)V"⟩
abbrev cX4_closeHeavier : ByteArray := prog_6_method_9_code
def yX4_closeHeavier : MethodName := ⟨RX4, "closeHeavier", "(J)V"⟩
abbrev cX4_heavierThan : ByteArray := prog_6_method_10_code
def yX4_heavierThan : MethodName := ⟨RX4, "heavierThan", "(J)I"⟩
abbrev cX4_weigh : ByteArray := prog_6_method_11_code
def yX4_weigh : MethodName := ⟨RX4, "weigh", "(Z)V"⟩
abbrev cX4_listCases : ByteArray := prog_6_method_12_code
def yX4_listCases : MethodName := ⟨RX4, "listCases", "()V"⟩
abbrev cX4_canTake : ByteArray := prog_6_method_13_code
def yX4_canTake : MethodName := ⟨RX4, "canTake", "(I)Z"⟩
abbrev cX4_weighFrom : ByteArray := prog_6_method_14_code
def yX4_weighFrom : MethodName := ⟨RX4, "weighFrom", "(IIZ)V"⟩
abbrev cX4_leads : ByteArray := prog_6_method_15_code
def yX4_leads : MethodName := ⟨RX4, "leads", "(III)Z"⟩
abbrev cX4_pick : ByteArray := prog_6_method_16_code
def yX4_pick : MethodName := ⟨RX4, "pick", "(I[I)V"⟩
abbrev cX4_share : ByteArray := prog_6_method_17_code
def yX4_share : MethodName := ⟨RX4, "share", "()V"⟩
abbrev cX4_shareFrom : ByteArray := prog_6_method_18_code
def yX4_shareFrom : MethodName := ⟨RX4, "shareFrom", "(II)V"⟩
abbrev cX4_follows : ByteArray := prog_6_method_19_code
def yX4_follows : MethodName := ⟨RX4, "follows", "(LCourtMatcher$Sheet;[I)Z"⟩
abbrev cX4_sumOf : ByteArray := prog_6_method_20_code
def yX4_sumOf : MethodName := ⟨RX4, "sumOf", "([I)J"⟩
abbrev cX4_sharedOf : ByteArray := prog_6_method_21_code
def yX4_sharedOf : MethodName := ⟨RX4, "sharedOf", "([I)I"⟩
def RX5 : String := "CourtMatcher$Rounds"
def TX5 : u_T := fun k => match k with
  | 0 => ("CourtMatcher$Rounds", "made", "I", false)
  | 1 => ("CourtMatcher$Rounds", "facts", "[J", true)
  | 2 => ("CourtMatcher$Rounds", "prices", "[J", true)
  | 3 => ("CourtMatcher$Rounds", "tolls", "[J", true)
  | 4 => ("CourtMatcher$Rounds", "pays", "[J", true)
  | _ => ("CourtMatcher$Rounds", "tight", "[I", true)
def tyX5 : Nat → FieldType := fun k => match k with
  | 0 => .int
  | 1 => .array .long
  | 2 => .array .long
  | 3 => .array .long
  | 4 => .array .long
  | _ => .array .int
theorem nmX5 : ∀ a, a < 6 → ∀ b, b < 6 → a ≠ b → (TX5 a).2.1 ≠ (TX5 b).2.1 := by decide +kernel
theorem tyX5_ok : ∀ k, k < 6 → parseFieldDescriptor (TX5 k).2.2.1 = some (tyX5 k) := by decide +kernel
abbrev cX5_init : ByteArray := prog_7_method_1_code
def yX5_init : MethodName := ⟨RX5, "<init>", "()V"⟩
abbrev cX5_make : ByteArray := prog_7_method_2_code
def yX5_make : MethodName := ⟨RX5, "make", "(LCourtMatcher$Plan;LCourtMatcher$Greatest;)V"⟩
abbrev cX5_firstPay : ByteArray := prog_7_method_3_code
def yX5_firstPay : MethodName := ⟨RX5, "firstPay", "(LCourtMatcher$Plan;I)J"⟩
abbrev cX5_slack : ByteArray := prog_7_method_4_code
def yX5_slack : MethodName := ⟨RX5, "slack", "(LCourtMatcher$Plan;II)J"⟩
abbrev cX5_findTight : ByteArray := prog_7_method_5_code
def yX5_findTight : MethodName := ⟨RX5, "findTight", "(LCourtMatcher$Plan;)I"⟩
abbrev cX5_leastSlack : ByteArray := prog_7_method_6_code
def yX5_leastSlack : MethodName := ⟨RX5, "leastSlack", "(LCourtMatcher$Plan;II)J"⟩
abbrev cX5_keep : ByteArray := prog_7_method_7_code
def yX5_keep : MethodName := ⟨RX5, "keep", "(IILCourtMatcher$Greatest;)V"⟩
abbrev cX5_raise : ByteArray := prog_7_method_8_code
def yX5_raise : MethodName := ⟨RX5, "raise", "(LCourtMatcher$Greatest;J)V"⟩
def RX6 : String := "CourtMatcher$Rule"
def TX6 : u_T := fun k => match k with
  | 0 => ("CourtMatcher$Rule", "parts", "I", false)
  | 1 => ("CourtMatcher$Rule", "steps", "I", false)
  | 2 => ("CourtMatcher$Rule", "ops", "[I", true)
  | 3 => ("CourtMatcher$Rule", "args", "[I", true)
  | _ => ("CourtMatcher$Rule", "places", "[I", true)
def tyX6 : Nat → FieldType := fun k => match k with
  | 0 => .int
  | 1 => .int
  | 2 => .array .int
  | 3 => .array .int
  | _ => .array .int
theorem nmX6 : ∀ a, a < 5 → ∀ b, b < 5 → a ≠ b → (TX6 a).2.1 ≠ (TX6 b).2.1 := by decide +kernel
theorem tyX6_ok : ∀ k, k < 5 → parseFieldDescriptor (TX6 k).2.2.1 = some (tyX6 k) := by decide +kernel
abbrev cX6_init : ByteArray := prog_8_method_1_code
def yX6_init : MethodName := ⟨RX6, "<init>", "()V"⟩
abbrev cX6_clear : ByteArray := prog_8_method_2_code
def yX6_clear : MethodName := ⟨RX6, "clear", "()V"⟩
abbrev cX6_take : ByteArray := prog_8_method_3_code
def yX6_take : MethodName := ⟨RX6, "take", "(LCourtMatcher$Rule;)V"⟩
abbrev cX6_add : ByteArray := prog_8_method_4_code
def yX6_add : MethodName := ⟨RX6, "add", "(III)V"⟩
abbrev cX6_landHere : ByteArray := prog_8_method_5_code
def yX6_landHere : MethodName := ⟨RX6, "landHere", "(I)V"⟩
abbrev cX6_names : ByteArray := prog_8_method_6_code
def yX6_names : MethodName := ⟨RX6, "names", "()I"⟩
abbrev cX6_weightBy : ByteArray := prog_8_method_7_code
def yX6_weightBy : MethodName := ⟨RX6, "weightBy", "([I)I"⟩
def RX7 : String := "CourtMatcher$Sheet"
def TX7 : u_T := fun k => match k with
  | 0 => ("CourtMatcher$Sheet", "sort", "I", false)
  | 1 => ("CourtMatcher$Sheet", "size", "I", false)
  | _ => ("CourtMatcher$Sheet", "items", "[J", true)
def tyX7 : Nat → FieldType := fun k => match k with
  | 0 => .int
  | 1 => .int
  | _ => .array .long
theorem nmX7 : ∀ a, a < 3 → ∀ b, b < 3 → a ≠ b → (TX7 a).2.1 ≠ (TX7 b).2.1 := by decide +kernel
theorem tyX7_ok : ∀ k, k < 3 → parseFieldDescriptor (TX7 k).2.2.1 = some (tyX7 k) := by decide +kernel
abbrev cX7_init : ByteArray := prog_9_method_1_code
def yX7_init : MethodName := ⟨RX7, "<init>", "()V"⟩
abbrev cX7_become : ByteArray := prog_9_method_2_code
def yX7_become : MethodName := ⟨RX7, "become", "(II)V"⟩
abbrev cX7_holds : ByteArray := prog_9_method_3_code
def yX7_holds : MethodName := ⟨RX7, "holds", "(II)Z"⟩
abbrev cX7_set : ByteArray := prog_9_method_4_code
def yX7_set : MethodName := ⟨RX7, "set", "(IJ)V"⟩
def RX8 : String := "CourtMatcher$Tape"
def TX8 : u_T := fun k => match k with
  | 0 => ("CourtMatcher$Tape", "bytes", "[I", true)
  | 1 => ("CourtMatcher$Tape", "size", "I", false)
  | 2 => ("CourtMatcher$Tape", "draft", "LCourtMatcher$Rule;", false)
  | 3 => ("CourtMatcher$Tape", "at", "I", false)
  | 4 => ("CourtMatcher$Tape", "nested", "I", false)
  | 5 => ("CourtMatcher$Tape", "token", "I", false)
  | 6 => ("CourtMatcher$Tape", "place", "I", false)
  | 7 => ("CourtMatcher$Tape", "op", "I", false)
  | _ => ("CourtMatcher$Tape", "arg", "I", false)
def tyX8 : Nat → FieldType := fun k => match k with
  | 0 => .array .int
  | 1 => .int
  | 2 => .object "CourtMatcher$Rule"
  | 3 => .int
  | 4 => .int
  | 5 => .int
  | 6 => .int
  | 7 => .int
  | _ => .int
theorem nmX8 : ∀ a, a < 9 → ∀ b, b < 9 → a ≠ b → (TX8 a).2.1 ≠ (TX8 b).2.1 := by decide +kernel
theorem tyX8_ok : ∀ k, k < 9 → parseFieldDescriptor (TX8 k).2.2.1 = some (tyX8 k) := by decide +kernel
abbrev cX8_init : ByteArray := prog_10_method_1_code
def yX8_init : MethodName := ⟨RX8, "<init>", "()V"⟩
abbrev cX8_add : ByteArray := prog_10_method_2_code
def yX8_add : MethodName := ⟨RX8, "add", "(I)Z"⟩
abbrev cX8_parse : ByteArray := prog_10_method_3_code
def yX8_parse : MethodName := ⟨RX8, "parse", "()I"⟩
abbrev cX8_expr : ByteArray := prog_10_method_4_code
def yX8_expr : MethodName := ⟨RX8, "expr", "()Z"⟩
abbrev cX8_sum : ByteArray := prog_10_method_5_code
def yX8_sum : MethodName := ⟨RX8, "sum", "()Z"⟩
abbrev cX8_product : ByteArray := prog_10_method_6_code
def yX8_product : MethodName := ⟨RX8, "product", "()Z"⟩
abbrev cX8_factor : ByteArray := prog_10_method_7_code
def yX8_factor : MethodName := ⟨RX8, "factor", "()Z"⟩
abbrev cX8_atom : ByteArray := prog_10_method_8_code
def yX8_atom : MethodName := ⟨RX8, "atom", "()Z"⟩
abbrev cX8_function : ByteArray := prog_10_method_9_code
def yX8_function : MethodName := ⟨RX8, "function", "()Z"⟩
abbrev cX8_part : ByteArray := prog_10_method_10_code
def yX8_part : MethodName := ⟨RX8, "part", "()Z"⟩
abbrev cX8_enter : ByteArray := prog_10_method_11_code
def yX8_enter : MethodName := ⟨RX8, "enter", "()Z"⟩
abbrev cX8_leave : ByteArray := prog_10_method_12_code
def yX8_leave : MethodName := ⟨RX8, "leave", "(I)Z"⟩
abbrev cX8_step : ByteArray := prog_10_method_13_code
def yX8_step : MethodName := ⟨RX8, "step", "()V"⟩
abbrev cX8_word : ByteArray := prog_10_method_14_code
def yX8_word : MethodName := ⟨RX8, "word", "(I)V"⟩
abbrev cX8_nameOfOne : ByteArray := prog_10_method_15_code
def yX8_nameOfOne : MethodName := ⟨RX8, "nameOfOne", "(I)V"⟩
abbrev cX8_nameOfThree : ByteArray := prog_10_method_16_code
def yX8_nameOfThree : MethodName := ⟨RX8, "nameOfThree", "(III)V"⟩
abbrev cX8_digits : ByteArray := prog_10_method_17_code
def yX8_digits : MethodName := ⟨RX8, "digits", "(I)V"⟩
abbrev cX8_isLetter : ByteArray := prog_10_method_18_code
def yX8_isLetter : MethodName := ⟨RX8, "isLetter", "(I)Z"⟩
abbrev cX8_isDigit : ByteArray := prog_10_method_19_code
def yX8_isDigit : MethodName := ⟨RX8, "isDigit", "(I)Z"⟩
abbrev cX8_isSign : ByteArray := prog_10_method_20_code
def yX8_isSign : MethodName := ⟨RX8, "isSign", "(I)Z"⟩
def RX9 : String := "CourtMatcher$Teller"
def TX9 : u_T := fun k => match k with
  | 0 => ("CourtMatcher$Teller", "stack", "[J", true)
  | 1 => ("CourtMatcher$Teller", "path", "[I", true)
  | 2 => ("CourtMatcher$Teller", "failure", "I", false)
  | 3 => ("CourtMatcher$Teller", "place", "I", false)
  | 4 => ("CourtMatcher$Teller", "chain", "I", false)
  | 5 => ("CourtMatcher$Teller", "last", "I", false)
  | _ => ("CourtMatcher$Teller", "ahead", "I", false)
def tyX9 : Nat → FieldType := fun k => match k with
  | 0 => .array .long
  | 1 => .array .int
  | 2 => .int
  | 3 => .int
  | 4 => .int
  | 5 => .int
  | _ => .int
theorem nmX9 : ∀ a, a < 7 → ∀ b, b < 7 → a ≠ b → (TX9 a).2.1 ≠ (TX9 b).2.1 := by decide +kernel
theorem tyX9_ok : ∀ k, k < 7 → parseFieldDescriptor (TX9 k).2.2.1 = some (tyX9 k) := by decide +kernel
abbrev cX9_init : ByteArray := prog_11_method_1_code
def yX9_init : MethodName := ⟨RX9, "<init>", "()V"⟩
abbrev cX9_burdenOf : ByteArray := prog_11_method_2_code
def yX9_burdenOf : MethodName := ⟨RX9, "burdenOf", "(LCourtMatcher$Court;I)J"⟩
abbrev cX9_read : ByteArray := prog_11_method_3_code
def yX9_read : MethodName := ⟨RX9, "read", "(LCourtMatcher$Court;III)J"⟩
abbrev cX9_leaf : ByteArray := prog_11_method_4_code
def yX9_leaf : MethodName := ⟨RX9, "leaf", "(LCourtMatcher$Court;III)J"⟩
abbrev cX9_join : ByteArray := prog_11_method_5_code
def yX9_join : MethodName := ⟨RX9, "join", "(IJJ)J"⟩
abbrev cX9_fail : ByteArray := prog_11_method_6_code
def yX9_fail : MethodName := ⟨RX9, "fail", "(III)J"⟩
def RX10 : String := "CourtMatcher"
def TX10 : u_T := fun k => match k with
  | 0 => ("CourtMatcher", "court", "LCourtMatcher$Court;", true)
  | 1 => ("CourtMatcher", "kept", "LCourtMatcher$Court;", true)
  | 2 => ("CourtMatcher", "imaged", "Z", false)
  | 3 => ("CourtMatcher", "tape", "LCourtMatcher$Tape;", true)
  | 4 => ("CourtMatcher", "teller", "LCourtMatcher$Teller;", true)
  | 5 => ("CourtMatcher", "plan", "LCourtMatcher$Plan;", true)
  | 6 => ("CourtMatcher", "thought", "LCourtMatcher$Plan;", true)
  | 7 => ("CourtMatcher", "greatest", "LCourtMatcher$Greatest;", true)
  | 8 => ("CourtMatcher", "rounds", "LCourtMatcher$Rounds;", true)
  | 9 => ("CourtMatcher", "nextOnes", "LCourtMatcher$NextOnes;", true)
  | 10 => ("CourtMatcher", "diary", "LCourtMatcher$Diary;", true)
  | 11 => ("CourtMatcher", "picks", "[I", true)
  | 12 => ("CourtMatcher", "planned", "Z", false)
  | 13 => ("CourtMatcher", "shared", "Z", false)
  | 14 => ("CourtMatcher", "listed", "Z", false)
  | 15 => ("CourtMatcher", "heard", "Z", false)
  | _ => ("CourtMatcher", "sheets", "[LCourtMatcher$Sheet;", true)
def tyX10 : Nat → FieldType := fun k => match k with
  | 0 => .object "CourtMatcher$Court"
  | 1 => .object "CourtMatcher$Court"
  | 2 => .boolean
  | 3 => .object "CourtMatcher$Tape"
  | 4 => .object "CourtMatcher$Teller"
  | 5 => .object "CourtMatcher$Plan"
  | 6 => .object "CourtMatcher$Plan"
  | 7 => .object "CourtMatcher$Greatest"
  | 8 => .object "CourtMatcher$Rounds"
  | 9 => .object "CourtMatcher$NextOnes"
  | 10 => .object "CourtMatcher$Diary"
  | 11 => .array .int
  | 12 => .boolean
  | 13 => .boolean
  | 14 => .boolean
  | 15 => .boolean
  | _ => .array (.object "CourtMatcher$Sheet")
theorem nmX10 : ∀ a, a < 17 → ∀ b, b < 17 → a ≠ b → (TX10 a).2.1 ≠ (TX10 b).2.1 := by decide +kernel
theorem tyX10_ok : ∀ k, k < 17 → parseFieldDescriptor (TX10 k).2.2.1 = some (tyX10 k) := by decide +kernel
abbrev cX10_init : ByteArray := prog_1_method_1_code
def yX10_init : MethodName := ⟨RX10, "<init>", "()V"⟩
abbrev cX10_here : ByteArray := prog_1_method_2_code
def yX10_here : MethodName := ⟨RX10, "here", "(III)I"⟩
abbrev cX10_trait : ByteArray := prog_1_method_3_code
def yX10_trait : MethodName := ⟨RX10, "trait", "(IIII)I"⟩
abbrev cX10_tell : ByteArray := prog_1_method_4_code
def yX10_tell : MethodName := ⟨RX10, "tell", "(IIJ)J"⟩
abbrev cX10_burden : ByteArray := prog_1_method_5_code
def yX10_burden : MethodName := ⟨RX10, "burden", "(II)J"⟩
abbrev cX10_mark : ByteArray := prog_1_method_6_code
def yX10_mark : MethodName := ⟨RX10, "mark", "(III)I"⟩
abbrev cX10_open : ByteArray := prog_1_method_7_code
def yX10_open : MethodName := ⟨RX10, "open", "(II)I"⟩
abbrev cX10_feed : ByteArray := prog_1_method_8_code
def yX10_feed : MethodName := ⟨RX10, "feed", "(I)I"⟩
abbrev cX10_text : ByteArray := prog_1_method_9_code
def yX10_text : MethodName := ⟨RX10, "text", "(I)I"⟩
abbrev cX10_empty : ByteArray := prog_1_method_10_code
def yX10_empty : MethodName := ⟨RX10, "empty", "(I)I"⟩
abbrev cX10_told : ByteArray := prog_1_method_11_code
def yX10_told : MethodName := ⟨RX10, "told", "(II)I"⟩
abbrev cX10_value : ByteArray := prog_1_method_12_code
def yX10_value : MethodName := ⟨RX10, "value", "(III)J"⟩
abbrev cX10_why : ByteArray := prog_1_method_13_code
def yX10_why : MethodName := ⟨RX10, "why", "(III)I"⟩
abbrev cX10_solve : ByteArray := prog_1_method_14_code
def yX10_solve : MethodName := ⟨RX10, "solve", "()I"⟩
abbrev cX10_round : ByteArray := prog_1_method_15_code
def yX10_round : MethodName := ⟨RX10, "round", "(II)J"⟩
abbrev cX10_price : ByteArray := prog_1_method_16_code
def yX10_price : MethodName := ⟨RX10, "price", "(III)J"⟩
abbrev cX10_total : ByteArray := prog_1_method_17_code
def yX10_total : MethodName := ⟨RX10, "total", "()J"⟩
abbrev cX10_many : ByteArray := prog_1_method_18_code
def yX10_many : MethodName := ⟨RX10, "many", "()I"⟩
abbrev cX10_best : ByteArray := prog_1_method_19_code
def yX10_best : MethodName := ⟨RX10, "best", "(II)I"⟩
abbrev cX10_kind : ByteArray := prog_1_method_20_code
def yX10_kind : MethodName := ⟨RX10, "kind", "(II)I"⟩
abbrev cX10_room : ByteArray := prog_1_method_21_code
def yX10_room : MethodName := ⟨RX10, "room", "(III)J"⟩
abbrev cX10_next : ByteArray := prog_1_method_22_code
def yX10_next : MethodName := ⟨RX10, "next", "(II)J"⟩
abbrev cX10_fair : ByteArray := prog_1_method_23_code
def yX10_fair : MethodName := ⟨RX10, "fair", "(I)J"⟩
abbrev cX10_days : ByteArray := prog_1_method_24_code
def yX10_days : MethodName := ⟨RX10, "days", "(I)J"⟩
abbrev cX10_day : ByteArray := prog_1_method_25_code
def yX10_day : MethodName := ⟨RX10, "day", "(II)I"⟩
abbrev cX10_lack : ByteArray := prog_1_method_26_code
def yX10_lack : MethodName := ⟨RX10, "lack", "(I)I"⟩
abbrev cX10_without : ByteArray := prog_1_method_27_code
def yX10_without : MethodName := ⟨RX10, "without", "(II)J"⟩
abbrev cX10_tells : ByteArray := prog_1_method_28_code
def yX10_tells : MethodName := ⟨RX10, "tells", "(II)J"⟩
abbrev cX10_film : ByteArray := prog_1_method_29_code
def yX10_film : MethodName := ⟨RX10, "film", "(II)I"⟩
abbrev cX10_image : ByteArray := prog_1_method_30_code
def yX10_image : MethodName := ⟨RX10, "image", "()I"⟩
abbrev cX10_back : ByteArray := prog_1_method_31_code
def yX10_back : MethodName := ⟨RX10, "back", "()I"⟩
abbrev cX10_count : ByteArray := prog_1_method_32_code
def yX10_count : MethodName := ⟨RX10, "count", "(I)I"⟩
abbrev cX10_sheet : ByteArray := prog_1_method_33_code
def yX10_sheet : MethodName := ⟨RX10, "sheet", "(III)I"⟩
abbrev cX10_put : ByteArray := prog_1_method_34_code
def yX10_put : MethodName := ⟨RX10, "put", "(IIJ)I"⟩
abbrev cX10_item : ByteArray := prog_1_method_35_code
def yX10_item : MethodName := ⟨RX10, "item", "(II)J"⟩
abbrev cX10_copy : ByteArray := prog_1_method_36_code
def yX10_copy : MethodName := ⟨RX10, "copy", "(IIIII)I"⟩
abbrev cX10_lay : ByteArray := prog_1_method_37_code
def yX10_lay : MethodName := ⟨RX10, "lay", "(IIIII)I"⟩
abbrev cX10_isSide : ByteArray := prog_1_method_38_code
def yX10_isSide : MethodName := ⟨RX10, "isSide", "(I)Z"⟩
abbrev cX10_isSeat : ByteArray := prog_1_method_39_code
def yX10_isSeat : MethodName := ⟨RX10, "isSeat", "(I)Z"⟩
abbrev cX10_isPair : ByteArray := prog_1_method_40_code
def yX10_isPair : MethodName := ⟨RX10, "isPair", "(II)Z"⟩
abbrev cX10_isRule : ByteArray := prog_1_method_41_code
def yX10_isRule : MethodName := ⟨RX10, "isRule", "(I)Z"⟩
abbrev cX10_isSheet : ByteArray := prog_1_method_42_code
def yX10_isSheet : MethodName := ⟨RX10, "isSheet", "(I)Z"⟩
abbrev cX10_changed : ByteArray := prog_1_method_43_code
def yX10_changed : MethodName := ⟨RX10, "changed", "()V"⟩
abbrev cX10_refreshPlan : ByteArray := prog_1_method_44_code
def yX10_refreshPlan : MethodName := ⟨RX10, "refreshPlan", "()V"⟩
abbrev cX10_refreshShares : ByteArray := prog_1_method_45_code
def yX10_refreshShares : MethodName := ⟨RX10, "refreshShares", "()V"⟩
abbrev cX10_refreshNextOnes : ByteArray := prog_1_method_46_code
def yX10_refreshNextOnes : MethodName := ⟨RX10, "refreshNextOnes", "()V"⟩
abbrev cX10_refreshDiary : ByteArray := prog_1_method_47_code
def yX10_refreshDiary : MethodName := ⟨RX10, "refreshDiary", "()V"⟩
def RX11 : String := "CourtMatcherModel"
def TX11 : u_T := fun k => match k with
  | 0 => ("CourtMatcherModel", "thrown", "I", false)
  | 1 => ("CourtMatcherModel", "isIn", "[I", true)
  | 2 => ("CourtMatcherModel", "traits", "[I", true)
  | 3 => ("CourtMatcherModel", "own", "[J", true)
  | 4 => ("CourtMatcherModel", "marks", "[I", true)
  | 5 => ("CourtMatcherModel", "partsOf", "[I", true)
  | 6 => ("CourtMatcherModel", "rootOf", "[I", true)
  | 7 => ("CourtMatcherModel", "namedBy", "[I", true)
  | 8 => ("CourtMatcherModel", "ops", "[I", true)
  | 9 => ("CourtMatcherModel", "nums", "[I", true)
  | 10 => ("CourtMatcherModel", "lefts", "[I", true)
  | 11 => ("CourtMatcherModel", "rights", "[I", true)
  | 12 => ("CourtMatcherModel", "thens", "[I", true)
  | 13 => ("CourtMatcherModel", "elses", "[I", true)
  | 14 => ("CourtMatcherModel", "places", "[I", true)
  | 15 => ("CourtMatcherModel", "tape", "[I", true)
  | 16 => ("CourtMatcherModel", "taped", "I", false)
  | 17 => ("CourtMatcherModel", "here", "I", false)
  | 18 => ("CourtMatcherModel", "token", "I", false)
  | 19 => ("CourtMatcherModel", "tokenAt", "I", false)
  | 20 => ("CourtMatcherModel", "worth", "I", false)
  | 21 => ("CourtMatcherModel", "open", "I", false)
  | 22 => ("CourtMatcherModel", "bad", "Z", false)
  | 23 => ("CourtMatcherModel", "fault", "I", false)
  | 24 => ("CourtMatcherModel", "rows", "I", false)
  | 25 => ("CourtMatcherModel", "readOp", "[I", true)
  | 26 => ("CourtMatcherModel", "readNum", "[I", true)
  | 27 => ("CourtMatcherModel", "readLeft", "[I", true)
  | 28 => ("CourtMatcherModel", "readRight", "[I", true)
  | 29 => ("CourtMatcherModel", "readThen", "[I", true)
  | 30 => ("CourtMatcherModel", "readElse", "[I", true)
  | 31 => ("CourtMatcherModel", "readPlace", "[I", true)
  | 32 => ("CourtMatcherModel", "namedWas", "[I", true)
  | 33 => ("CourtMatcherModel", "kind", "I", false)
  | 34 => ("CourtMatcherModel", "place", "I", false)
  | 35 => ("CourtMatcherModel", "chain", "I", false)
  | 36 => ("CourtMatcherModel", "last", "I", false)
  | 37 => ("CourtMatcherModel", "ahead", "I", false)
  | 38 => ("CourtMatcherModel", "judgeAt", "I", false)
  | 39 => ("CourtMatcherModel", "caseAt", "I", false)
  | 40 => ("CourtMatcherModel", "burdens", "[J", true)
  | 41 => ("CourtMatcherModel", "costs", "[J", true)
  | 42 => ("CourtMatcherModel", "leastOf", "[J", true)
  | 43 => ("CourtMatcherModel", "manyOf", "[I", true)
  | 44 => ("CourtMatcherModel", "judges", "[I", true)
  | 45 => ("CourtMatcherModel", "kept", "[J", true)
  | 46 => ("CourtMatcherModel", "nextTotal", "[J", true)
  | 47 => ("CourtMatcherModel", "nextJudge", "[I", true)
  | 48 => ("CourtMatcherModel", "nextMany", "I", false)
  | 49 => ("CourtMatcherModel", "heavy", "[J", true)
  | 50 => ("CourtMatcherModel", "rounds", "I", false)
  | 51 => ("CourtMatcherModel", "tolls", "[J", true)
  | 52 => ("CourtMatcherModel", "pays", "[J", true)
  | 53 => ("CourtMatcherModel", "roundMany", "[I", true)
  | 54 => ("CourtMatcherModel", "roundCases", "[I", true)
  | 55 => ("CourtMatcherModel", "roundJudges", "[I", true)
  | 56 => ("CourtMatcherModel", "roundTight", "[I", true)
  | 57 => ("CourtMatcherModel", "roundRise", "[J", true)
  | 58 => ("CourtMatcherModel", "prices", "[J", true)
  | 59 => ("CourtMatcherModel", "near", "[I", true)
  | 60 => ("CourtMatcherModel", "heldBy", "[I", true)
  | 61 => ("CourtMatcherModel", "seen", "I", false)
  | 62 => ("CourtMatcherModel", "marked", "I", false)
  | 63 => ("CourtMatcherModel", "markedJudges", "I", false)
  | 64 => ("CourtMatcherModel", "casesThen", "I", false)
  | 65 => ("CourtMatcherModel", "roundIn", "[I", true)
  | 66 => ("CourtMatcherModel", "marksThen", "[I", true)
  | 67 => ("CourtMatcherModel", "read", "[I", true)
  | 68 => ("CourtMatcherModel", "isKept", "Z", false)
  | 69 => ("CourtMatcherModel", "isInKept", "[I", true)
  | 70 => ("CourtMatcherModel", "traitsKept", "[I", true)
  | 71 => ("CourtMatcherModel", "ownKept", "[J", true)
  | 72 => ("CourtMatcherModel", "marksKept", "[I", true)
  | 73 => ("CourtMatcherModel", "partsKept", "[I", true)
  | 74 => ("CourtMatcherModel", "rootKept", "[I", true)
  | 75 => ("CourtMatcherModel", "namedKept", "[I", true)
  | 76 => ("CourtMatcherModel", "textKept", "[I", true)
  | 77 => ("CourtMatcherModel", "sorts", "[I", true)
  | 78 => ("CourtMatcherModel", "sizes", "[I", true)
  | _ => ("CourtMatcherModel", "items", "[J", true)
def tyX11 : Nat → FieldType := fun k => match k with
  | 0 => .int
  | 1 => .array .int
  | 2 => .array .int
  | 3 => .array .long
  | 4 => .array .int
  | 5 => .array .int
  | 6 => .array .int
  | 7 => .array .int
  | 8 => .array .int
  | 9 => .array .int
  | 10 => .array .int
  | 11 => .array .int
  | 12 => .array .int
  | 13 => .array .int
  | 14 => .array .int
  | 15 => .array .int
  | 16 => .int
  | 17 => .int
  | 18 => .int
  | 19 => .int
  | 20 => .int
  | 21 => .int
  | 22 => .boolean
  | 23 => .int
  | 24 => .int
  | 25 => .array .int
  | 26 => .array .int
  | 27 => .array .int
  | 28 => .array .int
  | 29 => .array .int
  | 30 => .array .int
  | 31 => .array .int
  | 32 => .array .int
  | 33 => .int
  | 34 => .int
  | 35 => .int
  | 36 => .int
  | 37 => .int
  | 38 => .int
  | 39 => .int
  | 40 => .array .long
  | 41 => .array .long
  | 42 => .array .long
  | 43 => .array .int
  | 44 => .array .int
  | 45 => .array .long
  | 46 => .array .long
  | 47 => .array .int
  | 48 => .int
  | 49 => .array .long
  | 50 => .int
  | 51 => .array .long
  | 52 => .array .long
  | 53 => .array .int
  | 54 => .array .int
  | 55 => .array .int
  | 56 => .array .int
  | 57 => .array .long
  | 58 => .array .long
  | 59 => .array .int
  | 60 => .array .int
  | 61 => .int
  | 62 => .int
  | 63 => .int
  | 64 => .int
  | 65 => .array .int
  | 66 => .array .int
  | 67 => .array .int
  | 68 => .boolean
  | 69 => .array .int
  | 70 => .array .int
  | 71 => .array .long
  | 72 => .array .int
  | 73 => .array .int
  | 74 => .array .int
  | 75 => .array .int
  | 76 => .array .int
  | 77 => .array .int
  | 78 => .array .int
  | _ => .array .long
theorem nmX11 : ∀ a, a < 80 → ∀ b, b < 80 → a ≠ b → (TX11 a).2.1 ≠ (TX11 b).2.1 := by decide +kernel
theorem tyX11_ok : ∀ k, k < 80 → parseFieldDescriptor (TX11 k).2.2.1 = some (tyX11 k) := by decide +kernel
abbrev cX11_in : ByteArray := prog_13_method_2_code
def yX11_in : MethodName := ⟨RX11, "in", "(JJJ)Z"⟩
abbrev cX11_init : ByteArray := prog_13_method_3_code
def yX11_init : MethodName := ⟨RX11, "<init>", "()V"⟩
abbrev cX11_isWho : ByteArray := prog_13_method_4_code
def yX11_isWho : MethodName := ⟨RX11, "isWho", "(II)Z"⟩
abbrev cX11_isPair : ByteArray := prog_13_method_5_code
def yX11_isPair : MethodName := ⟨RX11, "isPair", "(II)Z"⟩
abbrev cX11_isJudge : ByteArray := prog_13_method_6_code
def yX11_isJudge : MethodName := ⟨RX11, "isJudge", "(I)Z"⟩
abbrev cX11_isCase : ByteArray := prog_13_method_7_code
def yX11_isCase : MethodName := ⟨RX11, "isCase", "(I)Z"⟩
abbrev cX11_here : ByteArray := prog_13_method_8_code
def yX11_here : MethodName := ⟨RX11, "here", "(III)I"⟩
abbrev cX11_trait : ByteArray := prog_13_method_9_code
def yX11_trait : MethodName := ⟨RX11, "trait", "(IIII)I"⟩
abbrev cX11_feed : ByteArray := prog_13_method_10_code
def yX11_feed : MethodName := ⟨RX11, "feed", "(I)I"⟩
abbrev cX11_byteAt : ByteArray := prog_13_method_11_code
def yX11_byteAt : MethodName := ⟨RX11, "byteAt", "(I)I"⟩
abbrev cX11_isLetter : ByteArray := prog_13_method_12_code
def yX11_isLetter : MethodName := ⟨RX11, "isLetter", "(I)Z"⟩
abbrev cX11_isDigit : ByteArray := prog_13_method_13_code
def yX11_isDigit : MethodName := ⟨RX11, "isDigit", "(I)Z"⟩
abbrev cX11_isThree : ByteArray := prog_13_method_14_code
def yX11_isThree : MethodName := ⟨RX11, "isThree", "(III)Z"⟩
abbrev cX11_word : ByteArray := prog_13_method_15_code
def yX11_word : MethodName := ⟨RX11, "word", "()I"⟩
abbrev cX11_isSignByte : ByteArray := prog_13_method_16_code
def yX11_isSignByte : MethodName := ⟨RX11, "isSignByte", "(I)Z"⟩
abbrev cX11_next : ByteArray := prog_13_method_17_code
def yX11_next : MethodName := ⟨RX11, "next", "()V"⟩
abbrev cX11_fail : ByteArray := prog_13_method_18_code
def yX11_fail : MethodName := ⟨RX11, "fail", "()V"⟩
abbrev cX11_isSign : ByteArray := prog_13_method_19_code
def yX11_isSign : MethodName := ⟨RX11, "isSign", "(I)Z"⟩
abbrev cX11_takes : ByteArray := prog_13_method_20_code
def yX11_takes : MethodName := ⟨RX11, "takes", "(I)V"⟩
abbrev cX11_part : ByteArray := prog_13_method_21_code
def yX11_part : MethodName := ⟨RX11, "part", "(II)I"⟩
abbrev cX11_opens : ByteArray := prog_13_method_22_code
def yX11_opens : MethodName := ⟨RX11, "opens", "()Z"⟩
abbrev cX11_expression : ByteArray := prog_13_method_23_code
def yX11_expression : MethodName := ⟨RX11, "expression", "()I"⟩
abbrev cX11_sum : ByteArray := prog_13_method_24_code
def yX11_sum : MethodName := ⟨RX11, "sum", "()I"⟩
abbrev cX11_product : ByteArray := prog_13_method_25_code
def yX11_product : MethodName := ⟨RX11, "product", "()I"⟩
abbrev cX11_factor : ByteArray := prog_13_method_26_code
def yX11_factor : MethodName := ⟨RX11, "factor", "()I"⟩
abbrev cX11_ofTwo : ByteArray := prog_13_method_27_code
def yX11_ofTwo : MethodName := ⟨RX11, "ofTwo", "()I"⟩
abbrev cX11_names : ByteArray := prog_13_method_28_code
def yX11_names : MethodName := ⟨RX11, "names", "(I)I"⟩
abbrev cX11_comesTo : ByteArray := prog_13_method_29_code
def yX11_comesTo : MethodName := ⟨RX11, "comesTo", "(I)I"⟩
abbrev cX11_weight : ByteArray := prog_13_method_30_code
def yX11_weight : MethodName := ⟨RX11, "weight", "(I)I"⟩
abbrev cX11_trades : ByteArray := prog_13_method_31_code
def yX11_trades : MethodName := ⟨RX11, "trades", "(I)V"⟩
abbrev cX11_isHeavy : ByteArray := prog_13_method_32_code
def yX11_isHeavy : MethodName := ⟨RX11, "isHeavy", "()Z"⟩
abbrev cX11_text : ByteArray := prog_13_method_33_code
def yX11_text : MethodName := ⟨RX11, "text", "(I)I"⟩
abbrev cX11_empty : ByteArray := prog_13_method_34_code
def yX11_empty : MethodName := ⟨RX11, "empty", "(I)I"⟩
abbrev cX11_told : ByteArray := prog_13_method_35_code
def yX11_told : MethodName := ⟨RX11, "told", "(II)I"⟩
abbrev cX11_fails : ByteArray := prog_13_method_36_code
def yX11_fails : MethodName := ⟨RX11, "fails", "(III)J"⟩
abbrev cX11_valueOf : ByteArray := prog_13_method_37_code
def yX11_valueOf : MethodName := ⟨RX11, "valueOf", "(I)J"⟩
abbrev cX11_named : ByteArray := prog_13_method_38_code
def yX11_named : MethodName := ⟨RX11, "named", "(II)J"⟩
abbrev cX11_limited : ByteArray := prog_13_method_39_code
def yX11_limited : MethodName := ⟨RX11, "limited", "(JII)J"⟩
abbrev cX11_valueOf_ : ByteArray := prog_13_method_40_code
def yX11_valueOf_ : MethodName := ⟨RX11, "valueOf", "(II)J"⟩
abbrev cX11_asked : ByteArray := prog_13_method_41_code
def yX11_asked : MethodName := ⟨RX11, "asked", "(III)J"⟩
abbrev cX11_value : ByteArray := prog_13_method_42_code
def yX11_value : MethodName := ⟨RX11, "value", "(III)J"⟩
abbrev cX11_why : ByteArray := prog_13_method_43_code
def yX11_why : MethodName := ⟨RX11, "why", "(III)I"⟩
abbrev cX11_burdenOf : ByteArray := prog_13_method_44_code
def yX11_burdenOf : MethodName := ⟨RX11, "burdenOf", "(II)J"⟩
abbrev cX11_forcedOf : ByteArray := prog_13_method_45_code
def yX11_forcedOf : MethodName := ⟨RX11, "forcedOf", "([III)I"⟩
abbrev cX11_isOpen : ByteArray := prog_13_method_46_code
def yX11_isOpen : MethodName := ⟨RX11, "isOpen", "([III)Z"⟩
abbrev cX11_tellsBurdens : ByteArray := prog_13_method_47_code
def yX11_tellsBurdens : MethodName := ⟨RX11, "tellsBurdens", "()V"⟩
abbrev cX11_opens_ : ByteArray := prog_13_method_48_code
def yX11_opens_ : MethodName := ⟨RX11, "opens", "([I)V"⟩
abbrev cX11_costs : ByteArray := prog_13_method_49_code
def yX11_costs : MethodName := ⟨RX11, "costs", "()V"⟩
abbrev cX11_burden : ByteArray := prog_13_method_50_code
def yX11_burden : MethodName := ⟨RX11, "burden", "(II)J"⟩
abbrev cX11_mark : ByteArray := prog_13_method_51_code
def yX11_mark : MethodName := ⟨RX11, "mark", "(III)I"⟩
abbrev cX11_open : ByteArray := prog_13_method_52_code
def yX11_open : MethodName := ⟨RX11, "open", "(II)I"⟩
abbrev cX11_openMany : ByteArray := prog_13_method_53_code
def yX11_openMany : MethodName := ⟨RX11, "openMany", "()I"⟩
abbrev cX11_least : ByteArray := prog_13_method_54_code
def yX11_least : MethodName := ⟨RX11, "least", "()J"⟩
abbrev cX11_toldOr : ByteArray := prog_13_method_55_code
def yX11_toldOr : MethodName := ⟨RX11, "toldOr", "(J)J"⟩
abbrev cX11_picks : ByteArray := prog_13_method_56_code
def yX11_picks : MethodName := ⟨RX11, "picks", "(I)V"⟩
abbrev cX11_tell : ByteArray := prog_13_method_57_code
def yX11_tell : MethodName := ⟨RX11, "tell", "(IIJ)J"⟩
abbrev cX11_total : ByteArray := prog_13_method_58_code
def yX11_total : MethodName := ⟨RX11, "total", "()J"⟩
abbrev cX11_many : ByteArray := prog_13_method_59_code
def yX11_many : MethodName := ⟨RX11, "many", "()I"⟩
abbrev cX11_best : ByteArray := prog_13_method_60_code
def yX11_best : MethodName := ⟨RX11, "best", "(II)I"⟩
abbrev cX11_with : ByteArray := prog_13_method_61_code
def yX11_with : MethodName := ⟨RX11, "with", "(II)J"⟩
abbrev cX11_lacking : ByteArray := prog_13_method_62_code
def yX11_lacking : MethodName := ⟨RX11, "lacking", "(II)J"⟩
abbrev cX11_kind : ByteArray := prog_13_method_63_code
def yX11_kind : MethodName := ⟨RX11, "kind", "(II)I"⟩
abbrev cX11_room : ByteArray := prog_13_method_64_code
def yX11_room : MethodName := ⟨RX11, "room", "(III)J"⟩
abbrev cX11_enters : ByteArray := prog_13_method_65_code
def yX11_enters : MethodName := ⟨RX11, "enters", "(J)V"⟩
abbrev cX11_walks : ByteArray := prog_13_method_66_code
def yX11_walks : MethodName := ⟨RX11, "walks", "(IIJ)V"⟩
abbrev cX11_lists : ByteArray := prog_13_method_67_code
def yX11_lists : MethodName := ⟨RX11, "lists", "()V"⟩
abbrev cX11_next_ : ByteArray := prog_13_method_68_code
def yX11_next_ : MethodName := ⟨RX11, "next", "(II)J"⟩
abbrev cX11_heaviest : ByteArray := prog_13_method_69_code
def yX11_heaviest : MethodName := ⟨RX11, "heaviest", "()J"⟩
abbrev cX11_fair : ByteArray := prog_13_method_70_code
def yX11_fair : MethodName := ⟨RX11, "fair", "(I)J"⟩
abbrev cX11_finds : ByteArray := prog_13_method_71_code
def yX11_finds : MethodName := ⟨RX11, "finds", "(I)Z"⟩
abbrev cX11_greatest : ByteArray := prog_13_method_72_code
def yX11_greatest : MethodName := ⟨RX11, "greatest", "(I)I"⟩
abbrev cX11_marking : ByteArray := prog_13_method_73_code
def yX11_marking : MethodName := ⟨RX11, "marking", "()I"⟩
abbrev cX11_casesIn : ByteArray := prog_13_method_74_code
def yX11_casesIn : MethodName := ⟨RX11, "casesIn", "()I"⟩
abbrev cX11_slack : ByteArray := prog_13_method_75_code
def yX11_slack : MethodName := ⟨RX11, "slack", "(II)J"⟩
abbrev cX11_rise : ByteArray := prog_13_method_76_code
def yX11_rise : MethodName := ⟨RX11, "rise", "()J"⟩
abbrev cX11_begins : ByteArray := prog_13_method_77_code
def yX11_begins : MethodName := ⟨RX11, "begins", "()V"⟩
abbrev cX11_isLast : ByteArray := prog_13_method_78_code
def yX11_isLast : MethodName := ⟨RX11, "isLast", "()Z"⟩
abbrev cX11_solve : ByteArray := prog_13_method_79_code
def yX11_solve : MethodName := ⟨RX11, "solve", "()I"⟩
abbrev cX11_round : ByteArray := prog_13_method_80_code
def yX11_round : MethodName := ⟨RX11, "round", "(II)J"⟩
abbrev cX11_price : ByteArray := prog_13_method_81_code
def yX11_price : MethodName := ⟨RX11, "price", "(III)J"⟩
abbrev cX11_daysOf : ByteArray := prog_13_method_82_code
def yX11_daysOf : MethodName := ⟨RX11, "daysOf", "(I)J"⟩
abbrev cX11_days : ByteArray := prog_13_method_83_code
def yX11_days : MethodName := ⟨RX11, "days", "(I)J"⟩
abbrev cX11_day : ByteArray := prog_13_method_84_code
def yX11_day : MethodName := ⟨RX11, "day", "(II)I"⟩
abbrev cX11_lack : ByteArray := prog_13_method_85_code
def yX11_lack : MethodName := ⟨RX11, "lack", "(I)I"⟩
abbrev cX11_without : ByteArray := prog_13_method_86_code
def yX11_without : MethodName := ⟨RX11, "without", "(II)J"⟩
abbrev cX11_casesMany : ByteArray := prog_13_method_87_code
def yX11_casesMany : MethodName := ⟨RX11, "casesMany", "()I"⟩
abbrev cX11_reads : ByteArray := prog_13_method_88_code
def yX11_reads : MethodName := ⟨RX11, "reads", "(I)Z"⟩
abbrev cX11_tells : ByteArray := prog_13_method_89_code
def yX11_tells : MethodName := ⟨RX11, "tells", "(II)J"⟩
abbrev cX11_placeOf : ByteArray := prog_13_method_90_code
def yX11_placeOf : MethodName := ⟨RX11, "placeOf", "()I"⟩
abbrev cX11_film : ByteArray := prog_13_method_91_code
def yX11_film : MethodName := ⟨RX11, "film", "(II)I"⟩
abbrev cX11_copies : ByteArray := prog_13_method_92_code
def yX11_copies : MethodName := ⟨RX11, "copies", "([I[IIIZ)V"⟩
abbrev cX11_keeps : ByteArray := prog_13_method_93_code
def yX11_keeps : MethodName := ⟨RX11, "keeps", "(Z)V"⟩
abbrev cX11_image : ByteArray := prog_13_method_94_code
def yX11_image : MethodName := ⟨RX11, "image", "()I"⟩
abbrev cX11_back : ByteArray := prog_13_method_95_code
def yX11_back : MethodName := ⟨RX11, "back", "()I"⟩
abbrev cX11_marksOf : ByteArray := prog_13_method_96_code
def yX11_marksOf : MethodName := ⟨RX11, "marksOf", "(I)I"⟩
abbrev cX11_count : ByteArray := prog_13_method_97_code
def yX11_count : MethodName := ⟨RX11, "count", "(I)I"⟩
abbrev cX11_isSheet : ByteArray := prog_13_method_98_code
def yX11_isSheet : MethodName := ⟨RX11, "isSheet", "(I)Z"⟩
abbrev cX11_sheet : ByteArray := prog_13_method_99_code
def yX11_sheet : MethodName := ⟨RX11, "sheet", "(III)I"⟩
abbrev cX11_put : ByteArray := prog_13_method_100_code
def yX11_put : MethodName := ⟨RX11, "put", "(IIJ)I"⟩
abbrev cX11_item : ByteArray := prog_13_method_101_code
def yX11_item : MethodName := ⟨RX11, "item", "(II)J"⟩
abbrev cX11_copy : ByteArray := prog_13_method_102_code
def yX11_copy : MethodName := ⟨RX11, "copy", "(IIIII)I"⟩
abbrev cX11_lay : ByteArray := prog_13_method_103_code
def yX11_lay : MethodName := ⟨RX11, "lay", "(IIIII)I"⟩
def RJ6 : String := "java/lang/Integer"
def TJ6 : u_T := fun k => match k with
  | _ => ("", "", "", false)
def tyJ6 : Nat → FieldType := fun k => match k with
  | _ => .int
abbrev cJ6_bitCount_0f7a4 : ByteArray := prog_14_method_49_code
def yJ6_bitCount_0f7a4 : MethodName := ⟨RJ6, "bitCount", "(I)I"⟩
def RJ9 : String := "java/lang/Math"
def TJ9 : u_T := fun k => match k with
  | _ => ("", "", "", false)
def tyJ9 : Nat → FieldType := fun k => match k with
  | _ => .int
abbrev cJ9_floorDiv_f86c9 : ByteArray := prog_15_method_49_code
def yJ9_floorDiv_f86c9 : MethodName := ⟨RJ9, "floorDiv", "(JJ)J"⟩
abbrev cJ9_floorMod_f86c9 : ByteArray := prog_15_method_52_code
def yJ9_floorMod_f86c9 : MethodName := ⟨RJ9, "floorMod", "(JJ)J"⟩
abbrev cJ9_abs_067f4 : ByteArray := prog_15_method_61_code
def yJ9_abs_067f4 : MethodName := ⟨RJ9, "abs", "(J)J"⟩
abbrev cJ9_max_f86c9 : ByteArray := prog_15_method_66_code
def yJ9_max_f86c9 : MethodName := ⟨RJ9, "max", "(JJ)J"⟩
abbrev cJ9_min_f86c9 : ByteArray := prog_15_method_70_code
def yJ9_min_f86c9 : MethodName := ⟨RJ9, "min", "(JJ)J"⟩
def RJ10 : String := "java/lang/System"
def TJ10 : u_T := fun k => match k with
  | _ => ("", "", "", false)
def tyJ10 : Nat → FieldType := fun k => match k with
  | _ => .int
def RJ7 : String := "java/util/Arrays"
def TJ7 : u_T := fun k => match k with
  | _ => ("", "", "", false)
def tyJ7 : Nat → FieldType := fun k => match k with
  | _ => .int
abbrev cJ7_fill_d0a16 : ByteArray := prog_17_method_101_code
def yJ7_fill_d0a16 : MethodName := ⟨RJ7, "fill", "([JJ)V"⟩
abbrev cJ7_fill_53178 : ByteArray := prog_17_method_103_code
def yJ7_fill_53178 : MethodName := ⟨RJ7, "fill", "([II)V"⟩
def RL : String := "CourtMatcherLaw"
abbrev cL_law : ByteArray := code
def yL_law : MethodName := ⟨RL, "law", "([I)Z"⟩
end
section
/-! THE ABSTRACT MACHINE: the walked methods' instructions over numbers (Int) alone; a cell is a number, its places are numbers.
Values: jI an int, jL a long, jO c a an object of class c at cell a, jY t n a an array (t 0 int, 1 long, 2 Rule, 3 Sheet, 4 the script) of length n at cell a. -/
abbrev jV : Type := Int ⊕ (Int ⊕ ((Nat × Int) ⊕ (Nat × Int × Int)))
abbrev jI (a : Int) : jV := .inl a
abbrev jL (a : Int) : jV := .inr (.inl a)
abbrev jO (c : Nat) (a : Int) : jV := .inr (.inr (.inl (c, a)))
abbrev jY (t : Nat) (n a : Int) : jV := .inr (.inr (.inr (t, n, a)))
abbrev jS : Type := List (Option jV)
abbrev jM : Type := Int → Int → Int
/-- one place of the memory gets a value -/
def jUp (m : jM) (k i v : Int) : jM := fun a b => if a = k ∧ b = i then v else m a b
/-- n places from sp on of a0 come to a1, dp -/
def jCp (m : jM) (a0 sp a1 dp n : Int) : jM := fun k i => if k = a1 ∧ dp ≤ i ∧ i < dp + n then m a0 (sp + (i - dp)) else m k i
def w32 (z : Int) : Int := z.bmod 4294967296
def w64 (z : Int) : Int := z.bmod 18446744073709551616
def iAnd (a b : Int) : Int := (Int32.ofInt a &&& Int32.ofInt b).toInt
def iOr (a b : Int) : Int := (Int32.ofInt a ||| Int32.ofInt b).toInt
def iXor (a b : Int) : Int := (Int32.ofInt a ^^^ Int32.ofInt b).toInt
def iShl (a b : Int) : Int := (Int32.ofInt a <<< (Int32.ofInt b &&& 31)).toInt
def iShr (a b : Int) : Int := (Int32.ofInt a >>> (Int32.ofInt b &&& 31)).toInt
def iUshr (a b : Int) : Int := ((Int32.ofInt a).toUInt32 >>> ((Int32.ofInt b).toUInt32 &&& Int32.toUInt32 31)).toInt32.toInt
def iDiv (a b : Int) : Int := w32 (a.tdiv b)
def iRem (a b : Int) : Int := a.tmod b
def lAnd (a b : Int) : Int := (Int64.ofInt a &&& Int64.ofInt b).toInt
def lOr (a b : Int) : Int := (Int64.ofInt a ||| Int64.ofInt b).toInt
def lXor (a b : Int) : Int := (Int64.ofInt a ^^^ Int64.ofInt b).toInt
def lShl (a b : Int) : Int := (Int64.ofInt a <<< ((Int32.ofInt b).toInt64 &&& 63)).toInt
def lDiv (a b : Int) : Int := w64 (a.tdiv b)
def lRem (a b : Int) : Int := a.tmod b
def i2b (a : Int) : Int := a.bmod 256
/-- what a method's number says: its place in the tables, how many arguments, what it answers (0 nothing, 1 int, 2 long, 3 boolean), its locals, its class, how it is called (0 static, 1 virtual, 2 a constructor), its mode (0 as ever, 1 it makes cells, 2 a leaf), how many cells it makes -/
def jIx (z : Nat) : Nat := z % 256
def jNa (z : Nat) : Nat := z / 256 % 16
def jRt (z : Nat) : Nat := z / 4096 % 8
def jMx (z : Nat) : Nat := z / 32768 % 64
def jCl (z : Nat) : Nat := z / 2097152 % 16
def jKi (z : Nat) : Nat := z / 33554432 % 4
def jMd (z : Nat) : Nat := z / 134217728 % 4
def jMc (z : Nat) : Nat := z / 536870912
/-- what a field's number says: class, place, tag (0 int, 1 long, 2 boolean, 3 an object that stays, 4 an array that stays, 5 an object that may change), the object's class or the array's sort, how far behind the holder the cell lies, its length -/
def jFc (f : Nat) : Nat := f % 16
def jFj (f : Nat) : Nat := f / 16 % 128
def jFg (f : Nat) : Nat := f / 2048 % 8
def jFt (f : Nat) : Nat := f / 16384 % 32
def jFo (f : Nat) : Nat := f / 524288 % 1024
def jFl (f : Nat) : Nat := f / 536870912
/-- locals -/
def jKl (ls : jS) (i : Nat) : jS := match i with
  | 0 => ls
  | i + 1 => match ls[i]? with
    | some (some (.inr (.inl _))) => ls.set i none
    | _ => ls
def jSt1 (ls : jS) (i : Nat) (v : jV) : Option jS := if i < ls.length then some ((jKl ls i).set i (some v)) else none
def jSt2 (ls : jS) (i : Nat) (v : jV) : Option jS := if i + 1 < ls.length then some (((jKl ls i).set i (some v)).set (i + 1) none) else none
def jLay : List jV → jS
  | [] => []
  | .inr (.inl a) :: r => some (.inr (.inl a)) :: none :: jLay r
  | v :: r => some v :: jLay r
def jEnt (z : Nat) (args : List jV) : jS := jLay args ++ List.replicate (jMx z - (jLay args).length) none
def jCat : jV → Nat
  | .inr (.inl _) => 2
  | _ => 1
def jCats (st : List jV) : Nat := (st.map jCat).sum
def jPush (rt : Nat) (v : Int) (st : List jV) : List jV := match rt with
  | 0 => st
  | 2 => .inr (.inl v) :: st
  | _ => .inl v :: st
/-- where an instruction leads: on; on if ..; two ways; many ways; a call; the end -/
abbrev jE : Type := (Nat × jS × List jV × jM) ⊕ ((Prop × Nat × jS × List jV × jM) ⊕ ((Prop × Nat × Nat × List jV) ⊕ ((List (Prop × Nat) × List jV) ⊕ ((Nat × List jV × List jV) ⊕ Int))))
abbrev jN (pc : Nat) (ls : jS) (st : List jV) (m : jM) : Option jE := some (.inl (pc, ls, st, m))
abbrev jG (c : Prop) (pc : Nat) (ls : jS) (st : List jV) (m : jM) : Option jE := some (.inr (.inl (c, pc, ls, st, m)))
abbrev jB (c : Prop) (p1 p2 : Nat) (st : List jV) : Option jE := some (.inr (.inr (.inl (c, p1, p2, st))))
abbrev jW (l : List (Prop × Nat)) (st : List jV) : Option jE := some (.inr (.inr (.inr (.inl (l, st)))))
abbrev jC (y : Nat) (args st : List jV) : Option jE := some (.inr (.inr (.inr (.inr (.inl (y, args, st))))))
abbrev jR (v : Int) : Option jE := some (.inr (.inr (.inr (.inr (.inr v)))))
def jBr (c : Jvm.ClassFile.Cond) (x y : Int) (t n : Nat) (st : List jV) : Option jE := match c with
  | .eq => jB (x = y) t n st
  | .ne => jB (x = y) n t st
  | .lt => jB (x < y) t n st
  | .ge => jB (x < y) n t st
  | .gt => jB (y < x) t n st
  | .le => jB (y < x) n t st
/-- the list's spine is made plain, then it goes on -/
def jFor {β : Type} : jS → (jS → β) → β
  | [], k => k []
  | a :: l, k => jFor l (fun l' => k (a :: l'))
def jForP : jS → (jS → Prop) → Prop
  | [], k => k []
  | a :: l, k => jForP l (fun l' => k (a :: l'))
def jLs (o : Option jS) (pc : Nat) (st : List jV) (m : jM) : Option jE := match o with
  | none => none
  | some ls => jFor ls (fun ls => jN pc ls st m)
end
section
/-! THE TABLES, by program: the cells (kind, length), the methods (instructions with their operands resolved). Cells: CourtMatcher 0 .. 103, CourtMatcherModel 104 .. 160. -/
def jKs : List Nat := [10, 0, 20, 21, 20, 22, 20, 6, 20, 20, 20, 6, 20, 20, 20, 6, 20, 20, 20, 6, 20, 20, 20, 0, 20, 21, 20, 22, 20, 6, 20, 20, 20, 6, 20, 20, 20, 6, 20, 20, 20, 6, 20, 20, 20, 8, 20, 6, 20, 20, 20, 9, 21, 20, 4, 20, 21, 20, 21, 20, 20, 20, 4, 20, 21, 20, 21, 20, 20, 20, 2, 20, 20, 20, 20, 5, 21, 21, 21, 21, 20, 3, 20, 21, 20, 20, 20, 21, 20, 1, 21, 20, 20, 20, 20, 23, 7, 21, 7, 21, 7, 21, 7, 21, 11, 20, 20, 21, 20, 20, 20, 20, 20, 20, 20, 20, 20, 20, 20, 20, 20, 20, 20, 20, 20, 20, 20, 20, 21, 21, 21, 20, 20, 21, 21, 20, 21, 21, 21, 20, 20, 20, 20, 21, 21, 20, 20, 20, 20, 20, 20, 20, 21, 20, 20, 20, 20, 20, 20, 20, 21]
def jLs0 : List Int := [17, 7, 48, 64, 64, 4, 4, 5, 40, 40, 40, 5, 40, 40, 40, 5, 40, 40, 40, 5, 40, 40, 40, 7, 48, 64, 64, 4, 4, 5, 40, 40, 40, 5, 40, 40, 40, 5, 40, 40, 40, 5, 40, 40, 40, 9, 60, 5, 40, 40, 40, 7, 160, 4, 10, 8, 64, 8, 256, 256, 256, 64, 10, 8, 64, 8, 256, 256, 256, 64, 7, 8, 8, 8, 8, 6, 384, 1024, 8, 8, 8, 7, 256, 3072, 3072, 3072, 8, 8, 96, 5, 8, 64, 8, 64, 8, 4, 3, 40, 3, 40, 3, 40, 3, 40, 80, 16, 48, 64, 64, 4, 4, 16, 96, 96, 96, 96, 96, 96, 96, 60, 24, 24, 24, 24, 24, 24, 24, 4, 64, 64, 2304, 2304, 8, 8, 13, 104, 2304, 8, 8, 120, 120, 120, 120, 120, 1920, 8, 8, 120, 64, 8, 16, 48, 64, 64, 4, 4, 16, 672, 4, 4, 160]
def jKd (k : Int) : Nat := jKs.getD k.toNat 99
def jLn (k : Int) : Int := jLs0.getD k.toNat 0
def jRfs : List (Nat × Int) := [(0, 2), (0, 3), (0, 4), (0, 5), (0, 6), (1, 1), (1, 2), (1, 3), (1, 4), (2, 3), (2, 4), (2, 5), (2, 6), (3, 0), (3, 1), (3, 2), (3, 3), (3, 4), (3, 5), (3, 6), (4, 2), (4, 4), (4, 5), (4, 6), (4, 7), (4, 8), (4, 9), (5, 1), (5, 2), (5, 3), (5, 4), (5, 5), (6, 2), (6, 3), (6, 4), (7, 2), (8, 0), (8, 2), (9, 0), (9, 1), (10, 0), (10, 1), (10, 3), (10, 4), (10, 5), (10, 6), (10, 7), (10, 8), (10, 9), (10, 10), (10, 11), (10, 16), (11, 1), (11, 2), (11, 3), (11, 4), (11, 5), (11, 6), (11, 7), (11, 8), (11, 9), (11, 10), (11, 11), (11, 12), (11, 13), (11, 14), (11, 15), (11, 25), (11, 26), (11, 27), (11, 28), (11, 29), (11, 30), (11, 31), (11, 32), (11, 40), (11, 41), (11, 42), (11, 43), (11, 44), (11, 45), (11, 46), (11, 47), (11, 49), (11, 51), (11, 52), (11, 53), (11, 54), (11, 55), (11, 56), (11, 57), (11, 58), (11, 59), (11, 60), (11, 65), (11, 66), (11, 67), (11, 69), (11, 70), (11, 71), (11, 72), (11, 73), (11, 74), (11, 75), (11, 76), (11, 77), (11, 78), (11, 79)]
def jDf (k i : Int) : Int := if jKd k = 22 ∨ jKd k = 23 ∨ (jKd k, i) ∈ jRfs then -1 else 0
def jFin : List (Int × Int × Int) := [(0, 0, 1), (0, 1, 23), (0, 3, 45), (0, 4, 51), (0, 5, 54), (0, 6, 62), (0, 7, 70), (0, 8, 75), (0, 9, 81), (0, 10, 89), (0, 11, 94), (0, 16, 95), (1, 2, 2), (1, 3, 3), (1, 4, 4), (1, 5, 5), (1, 6, 6), (7, 2, 8), (7, 3, 9), (7, 4, 10), (11, 2, 12), (11, 3, 13), (11, 4, 14), (15, 2, 16), (15, 3, 17), (15, 4, 18), (19, 2, 20), (19, 3, 21), (19, 4, 22), (23, 2, 24), (23, 3, 25), (23, 4, 26), (23, 5, 27), (23, 6, 28), (29, 2, 30), (29, 3, 31), (29, 4, 32), (33, 2, 34), (33, 3, 35), (33, 4, 36), (37, 2, 38), (37, 3, 39), (37, 4, 40), (41, 2, 42), (41, 3, 43), (41, 4, 44), (45, 0, 46), (47, 2, 48), (47, 3, 49), (47, 4, 50), (51, 0, 52), (51, 1, 53), (54, 2, 55), (54, 4, 56), (54, 5, 57), (54, 6, 58), (54, 7, 59), (54, 8, 60), (54, 9, 61), (62, 2, 63), (62, 4, 64), (62, 5, 65), (62, 6, 66), (62, 7, 67), (62, 8, 68), (62, 9, 69), (70, 3, 71), (70, 4, 72), (70, 5, 73), (70, 6, 74), (75, 1, 76), (75, 2, 77), (75, 3, 78), (75, 4, 79), (75, 5, 80), (81, 0, 82), (81, 1, 83), (81, 2, 84), (81, 3, 85), (81, 4, 86), (81, 5, 87), (81, 6, 88), (89, 1, 90), (89, 2, 91), (89, 3, 92), (89, 4, 93), (96, 2, 97), (98, 2, 99), (100, 2, 101), (102, 2, 103), (104, 1, 105), (104, 2, 106), (104, 3, 107), (104, 4, 108), (104, 5, 109), (104, 6, 110), (104, 7, 111), (104, 8, 112), (104, 9, 113), (104, 10, 114), (104, 11, 115), (104, 12, 116), (104, 13, 117), (104, 14, 118), (104, 15, 119), (104, 25, 120), (104, 26, 121), (104, 27, 122), (104, 28, 123), (104, 29, 124), (104, 30, 125), (104, 31, 126), (104, 32, 127), (104, 40, 128), (104, 41, 129), (104, 42, 130), (104, 43, 131), (104, 44, 132), (104, 45, 133), (104, 46, 134), (104, 47, 135), (104, 49, 136), (104, 51, 137), (104, 52, 138), (104, 53, 139), (104, 54, 140), (104, 55, 141), (104, 56, 142), (104, 57, 143), (104, 58, 144), (104, 59, 145), (104, 60, 146), (104, 65, 147), (104, 66, 148), (104, 67, 149), (104, 69, 150), (104, 70, 151), (104, 71, 152), (104, 72, 153), (104, 73, 154), (104, 74, 155), (104, 75, 156), (104, 76, 157), (104, 77, 158), (104, 78, 159), (104, 79, 160)]
def jMut : List (Int × Int × Nat) := [(45, 2, 6), (5, 0, 6), (5, 1, 6), (5, 2, 6), (5, 3, 6), (27, 0, 6), (27, 1, 6), (27, 2, 6), (27, 3, 6), (95, 0, 7), (95, 1, 7), (95, 2, 7), (95, 3, 7)]
/-- all cells are made, the references that stay are set, those that change are set too -/
def jFull (m : jM) : Prop := m (-3) 0 = 161 ∧ (∀ q ∈ jFin, m q.1 q.2.1 = q.2.2) ∧ ∀ q ∈ jMut, 0 ≤ m q.1 q.2.1 ∧ m q.1 q.2.1 < 161 ∧ jKd (m q.1 q.2.1) = q.2.2
abbrev zX0_init : Nat := 11475681536
abbrev zX0_take : Nat := 33653249
abbrev zX0_seat : Nat := 33756162
abbrev zX0_isIn : Nat := 33632771
abbrev zX0_forcedBeside : Nat := 33698308
abbrev zX0_marked : Nat := 33690117
abbrev zX0_owned : Nat := 33657094
abbrev zX0_namersOf : Nat := 33690119
abbrev zX0_reachOf : Nat := 33722888
abbrev zX0_weighRules : Nat := 33653001
abbrev zX0_refusalOf : Nat := 33657354
abbrev zX1_init : Nat := 2350940427
abbrev zX1_write : Nat := 35849228
abbrev zX1_hear : Nat := 35816205
abbrev zX2_init : Nat := 2353037582
abbrev zX2_find : Nat := 37880591
abbrev zX2_grow : Nat := 38056720
abbrev zX2_turn : Nat := 37945873
abbrev zX2_spread : Nat := 37913362
abbrev zX3_init : Nat := 3965747475
abbrev zX3_find : Nat := 39977492
abbrev zX3_merge : Nat := 40080405
abbrev zX3_headTotal : Nat := 40084758
abbrev zX3_firstJudge : Nat := 39948567
abbrev zX3_follow : Nat := 40076056
abbrev zX3_placeOf : Nat := 40014361
abbrev zX4_init : Nat := 3967844634
abbrev zX4_load : Nat := 42074907
abbrev zX4_take : Nat := 42009116
abbrev zX4_openBy : Nat := 42041885
abbrev zX4_force : Nat := 42074910
abbrev zX4_isOpen : Nat := 42054431
abbrev zX4_openPairs : Nat := 42045728
abbrev zX4_closeJudge : Nat := 42041889
abbrev zX4_closeHeavier : Nat := 42074658
abbrev zX4_heavierThan : Nat := 42111523
abbrev zX4_weigh : Nat := 42074660
abbrev zX4_listCases : Nat := 42008869
abbrev zX4_canTake : Nat := 42021414
abbrev zX4_weighFrom : Nat := 42468391
abbrev zX4_leads : Nat := 42120232
abbrev zX4_pick : Nat := 42238761
abbrev zX4_share : Nat := 42041642
abbrev zX4_shareFrom : Nat := 42107691
abbrev zX4_follows : Nat := 42251052
abbrev zX4_sumOf : Nat := 42148397
abbrev zX4_sharedOf : Nat := 42111534
abbrev zX5_init : Nat := 2896199983
abbrev zX5_make : Nat := 44270384
abbrev zX5_firstPay : Nat := 44311345
abbrev zX5_slack : Nat := 44180530
abbrev zX5_findTight : Nat := 44241459
abbrev zX5_leastSlack : Nat := 44442676
abbrev zX5_keep : Nat := 44172341
abbrev zX5_raise : Nat := 44204854
abbrev zX6_init : Nat := 1824555319
abbrev zX6_clear : Nat := 46170424
abbrev zX6_take : Nat := 46203449
abbrev zX6_add : Nat := 46269498
abbrev zX6_landHere : Nat := 46203451
abbrev zX6_names : Nat := 46240060
abbrev zX6_weightBy : Nat := 46273085
abbrev zX7_init : Nat := 752910654
abbrev zX7_become : Nat := 48333631
abbrev zX7_holds : Nat := 48345920
abbrev zX7_set : Nat := 48366401
abbrev zX8_init : Nat := 2902491458
abbrev zX8_add : Nat := 50410051
abbrev zX8_parse : Nat := 50368836
abbrev zX8_expr : Nat := 50475333
abbrev zX8_sum : Nat := 50475334
abbrev zX8_product : Nat := 50442567
abbrev zX8_factor : Nat := 50442568
abbrev zX8_atom : Nat := 50377033
abbrev zX8_function : Nat := 50442570
abbrev zX8_part : Nat := 50377035
abbrev zX8_enter : Nat := 50377036
abbrev zX8_leave : Nat := 50410061
abbrev zX8_step : Nat := 50397518
abbrev zX8_word : Nat := 50430543
abbrev zX8_nameOfOne : Nat := 50397776
abbrev zX8_nameOfThree : Nat := 50463825
abbrev zX8_digits : Nat := 50397778
abbrev zX8_isLetter : Nat := 16822611
abbrev zX8_isDigit : Nat := 16822612
abbrev zX8_isSign : Nat := 16822613
abbrev zX9_init : Nat := 1293975894
abbrev zX9_burdenOf : Nat := 52601687
abbrev zX9_read : Nat := 52929880
abbrev zX9_leaf : Nat := 19047513
abbrev zX9_join : Nat := 19047258
abbrev zX9_fail : Nat := 52569179
abbrev zX10_init : Nat := 55520067932
abbrev zX10_here : Nat := 54662237
abbrev zX10_trait : Nat := 54760798
abbrev zX10_tell : Nat := 54699103
abbrev zX10_burden : Nat := 54633312
abbrev zX10_mark : Nat := 54727777
abbrev zX10_open : Nat := 54629218
abbrev zX10_feed : Nat := 54596195
abbrev zX10_text : Nat := 54694500
abbrev zX10_empty : Nat := 54628965
abbrev zX10_told : Nat := 54629222
abbrev zX10_value : Nat := 54666343
abbrev zX10_why : Nat := 54695016
abbrev zX10_solve : Nat := 54563177
abbrev zX10_round : Nat := 54633322
abbrev zX10_price : Nat := 54666347
abbrev zX10_total : Nat := 54567276
abbrev zX10_many : Nat := 54563181
abbrev zX10_best : Nat := 54629230
abbrev zX10_kind : Nat := 54694767
abbrev zX10_room : Nat := 54699120
abbrev zX10_next : Nat := 54633329
abbrev zX10_fair : Nat := 54665842
abbrev zX10_days : Nat := 54698611
abbrev zX10_day : Nat := 54629236
abbrev zX10_lack : Nat := 54596213
abbrev zX10_without : Nat := 54633334
abbrev zX10_tells : Nat := 54633335
abbrev zX10_film : Nat := 54694776
abbrev zX10_image : Nat := 54563193
abbrev zX10_back : Nat := 54563194
abbrev zX10_count : Nat := 54596219
abbrev zX10_sheet : Nat := 54662268
abbrev zX10_put : Nat := 54727805
abbrev zX10_item : Nat := 54666110
abbrev zX10_copy : Nat := 54793855
abbrev zX10_lay : Nat := 54793856
abbrev zX10_isSide : Nat := 21016961
abbrev zX10_isSeat : Nat := 21016962
abbrev zX10_isPair : Nat := 21049987
abbrev zX10_isRule : Nat := 21016964
abbrev zX10_isSheet : Nat := 21016965
abbrev zX10_changed : Nat := 54559110
abbrev zX10_refreshPlan : Nat := 54559111
abbrev zX10_refreshShares : Nat := 54559112
abbrev zX10_refreshNextOnes : Nat := 54559113
abbrev zX10_refreshDiary : Nat := 54559114
abbrev zX11_in : Nat := 23278475
abbrev zX11_init : Nat := 30289232268
abbrev zX11_isWho : Nat := 23147149
abbrev zX11_isPair : Nat := 23147150
abbrev zX11_isJudge : Nat := 56701583
abbrev zX11_isCase : Nat := 56701584
abbrev zX11_here : Nat := 56792209
abbrev zX11_trait : Nat := 56858002
abbrev zX11_feed : Nat := 56693395
abbrev zX11_byteAt : Nat := 56693396
abbrev zX11_isLetter : Nat := 23114133
abbrev zX11_isDigit : Nat := 23114134
abbrev zX11_isThree : Nat := 56767639
abbrev zX11_word : Nat := 56693144
abbrev zX11_isSignByte : Nat := 23114137
abbrev zX11_next : Nat := 56689050
abbrev zX11_fail : Nat := 56656283
abbrev zX11_isSign : Nat := 56701596
abbrev zX11_takes : Nat := 56689309
abbrev zX11_part : Nat := 56759198
abbrev zX11_opens : Nat := 56668575
abbrev zX11_expression : Nat := 56725920
abbrev zX11_sum : Nat := 56725921
abbrev zX11_product : Nat := 56725922
abbrev zX11_factor : Nat := 56693155
abbrev zX11_ofTwo : Nat := 56693156
abbrev zX11_names : Nat := 56758949
abbrev zX11_comesTo : Nat := 56791718
abbrev zX11_weight : Nat := 56758951
abbrev zX11_trades : Nat := 56754856
abbrev zX11_isHeavy : Nat := 56701353
abbrev zX11_text : Nat := 56824490
abbrev zX11_empty : Nat := 56758955
abbrev zX11_told : Nat := 56791980
abbrev zX11_fails : Nat := 56763565
abbrev zX11_valueOf : Nat := 56697518
abbrev zX11_named : Nat := 56796079
abbrev zX11_limited : Nat := 56796336
abbrev zX11_valueOf_ : Nat := 56927153
abbrev zX11_asked : Nat := 56763570
abbrev zX11_value : Nat := 56829107
abbrev zX11_why : Nat := 56759476
abbrev zX11_burdenOf : Nat := 56796085
abbrev zX11_forcedOf : Nat := 23237558
abbrev zX11_isOpen : Nat := 56800439
abbrev zX11_tellsBurdens : Nat := 56689080
abbrev zX11_opens_ : Nat := 56722105
abbrev zX11_costs : Nat := 56656314
abbrev zX11_burden : Nat := 56796091
abbrev zX11_mark : Nat := 56792252
abbrev zX11_open : Nat := 56726461
abbrev zX11_openMany : Nat := 56725950
abbrev zX11_least : Nat := 56893887
abbrev zX11_toldOr : Nat := 23142848
abbrev zX11_picks : Nat := 56853185
abbrev zX11_tell : Nat := 56796354
abbrev zX11_total : Nat := 56664515
abbrev zX11_many : Nat := 56660420
abbrev zX11_best : Nat := 56726469
abbrev zX11_with : Nat := 56828870
abbrev zX11_lacking : Nat := 56861639
abbrev zX11_kind : Nat := 56792008
abbrev zX11_room : Nat := 56763593
abbrev zX11_enters : Nat := 56787658
abbrev zX11_walks : Nat := 56952011
abbrev zX11_lists : Nat := 56656332
abbrev zX11_next_ : Nat := 56730573
abbrev zX11_heaviest : Nat := 56828366
abbrev zX11_fair : Nat := 56828623
abbrev zX11_finds : Nat := 56734416
abbrev zX11_greatest : Nat := 56758993
abbrev zX11_marking : Nat := 56725970
abbrev zX11_casesIn : Nat := 56725971
abbrev zX11_slack : Nat := 56730580
abbrev zX11_rise : Nat := 56828373
abbrev zX11_begins : Nat := 56852950
abbrev zX11_isLast : Nat := 56832471
abbrev zX11_solve : Nat := 56693208
abbrev zX11_round : Nat := 56730585
abbrev zX11_price : Nat := 56763610
abbrev zX11_daysOf : Nat := 56894171
abbrev zX11_days : Nat := 56697564
abbrev zX11_day : Nat := 56726493
abbrev zX11_lack : Nat := 56759006
abbrev zX11_without : Nat := 56828895
abbrev zX11_casesMany : Nat := 56660448
abbrev zX11_reads : Nat := 56865505
abbrev zX11_tells : Nat := 56861666
abbrev zX11_placeOf : Nat := 56758755
abbrev zX11_film : Nat := 56792036
abbrev zX11_copies : Nat := 23266789
abbrev zX11_keeps : Nat := 56754918
abbrev zX11_image : Nat := 56660455
abbrev zX11_back : Nat := 56660456
abbrev zX11_marksOf : Nat := 56759017
abbrev zX11_count : Nat := 56759018
abbrev zX11_isSheet : Nat := 23114219
abbrev zX11_sheet : Nat := 56792300
abbrev zX11_put : Nat := 56792301
abbrev zX11_item : Nat := 56730606
abbrev zX11_copy : Nat := 56923887
abbrev zX11_lay : Nat := 56923888
abbrev zJ6_bitCount_0f7a4 : Nat := 295735793
abbrev zJ9_floorDiv_f86c9 : Nat := 298001138
abbrev zJ9_floorMod_f86c9 : Nat := 298001139
abbrev zJ9_abs_067f4 : Nat := 297869812
abbrev zJ9_max_f86c9 : Nat := 297935605
abbrev zJ9_min_f86c9 : Nat := 297935606
abbrev zJ7_fill_d0a16 : Nat := 300057335
abbrev zJ7_fill_53178 : Nat := 300024568
abbrev zL_law : Nat := 86595744249
def jcX0_init : List (Nat × Instr × Nat) := [(0, .aload 0, 1), (1, .pop, 3), (4, .aload 0, 1), (5, .iconst 0, 1), (6, .putfield 0, 3), (9, .aload 0, 1), (10, .iconst 0, 1), (11, .putfield 16, 3), (14, .aload 0, 1), (15, .iconst 48, 2), (17, .newarray .int, 2), (19, .putfield 25770336288, 3), (22, .aload 0, 1), (23, .iconst 64, 2), (25, .newarray .long, 2), (27, .putfield 34360811568, 3), (30, .aload 0, 1), (31, .iconst 64, 2), (33, .newarray .int, 2), (35, .putfield 34361319488, 3), (38, .aload 0, 1), (39, .iconst 4, 1), (40, .anewarray 2, 3), (43, .putfield 2149621840, 3), (46, .aload 0, 1), (47, .iconst 4, 1), (48, .newarray .int, 2), (50, .putfield 2150113376, 3), (53, .aload 0, 1), (54, .getfield 34360811568, 3), (57, .sipush (-1), 3), (60, .invokestatic 300057335, 3), (63, .iconst 0, 1), (64, .istore 1, 1), (65, .iload 1, 1), (66, .iconst 4, 1), (67, .if_icmp .ge 89, 3), (70, .aload 0, 1), (71, .getfield 2149621840, 3), (74, .iload 1, 1), (75, .new 6, 3), (78, .dup, 1), (79, .invokestatic 1824555319, 3), (82, .aastore, 1), (83, .iinc 1 1, 3), (86, .goto 65, 3), (89, .return_, 1)]
def jcX0_take : List (Nat × Instr × Nat) := [(0, .aload 0, 1), (1, .aload 1, 1), (2, .getfield 0, 3), (5, .putfield 0, 3), (8, .aload 0, 1), (9, .aload 1, 1), (10, .getfield 16, 3), (13, .putfield 16, 3), (16, .aload 1, 1), (17, .getfield 25770336288, 3), (20, .iconst 0, 1), (21, .aload 0, 1), (22, .getfield 25770336288, 3), (25, .iconst 0, 1), (26, .aload 0, 1), (27, .getfield 25770336288, 3), (30, .arraylength, 1), (31, .swap, 3), (34, .aload 1, 1), (35, .getfield 34360811568, 3), (38, .iconst 0, 1), (39, .aload 0, 1), (40, .getfield 34360811568, 3), (43, .iconst 0, 1), (44, .iconst 64, 2), (46, .swap, 3), (49, .aload 1, 1), (50, .getfield 34361319488, 3), (53, .iconst 0, 1), (54, .aload 0, 1), (55, .getfield 34361319488, 3), (58, .iconst 0, 1), (59, .iconst 64, 2), (61, .swap, 3), (64, .iconst 0, 1), (65, .istore 2, 1), (66, .iload 2, 1), (67, .iconst 4, 1), (68, .if_icmp .ge 92, 3), (71, .aload 0, 1), (72, .getfield 2149621840, 3), (75, .iload 2, 1), (76, .aaload, 1), (77, .aload 1, 1), (78, .getfield 2149621840, 3), (81, .iload 2, 1), (82, .aaload, 1), (83, .invokestatic 46203449, 3), (86, .iinc 2 1, 3), (89, .goto 66, 3), (92, .return_, 1)]
def jcX0_seat : List (Nat × Instr × Nat) := [(0, .iload 1, 1), (1, .ifCond .ne 11, 3), (4, .aload 0, 1), (5, .getfield 0, 3), (8, .goto 15, 3), (11, .aload 0, 1), (12, .getfield 16, 3), (15, .istore 4, 2), (17, .iload 4, 2), (19, .iload 2, 1), (20, .ishr, 1), (21, .iconst 1, 1), (22, .iand, 1), (23, .istore 5, 2), (25, .iload 4, 2), (27, .iconst 1, 1), (28, .iload 2, 1), (29, .ishl, 1), (30, .iconst (-1), 1), (31, .ixor, 1), (32, .iand, 1), (33, .iload 3, 1), (34, .iload 2, 1), (35, .ishl, 1), (36, .ior, 1), (37, .istore 4, 2), (39, .iload 1, 1), (40, .ifCond .ne 52, 3), (43, .aload 0, 1), (44, .iload 4, 2), (46, .putfield 0, 3), (49, .goto 58, 3), (52, .aload 0, 1), (53, .iload 4, 2), (55, .putfield 16, 3), (58, .iload 5, 2), (60, .ireturn, 1)]
def jcX0_isIn : List (Nat × Instr × Nat) := [(0, .aload 0, 1), (1, .getfield 0, 3), (4, .iload 1, 1), (5, .iconst 8, 2), (7, .idiv, 1), (8, .ishr, 1), (9, .aload 0, 1), (10, .getfield 16, 3), (13, .iload 1, 1), (14, .iconst 8, 2), (16, .irem, 1), (17, .ishr, 1), (18, .iand, 1), (19, .iconst 1, 1), (20, .iand, 1), (21, .iconst 1, 1), (22, .if_icmp .ne 29, 3), (25, .iconst 1, 1), (26, .goto 30, 3), (29, .iconst 0, 1), (30, .ireturn, 1)]
def jcX0_forcedBeside : List (Nat × Instr × Nat) := [(0, .iconst 0, 1), (1, .istore 2, 1), (2, .iload 2, 1), (3, .iconst 64, 2), (5, .if_icmp .ge 63, 3), (8, .iload 2, 1), (9, .iconst 8, 2), (11, .idiv, 1), (12, .iload 1, 1), (13, .iconst 8, 2), (15, .idiv, 1), (16, .if_icmp .eq 30, 3), (19, .iload 2, 1), (20, .iconst 8, 2), (22, .irem, 1), (23, .iload 1, 1), (24, .iconst 8, 2), (26, .irem, 1), (27, .if_icmp .ne 34, 3), (30, .iconst 1, 1), (31, .goto 35, 3), (34, .iconst 0, 1), (35, .istore 3, 1), (36, .iload 2, 1), (37, .iload 1, 1), (38, .if_icmp .eq 57, 3), (41, .iload 3, 1), (42, .ifCond .eq 57, 3), (45, .aload 0, 1), (46, .getfield 34361319488, 3), (49, .iload 2, 1), (50, .iaload, 1), (51, .iconst 2, 1), (52, .if_icmp .ne 57, 3), (55, .iconst 1, 1), (56, .ireturn, 1), (57, .iinc 2 1, 3), (60, .goto 2, 3), (63, .iconst 0, 1), (64, .ireturn, 1)]
def jcX0_marked : List (Nat × Instr × Nat) := [(0, .iconst 0, 1), (1, .istore 2, 1), (2, .iconst 0, 1), (3, .istore 3, 1), (4, .iload 3, 1), (5, .iconst 64, 2), (7, .if_icmp .ge 34, 3), (10, .iload 2, 1), (11, .aload 0, 1), (12, .getfield 34361319488, 3), (15, .iload 3, 1), (16, .iaload, 1), (17, .iload 1, 1), (18, .if_icmp .ne 25, 3), (21, .iconst 1, 1), (22, .goto 26, 3), (25, .iconst 0, 1), (26, .iadd, 1), (27, .istore 2, 1), (28, .iinc 3 1, 3), (31, .goto 4, 3), (34, .iload 2, 1), (35, .ireturn, 1)]
def jcX0_owned : List (Nat × Instr × Nat) := [(0, .iconst 0, 1), (1, .istore 1, 1), (2, .iconst 0, 1), (3, .istore 2, 1), (4, .iload 2, 1), (5, .iconst 64, 2), (7, .if_icmp .ge 37, 3), (10, .iload 1, 1), (11, .aload 0, 1), (12, .getfield 34360811568, 3), (15, .iload 2, 1), (16, .laload, 1), (17, .sipush (-1), 3), (20, .multianewarray 0 28, 4), (24, .iconst 1, 1), (25, .goto 29, 3), (28, .iconst 0, 1), (29, .iadd, 1), (30, .istore 1, 1), (31, .iinc 2 1, 3), (34, .goto 4, 3), (37, .iload 1, 1), (38, .ireturn, 1)]
def jcX0_namersOf : List (Nat × Instr × Nat) := [(0, .iconst 0, 1), (1, .istore 2, 1), (2, .iconst 0, 1), (3, .istore 3, 1), (4, .iload 3, 1), (5, .iconst 4, 1), (6, .if_icmp .ge 33, 3), (9, .iload 2, 1), (10, .aload 0, 1), (11, .getfield 2149621840, 3), (14, .iload 3, 1), (15, .aaload, 1), (16, .invokestatic 46240060, 3), (19, .iload 1, 1), (20, .ishr, 1), (21, .iconst 1, 1), (22, .iand, 1), (23, .iload 3, 1), (24, .ishl, 1), (25, .ior, 1), (26, .istore 2, 1), (27, .iinc 3 1, 3), (30, .goto 4, 3), (33, .iload 2, 1), (34, .ireturn, 1)]
def jcX0_reachOf : List (Nat × Instr × Nat) := [(0, .aload 0, 1), (1, .getfield 2149621840, 3), (4, .iload 1, 1), (5, .aaload, 1), (6, .invokestatic 46240060, 3), (9, .istore 2, 1), (10, .iconst 0, 1), (11, .istore 3, 1), (12, .iload 3, 1), (13, .iconst 4, 1), (14, .if_icmp .ge 61, 3), (17, .iconst 0, 1), (18, .istore 4, 2), (20, .iload 4, 2), (22, .iconst 4, 1), (23, .if_icmp .ge 55, 3), (26, .iload 2, 1), (27, .iload 4, 2), (29, .ishr, 1), (30, .iconst 1, 1), (31, .iand, 1), (32, .iconst 1, 1), (33, .if_icmp .ne 49, 3), (36, .iload 2, 1), (37, .aload 0, 1), (38, .getfield 2149621840, 3), (41, .iload 4, 2), (43, .aaload, 1), (44, .invokestatic 46240060, 3), (47, .ior, 1), (48, .istore 2, 1), (49, .iinc 4 1, 3), (52, .goto 20, 3), (55, .iinc 3 1, 3), (58, .goto 12, 3), (61, .iload 2, 1), (62, .ireturn, 1)]
def jcX0_weighRules : List (Nat × Instr × Nat) := [(0, .aload 0, 1), (1, .getfield 2150113376, 3), (4, .iconst 0, 1), (5, .invokestatic 300024568, 3), (8, .iconst 0, 1), (9, .istore 1, 1), (10, .iload 1, 1), (11, .iconst 4, 1), (12, .if_icmp .ge 53, 3), (15, .iconst 0, 1), (16, .istore 2, 1), (17, .iload 2, 1), (18, .iconst 4, 1), (19, .if_icmp .ge 47, 3), (22, .aload 0, 1), (23, .getfield 2150113376, 3), (26, .iload 2, 1), (27, .aload 0, 1), (28, .getfield 2149621840, 3), (31, .iload 2, 1), (32, .aaload, 1), (33, .aload 0, 1), (34, .getfield 2150113376, 3), (37, .invokestatic 46273085, 3), (40, .iastore, 1), (41, .iinc 2 1, 3), (44, .goto 17, 3), (47, .iinc 1 1, 3), (50, .goto 10, 3), (53, .return_, 1)]
def jcX0_refusalOf : List (Nat × Instr × Nat) := [(0, .aload 0, 1), (1, .iload 1, 1), (2, .invokestatic 33722888, 3), (5, .iload 1, 1), (6, .ishr, 1), (7, .iconst 1, 1), (8, .iand, 1), (9, .iconst 1, 1), (10, .if_icmp .ne 16, 3), (13, .iconst (-5), 2), (15, .ireturn, 1), (16, .aload 0, 1), (17, .invokestatic 33653001, 3), (20, .iconst 0, 1), (21, .istore 2, 1), (22, .iload 2, 1), (23, .iconst 4, 1), (24, .if_icmp .ge 47, 3), (27, .aload 0, 1), (28, .getfield 2150113376, 3), (31, .iload 2, 1), (32, .iaload, 1), (33, .iconst 60, 2), (35, .if_icmp .le 41, 3), (38, .iconst (-4), 2), (40, .ireturn, 1), (41, .iinc 2 1, 3), (44, .goto 22, 3), (47, .iconst 0, 1), (48, .ireturn, 1)]
def jcX1_init : List (Nat × Instr × Nat) := [(0, .aload 0, 1), (1, .pop, 3), (4, .aload 0, 1), (5, .iconst 0, 1), (6, .putfield 1, 3), (9, .aload 0, 1), (10, .iconst 8, 2), (12, .newarray .long, 2), (14, .putfield 4295516177, 3), (17, .aload 0, 1), (18, .iconst 64, 2), (20, .newarray .int, 2), (22, .putfield 34360795169, 3), (25, .aload 0, 1), (26, .iconst 8, 2), (28, .newarray .int, 2), (30, .putfield 4296548401, 3), (33, .aload 0, 1), (34, .iconst 64, 2), (36, .newarray .int, 2), (38, .putfield 34361843777, 3), (41, .return_, 1)]
def jcX1_write : List (Nat × Instr × Nat) := [(0, .aload 3, 1), (1, .iconst 0, 1), (2, .aload 0, 1), (3, .getfield 34361843777, 3), (6, .iconst 0, 1), (7, .iconst 64, 2), (9, .swap, 3), (12, .aload 2, 1), (13, .aload 1, 1), (14, .invokestatic 42009116, 3), (17, .aload 0, 1), (18, .iconst 0, 1), (19, .putfield 1, 3), (22, .iconst 0, 1), (23, .istore 4, 2), (25, .iconst 0, 1), (26, .istore 5, 2), (28, .iload 5, 2), (30, .iconst 8, 2), (32, .if_icmp .ge 91, 3), (35, .iload 4, 2), (37, .ifCond .ne 91, 3), (40, .aload 2, 1), (41, .aload 0, 1), (42, .getfield 34361843777, 3), (45, .invokestatic 42041885, 3), (48, .aload 2, 1), (49, .iconst 0, 1), (50, .invokestatic 42074660, 3), (53, .aload 2, 1), (54, .getfield 137441075300, 3), (57, .iconst 0, 1), (58, .laload, 1), (59, .sipush (-4611686018427387904), 3), (62, .multianewarray 1 70, 4), (66, .iconst 1, 1), (67, .goto 71, 3), (70, .iconst 0, 1), (71, .istore 4, 2), (73, .iload 4, 2), (75, .ifCond .ne 85, 3), (78, .aload 0, 1), (79, .aload 2, 1), (80, .iload 5, 2), (82, .invokestatic 35816205, 3), (85, .iinc 5 1, 3), (88, .goto 28, 3), (91, .return_, 1)]
def jcX1_hear : List (Nat × Instr × Nat) := [(0, .aload 1, 1), (1, .iconst 0, 1), (2, .aload 0, 1), (3, .getfield 4296548401, 3), (6, .invokestatic 42238761, 3), (9, .aload 0, 1), (10, .getfield 4295516177, 3), (13, .iload 2, 1), (14, .aload 1, 1), (15, .getfield 137441075300, 3), (18, .iconst 0, 1), (19, .laload, 1), (20, .lastore, 1), (21, .aload 0, 1), (22, .iload 2, 1), (23, .iconst 1, 1), (24, .iadd, 1), (25, .putfield 1, 3), (28, .iconst 0, 1), (29, .istore 3, 1), (30, .iload 3, 1), (31, .iconst 8, 2), (33, .if_icmp .ge 82, 3), (36, .aload 0, 1), (37, .getfield 4296548401, 3), (40, .iload 3, 1), (41, .iaload, 1), (42, .istore 4, 2), (44, .aload 0, 1), (45, .getfield 34360795169, 3), (48, .iload 2, 1), (49, .iconst 8, 2), (51, .imul, 1), (52, .iload 3, 1), (53, .iadd, 1), (54, .iload 4, 2), (56, .iastore, 1), (57, .iload 4, 2), (59, .iconst (-1), 1), (60, .if_icmp .eq 76, 3), (63, .aload 0, 1), (64, .getfield 34361843777, 3), (67, .iload 4, 2), (69, .iconst 8, 2), (71, .imul, 1), (72, .iload 3, 1), (73, .iadd, 1), (74, .iconst 1, 1), (75, .iastore, 1), (76, .iinc 3 1, 3), (79, .goto 30, 3), (82, .return_, 1)]
def jcX2_init : List (Nat × Instr × Nat) := [(0, .aload 0, 1), (1, .pop, 3), (4, .aload 0, 1), (5, .iconst 0, 1), (6, .putfield 2, 3), (9, .aload 0, 1), (10, .iconst 0, 1), (11, .putfield 18, 3), (14, .aload 0, 1), (15, .iconst 0, 1), (16, .putfield 34, 3), (19, .aload 0, 1), (20, .iconst 8, 2), (22, .newarray .int, 2), (24, .putfield 4295499826, 3), (27, .aload 0, 1), (28, .iconst 8, 2), (30, .newarray .int, 2), (32, .putfield 4296024130, 3), (35, .aload 0, 1), (36, .iconst 8, 2), (38, .newarray .int, 2), (40, .putfield 4296548434, 3), (43, .aload 0, 1), (44, .iconst 8, 2), (46, .newarray .int, 2), (48, .putfield 4297072738, 3), (51, .return_, 1)]
def jcX2_find : List (Nat × Instr × Nat) := [(0, .aload 0, 1), (1, .getfield 4295499826, 3), (4, .iconst (-1), 1), (5, .invokestatic 300024568, 3), (8, .aload 0, 1), (9, .getfield 4296024130, 3), (12, .iconst (-1), 1), (13, .invokestatic 300024568, 3), (16, .aload 0, 1), (17, .iconst 0, 1), (18, .putfield 2, 3), (21, .iconst 0, 1), (22, .istore 3, 1), (23, .iload 3, 1), (24, .iconst 8, 2), (26, .if_icmp .ge 63, 3), (29, .iload 2, 1), (30, .iload 3, 1), (31, .ishr, 1), (32, .iconst 1, 1), (33, .iand, 1), (34, .iconst 1, 1), (35, .if_icmp .ne 57, 3), (38, .aload 0, 1), (39, .aload 1, 1), (40, .iload 3, 1), (41, .invokestatic 38056720, 3), (44, .ifCond .eq 57, 3), (47, .aload 0, 1), (48, .dup, 1), (49, .getfield 2, 3), (52, .iconst 1, 1), (53, .iadd, 1), (54, .putfield 2, 3), (57, .iinc 3 1, 3), (60, .goto 23, 3), (63, .aload 0, 1), (64, .aload 1, 1), (65, .iload 2, 1), (66, .invokestatic 37913362, 3), (69, .return_, 1)]
def jcX2_grow : List (Nat × Instr × Nat) := [(0, .iconst 0, 1), (1, .istore 3, 1), (2, .iconst 1, 1), (3, .istore 4, 2), (5, .aload 0, 1), (6, .getfield 4297072738, 3), (9, .iconst 0, 1), (10, .iload 2, 1), (11, .iastore, 1), (12, .iconst 0, 1), (13, .istore 5, 2), (15, .iload 5, 2), (17, .iload 4, 2), (19, .if_icmp .ge 142, 3), (22, .iload 5, 2), (24, .iconst 8, 2), (26, .if_icmp .ge 142, 3), (29, .aload 0, 1), (30, .getfield 4297072738, 3), (33, .iload 5, 2), (35, .iaload, 1), (36, .istore 6, 2), (38, .aload 1, 1), (39, .iload 6, 2), (41, .iaload, 1), (42, .iload 3, 1), (43, .iconst (-1), 1), (44, .ixor, 1), (45, .iand, 1), (46, .istore 7, 2), (48, .iconst 0, 1), (49, .istore 8, 2), (51, .iload 8, 2), (53, .iconst 8, 2), (55, .if_icmp .ge 136, 3), (58, .iload 7, 2), (60, .iload 8, 2), (62, .ishr, 1), (63, .iconst 1, 1), (64, .iand, 1), (65, .ifCond .ne 71, 3), (68, .goto 130, 3), (71, .iload 3, 1), (72, .iconst 1, 1), (73, .iload 8, 2), (75, .ishl, 1), (76, .ior, 1), (77, .istore 3, 1), (78, .aload 0, 1), (79, .getfield 4296548434, 3), (82, .iload 8, 2), (84, .iload 6, 2), (86, .iastore, 1), (87, .aload 0, 1), (88, .getfield 4296024130, 3), (91, .iload 8, 2), (93, .iaload, 1), (94, .iconst (-1), 1), (95, .if_icmp .ne 106, 3), (98, .aload 0, 1), (99, .iload 8, 2), (101, .invokestatic 37945873, 3), (104, .iconst 1, 1), (105, .ireturn, 1), (106, .iload 4, 2), (108, .iconst 8, 2), (110, .if_icmp .ge 130, 3), (113, .aload 0, 1), (114, .getfield 4297072738, 3), (117, .iload 4, 2), (119, .aload 0, 1), (120, .getfield 4296024130, 3), (123, .iload 8, 2), (125, .iaload, 1), (126, .iastore, 1), (127, .iinc 4 1, 3), (130, .iinc 8 1, 3), (133, .goto 51, 3), (136, .iinc 5 1, 3), (139, .goto 15, 3), (142, .iconst 0, 1), (143, .ireturn, 1)]
def jcX2_turn : List (Nat × Instr × Nat) := [(0, .iload 1, 1), (1, .istore 2, 1), (2, .iconst 0, 1), (3, .istore 3, 1), (4, .iload 3, 1), (5, .iconst 8, 2), (7, .if_icmp .ge 57, 3), (10, .iload 2, 1), (11, .iconst (-1), 1), (12, .if_icmp .eq 57, 3), (15, .aload 0, 1), (16, .getfield 4296548434, 3), (19, .iload 2, 1), (20, .iaload, 1), (21, .istore 4, 2), (23, .aload 0, 1), (24, .getfield 4295499826, 3), (27, .iload 4, 2), (29, .iaload, 1), (30, .istore 5, 2), (32, .aload 0, 1), (33, .getfield 4295499826, 3), (36, .iload 4, 2), (38, .iload 2, 1), (39, .iastore, 1), (40, .aload 0, 1), (41, .getfield 4296024130, 3), (44, .iload 2, 1), (45, .iload 4, 2), (47, .iastore, 1), (48, .iload 5, 2), (50, .istore 2, 1), (51, .iinc 3 1, 3), (54, .goto 4, 3), (57, .return_, 1)]
def jcX2_spread : List (Nat × Instr × Nat) := [(0, .aload 0, 1), (1, .iconst 0, 1), (2, .putfield 18, 3), (5, .aload 0, 1), (6, .iconst 0, 1), (7, .putfield 34, 3), (10, .iconst 0, 1), (11, .istore 3, 1), (12, .iload 3, 1), (13, .iconst 8, 2), (15, .if_icmp .ge 55, 3), (18, .iload 2, 1), (19, .iload 3, 1), (20, .ishr, 1), (21, .iconst 1, 1), (22, .iand, 1), (23, .iconst 1, 1), (24, .if_icmp .ne 49, 3), (27, .aload 0, 1), (28, .getfield 4295499826, 3), (31, .iload 3, 1), (32, .iaload, 1), (33, .iconst (-1), 1), (34, .if_icmp .ne 49, 3), (37, .aload 0, 1), (38, .dup, 1), (39, .getfield 18, 3), (42, .iconst 1, 1), (43, .iload 3, 1), (44, .ishl, 1), (45, .ior, 1), (46, .putfield 18, 3), (49, .iinc 3 1, 3), (52, .goto 12, 3), (55, .iconst 0, 1), (56, .istore 3, 1), (57, .iload 3, 1), (58, .iconst 8, 2), (60, .if_icmp .gt 169, 3), (63, .iconst 0, 1), (64, .istore 4, 2), (66, .iload 4, 2), (68, .iconst 8, 2), (70, .if_icmp .ge 105, 3), (73, .aload 0, 1), (74, .getfield 18, 3), (77, .iload 4, 2), (79, .ishr, 1), (80, .iconst 1, 1), (81, .iand, 1), (82, .iconst 1, 1), (83, .if_icmp .ne 99, 3), (86, .aload 0, 1), (87, .dup, 1), (88, .getfield 34, 3), (91, .aload 1, 1), (92, .iload 4, 2), (94, .iaload, 1), (95, .ior, 1), (96, .putfield 34, 3), (99, .iinc 4 1, 3), (102, .goto 66, 3), (105, .iconst 0, 1), (106, .istore 4, 2), (108, .iload 4, 2), (110, .iconst 8, 2), (112, .if_icmp .ge 163, 3), (115, .aload 0, 1), (116, .getfield 34, 3), (119, .iload 4, 2), (121, .ishr, 1), (122, .iconst 1, 1), (123, .iand, 1), (124, .iconst 1, 1), (125, .if_icmp .ne 157, 3), (128, .aload 0, 1), (129, .getfield 4296024130, 3), (132, .iload 4, 2), (134, .iaload, 1), (135, .iconst (-1), 1), (136, .if_icmp .eq 157, 3), (139, .aload 0, 1), (140, .dup, 1), (141, .getfield 18, 3), (144, .iconst 1, 1), (145, .aload 0, 1), (146, .getfield 4296024130, 3), (149, .iload 4, 2), (151, .iaload, 1), (152, .ishl, 1), (153, .ior, 1), (154, .putfield 18, 3), (157, .iinc 4 1, 3), (160, .goto 108, 3), (163, .iinc 3 1, 3), (166, .goto 57, 3), (169, .return_, 1)]
def jcX3_init : List (Nat × Instr × Nat) := [(0, .aload 0, 1), (1, .pop, 3), (4, .aload 0, 1), (5, .iconst 256, 3), (8, .newarray .int, 2), (10, .putfield 137439485955, 3), (13, .aload 0, 1), (14, .iconst 3072, 3), (17, .newarray .long, 2), (19, .putfield 1649268514835, 3), (22, .aload 0, 1), (23, .iconst 3072, 3), (26, .newarray .int, 2), (28, .putfield 1649269022755, 3), (31, .aload 0, 1), (32, .iconst 3072, 3), (35, .newarray .int, 2), (37, .putfield 1649269547059, 3), (40, .aload 0, 1), (41, .iconst 8, 2), (43, .newarray .int, 2), (45, .putfield 4297596995, 3), (48, .aload 0, 1), (49, .iconst 8, 2), (51, .newarray .long, 2), (53, .putfield 4298137683, 3), (56, .aload 0, 1), (57, .iconst 96, 2), (59, .newarray .int, 2), (61, .putfield 51543285859, 3), (64, .return_, 1)]
def jcX3_find : List (Nat × Instr × Nat) := [(0, .iconst 255, 3), (3, .istore 2, 1), (4, .iload 2, 1), (5, .ifCond .lt 93, 3), (8, .aload 1, 1), (9, .iload 2, 1), (10, .invokestatic 42021414, 3), (13, .ifCond .ne 19, 3), (16, .goto 87, 3), (19, .iload 2, 1), (20, .invokestatic 295735793, 3), (23, .istore 3, 1), (24, .iload 3, 1), (25, .aload 1, 1), (26, .getfield 20, 3), (29, .if_icmp .ge 70, 3), (32, .aload 0, 1), (33, .getfield 137439485955, 3), (36, .iload 2, 1), (37, .aload 1, 1), (38, .getfield 137441075300, 3), (41, .iload 2, 1), (42, .laload, 1), (43, .sipush (-4611686018427387904), 3), (46, .multianewarray 1 54, 4), (50, .iconst 0, 1), (51, .goto 66, 3), (54, .aload 0, 1), (55, .aload 1, 1), (56, .iload 2, 1), (57, .aload 1, 1), (58, .getfield 4295499812, 3), (61, .iload 3, 1), (62, .iaload, 1), (63, .invokestatic 40080405, 3), (66, .iastore, 1), (67, .goto 87, 3), (70, .aload 0, 1), (71, .getfield 137439485955, 3), (74, .iload 2, 1), (75, .iconst 1, 1), (76, .iastore, 1), (77, .aload 0, 1), (78, .getfield 1649268514835, 3), (81, .iload 2, 1), (82, .iconst 12, 2), (84, .imul, 1), (85, .sipush 0, 1), (86, .lastore, 1), (87, .iinc 2 (-1), 3), (90, .goto 4, 3), (93, .aload 0, 1), (94, .getfield 51543285859, 3), (97, .iconst (-1), 1), (98, .invokestatic 300024568, 3), (101, .iconst 0, 1), (102, .istore 2, 1), (103, .iload 2, 1), (104, .aload 0, 1), (105, .getfield 137439485955, 3), (108, .iconst 0, 1), (109, .iaload, 1), (110, .if_icmp .ge 125, 3), (113, .aload 0, 1), (114, .aload 1, 1), (115, .iload 2, 1), (116, .invokestatic 40076056, 3), (119, .iinc 2 1, 3), (122, .goto 103, 3), (125, .return_, 1)]
def jcX3_merge : List (Nat × Instr × Nat) := [(0, .aload 0, 1), (1, .getfield 4297596995, 3), (4, .iconst 0, 1), (5, .invokestatic 300024568, 3), (8, .iconst 0, 1), (9, .istore 4, 2), (11, .iload 4, 2), (13, .iconst 8, 2), (15, .if_icmp .ge 40, 3), (18, .aload 0, 1), (19, .getfield 4298137683, 3), (22, .iload 4, 2), (24, .aload 0, 1), (25, .aload 1, 1), (26, .iload 2, 1), (27, .iload 3, 1), (28, .iload 4, 2), (30, .invokestatic 40084758, 3), (33, .lastore, 1), (34, .iinc 4 1, 3), (37, .goto 11, 3), (40, .iconst 0, 1), (41, .istore 4, 2), (43, .iload 4, 2), (45, .iconst 12, 2), (47, .if_icmp .ge 144, 3), (50, .aload 0, 1), (51, .invokestatic 39948567, 3), (54, .istore 5, 2), (56, .iload 5, 2), (58, .iconst (-1), 1), (59, .if_icmp .ne 65, 3), (62, .iload 4, 2), (64, .ireturn, 1), (65, .iload 2, 1), (66, .iconst 12, 2), (68, .imul, 1), (69, .iload 4, 2), (71, .iadd, 1), (72, .istore 6, 2), (74, .aload 0, 1), (75, .getfield 1649268514835, 3), (78, .iload 6, 2), (80, .aload 0, 1), (81, .getfield 4298137683, 3), (84, .iload 5, 2), (86, .laload, 1), (87, .lastore, 1), (88, .aload 0, 1), (89, .getfield 1649269022755, 3), (92, .iload 6, 2), (94, .iload 5, 2), (96, .iastore, 1), (97, .aload 0, 1), (98, .getfield 1649269547059, 3), (101, .iload 6, 2), (103, .aload 0, 1), (104, .getfield 4297596995, 3), (107, .iload 5, 2), (109, .iaload, 1), (110, .iastore, 1), (111, .aload 0, 1), (112, .getfield 4297596995, 3), (115, .iload 5, 2), (117, .dup2, 1), (118, .iaload, 1), (119, .iconst 1, 1), (120, .iadd, 1), (121, .iastore, 1), (122, .aload 0, 1), (123, .getfield 4298137683, 3), (126, .iload 5, 2), (128, .aload 0, 1), (129, .aload 1, 1), (130, .iload 2, 1), (131, .iload 3, 1), (132, .iload 5, 2), (134, .invokestatic 40084758, 3), (137, .lastore, 1), (138, .iinc 4 1, 3), (141, .goto 43, 3), (144, .iconst 12, 2), (146, .ireturn, 1)]
def jcX3_headTotal : List (Nat × Instr × Nat) := [(0, .iconst 1, 1), (1, .iload 4, 2), (3, .ishl, 1), (4, .istore 5, 2), (6, .iload 2, 1), (7, .iload 5, 2), (9, .ior, 1), (10, .istore 6, 2), (12, .aload 1, 1), (13, .getfield 4296548436, 3), (16, .iload 3, 1), (17, .iaload, 1), (18, .iload 2, 1), (19, .iconst (-1), 1), (20, .ixor, 1), (21, .iand, 1), (22, .iload 5, 2), (24, .iand, 1), (25, .ifCond .eq 45, 3), (28, .aload 0, 1), (29, .getfield 4297596995, 3), (32, .iload 4, 2), (34, .iaload, 1), (35, .aload 0, 1), (36, .getfield 137439485955, 3), (39, .iload 6, 2), (41, .iaload, 1), (42, .if_icmp .lt 49, 3), (45, .sipush (-4611686018427387904), 3), (48, .lreturn, 1), (49, .aload 1, 1), (50, .getfield 34360811588, 3), (53, .iload 4, 2), (55, .iconst 8, 2), (57, .imul, 1), (58, .iload 3, 1), (59, .iadd, 1), (60, .laload, 1), (61, .aload 0, 1), (62, .getfield 1649268514835, 3), (65, .iload 6, 2), (67, .iconst 12, 2), (69, .imul, 1), (70, .aload 0, 1), (71, .getfield 4297596995, 3), (74, .iload 4, 2), (76, .iaload, 1), (77, .iadd, 1), (78, .laload, 1), (79, .ladd, 1), (80, .lreturn, 1)]
def jcX3_firstJudge : List (Nat × Instr × Nat) := [(0, .iconst (-1), 1), (1, .istore 1, 1), (2, .iconst 0, 1), (3, .istore 2, 1), (4, .iload 2, 1), (5, .iconst 8, 2), (7, .if_icmp .ge 52, 3), (10, .aload 0, 1), (11, .getfield 4298137683, 3), (14, .iload 2, 1), (15, .laload, 1), (16, .sipush (-4611686018427387904), 3), (19, .multianewarray 0 46, 4), (23, .iload 1, 1), (24, .iconst (-1), 1), (25, .if_icmp .eq 44, 3), (28, .aload 0, 1), (29, .getfield 4298137683, 3), (32, .iload 2, 1), (33, .laload, 1), (34, .aload 0, 1), (35, .getfield 4298137683, 3), (38, .iload 1, 1), (39, .laload, 1), (40, .multianewarray 3 46, 4), (44, .iload 2, 1), (45, .istore 1, 1), (46, .iinc 2 1, 3), (49, .goto 4, 3), (52, .iload 1, 1), (53, .ireturn, 1)]
def jcX3_follow : List (Nat × Instr × Nat) := [(0, .iconst 0, 1), (1, .istore 3, 1), (2, .iload 2, 1), (3, .istore 4, 2), (5, .iconst 0, 1), (6, .istore 5, 2), (8, .iload 5, 2), (10, .aload 1, 1), (11, .getfield 20, 3), (14, .if_icmp .ge 77, 3), (17, .iload 3, 1), (18, .iconst 12, 2), (20, .imul, 1), (21, .iload 4, 2), (23, .iadd, 1), (24, .istore 6, 2), (26, .aload 0, 1), (27, .getfield 51543285859, 3), (30, .iload 2, 1), (31, .iconst 8, 2), (33, .imul, 1), (34, .aload 1, 1), (35, .getfield 4295499812, 3), (38, .iload 5, 2), (40, .iaload, 1), (41, .iadd, 1), (42, .aload 0, 1), (43, .getfield 1649269022755, 3), (46, .iload 6, 2), (48, .iaload, 1), (49, .iastore, 1), (50, .iload 3, 1), (51, .iconst 1, 1), (52, .aload 0, 1), (53, .getfield 1649269022755, 3), (56, .iload 6, 2), (58, .iaload, 1), (59, .ishl, 1), (60, .ior, 1), (61, .istore 3, 1), (62, .aload 0, 1), (63, .getfield 1649269547059, 3), (66, .iload 6, 2), (68, .iaload, 1), (69, .istore 4, 2), (71, .iinc 5 1, 3), (74, .goto 8, 3), (77, .return_, 1)]
def jcX3_placeOf : List (Nat × Instr × Nat) := [(0, .iconst 0, 1), (1, .istore 2, 1), (2, .iload 2, 1), (3, .aload 0, 1), (4, .getfield 137439485955, 3), (7, .iconst 0, 1), (8, .iaload, 1), (9, .if_icmp .ge 71, 3), (12, .iconst 1, 1), (13, .istore 3, 1), (14, .iconst 0, 1), (15, .istore 4, 2), (17, .iload 4, 2), (19, .iconst 8, 2), (21, .if_icmp .ge 59, 3), (24, .iload 3, 1), (25, .ifCond .eq 51, 3), (28, .aload 0, 1), (29, .getfield 51543285859, 3), (32, .iload 2, 1), (33, .iconst 8, 2), (35, .imul, 1), (36, .iload 4, 2), (38, .iadd, 1), (39, .iaload, 1), (40, .aload 1, 1), (41, .iload 4, 2), (43, .iaload, 1), (44, .if_icmp .ne 51, 3), (47, .iconst 1, 1), (48, .goto 52, 3), (51, .iconst 0, 1), (52, .istore 3, 1), (53, .iinc 4 1, 3), (56, .goto 17, 3), (59, .iload 3, 1), (60, .ifCond .eq 65, 3), (63, .iload 2, 1), (64, .ireturn, 1), (65, .iinc 2 1, 3), (68, .goto 2, 3), (71, .iconst (-1), 1), (72, .ireturn, 1)]
def jcX4_init : List (Nat × Instr × Nat) := [(0, .aload 0, 1), (1, .pop, 3), (4, .aload 0, 1), (5, .iconst 0, 1), (6, .putfield 4, 3), (9, .aload 0, 1), (10, .iconst 0, 1), (11, .putfield 20, 3), (14, .aload 0, 1), (15, .iconst 8, 2), (17, .newarray .int, 2), (19, .putfield 4295499812, 3), (22, .aload 0, 1), (23, .iconst 0, 1), (24, .putfield 52, 3), (27, .aload 0, 1), (28, .iconst 64, 2), (30, .newarray .long, 2), (32, .putfield 34360811588, 3), (35, .aload 0, 1), (36, .iconst 8, 2), (38, .newarray .int, 2), (40, .putfield 4296548436, 3), (43, .aload 0, 1), (44, .iconst 256, 3), (47, .newarray .long, 2), (49, .putfield 137441075300, 3), (52, .aload 0, 1), (53, .iconst 256, 3), (56, .newarray .int, 2), (58, .putfield 137441583220, 3), (61, .aload 0, 1), (62, .iconst 256, 3), (65, .newarray .int, 2), (67, .putfield 137442107524, 3), (70, .aload 0, 1), (71, .iconst 64, 2), (73, .newarray .int, 2), (75, .putfield 34363416724, 3), (78, .return_, 1)]
def jcX4_load : List (Nat × Instr × Nat) := [(0, .aload 0, 1), (1, .aload 1, 1), (2, .getfield 16, 3), (5, .putfield 4, 3), (8, .iconst 0, 1), (9, .istore 3, 1), (10, .iload 3, 1), (11, .iconst 64, 2), (13, .if_icmp .ge 48, 3), (16, .aload 0, 1), (17, .getfield 34360811588, 3), (20, .iload 3, 1), (21, .aload 1, 1), (22, .iload 3, 1), (23, .invokestatic 33632771, 3), (26, .ifCond .eq 38, 3), (29, .aload 2, 1), (30, .aload 1, 1), (31, .iload 3, 1), (32, .invokestatic 52601687, 3), (35, .goto 41, 3), (38, .sipush (-4611686018427387904), 3), (41, .lastore, 1), (42, .iinc 3 1, 3), (45, .goto 10, 3), (48, .aload 0, 1), (49, .aload 1, 1), (50, .getfield 34361319488, 3), (53, .invokestatic 42041885, 3), (56, .return_, 1)]
def jcX4_take : List (Nat × Instr × Nat) := [(0, .aload 0, 1), (1, .aload 1, 1), (2, .getfield 4, 3), (5, .putfield 4, 3), (8, .aload 1, 1), (9, .getfield 34360811588, 3), (12, .iconst 0, 1), (13, .aload 0, 1), (14, .getfield 34360811588, 3), (17, .iconst 0, 1), (18, .iconst 64, 2), (20, .swap, 3), (23, .aload 1, 1), (24, .getfield 4296548436, 3), (27, .iconst 0, 1), (28, .aload 0, 1), (29, .getfield 4296548436, 3), (32, .iconst 0, 1), (33, .iconst 8, 2), (35, .swap, 3), (38, .return_, 1)]
def jcX4_openBy : List (Nat × Instr × Nat) := [(0, .aload 0, 1), (1, .getfield 4296548436, 3), (4, .iconst 0, 1), (5, .invokestatic 300024568, 3), (8, .iconst 0, 1), (9, .istore 2, 1), (10, .iload 2, 1), (11, .iconst 64, 2), (13, .if_icmp .ge 60, 3), (16, .aload 0, 1), (17, .getfield 34360811588, 3), (20, .iload 2, 1), (21, .laload, 1), (22, .sipush (-4611686018427387904), 3), (25, .multianewarray 0 54, 4), (29, .aload 1, 1), (30, .iload 2, 1), (31, .iaload, 1), (32, .iconst 1, 1), (33, .if_icmp .eq 54, 3), (36, .aload 0, 1), (37, .getfield 4296548436, 3), (40, .iload 2, 1), (41, .iconst 8, 2), (43, .irem, 1), (44, .dup2, 1), (45, .iaload, 1), (46, .iconst 1, 1), (47, .iload 2, 1), (48, .iconst 8, 2), (50, .idiv, 1), (51, .ishl, 1), (52, .ior, 1), (53, .iastore, 1), (54, .iinc 2 1, 3), (57, .goto 10, 3), (60, .iconst 0, 1), (61, .istore 2, 1), (62, .iload 2, 1), (63, .iconst 64, 2), (65, .if_icmp .ge 95, 3), (68, .aload 1, 1), (69, .iload 2, 1), (70, .iaload, 1), (71, .iconst 2, 1), (72, .if_icmp .ne 89, 3), (75, .aload 0, 1), (76, .iconst 1, 1), (77, .iload 2, 1), (78, .iconst 8, 2), (80, .idiv, 1), (81, .ishl, 1), (82, .iload 2, 1), (83, .iconst 8, 2), (85, .irem, 1), (86, .invokestatic 42074910, 3), (89, .iinc 2 1, 3), (92, .goto 62, 3), (95, .return_, 1)]
def jcX4_force : List (Nat × Instr × Nat) := [(0, .iconst 0, 1), (1, .istore 3, 1), (2, .iload 3, 1), (3, .iconst 8, 2), (5, .if_icmp .ge 35, 3), (8, .aload 0, 1), (9, .getfield 4296548436, 3), (12, .iload 3, 1), (13, .dup2, 1), (14, .iaload, 1), (15, .iload 3, 1), (16, .iload 2, 1), (17, .if_icmp .ne 24, 3), (20, .iload 1, 1), (21, .goto 27, 3), (24, .iload 1, 1), (25, .iconst (-1), 1), (26, .ixor, 1), (27, .iand, 1), (28, .iastore, 1), (29, .iinc 3 1, 3), (32, .goto 2, 3), (35, .return_, 1)]
def jcX4_isOpen : List (Nat × Instr × Nat) := [(0, .aload 0, 1), (1, .getfield 4296548436, 3), (4, .iload 2, 1), (5, .iaload, 1), (6, .iload 1, 1), (7, .ishr, 1), (8, .iconst 1, 1), (9, .iand, 1), (10, .iconst 1, 1), (11, .if_icmp .ne 18, 3), (14, .iconst 1, 1), (15, .goto 19, 3), (18, .iconst 0, 1), (19, .ireturn, 1)]
def jcX4_openPairs : List (Nat × Instr × Nat) := [(0, .iconst 0, 1), (1, .istore 1, 1), (2, .iconst 0, 1), (3, .istore 2, 1), (4, .iload 2, 1), (5, .iconst 8, 2), (7, .if_icmp .ge 28, 3), (10, .iload 1, 1), (11, .aload 0, 1), (12, .getfield 4296548436, 3), (15, .iload 2, 1), (16, .iaload, 1), (17, .invokestatic 295735793, 3), (20, .iadd, 1), (21, .istore 1, 1), (22, .iinc 2 1, 3), (25, .goto 4, 3), (28, .iload 1, 1), (29, .ireturn, 1)]
def jcX4_closeJudge : List (Nat × Instr × Nat) := [(0, .iconst 0, 1), (1, .istore 2, 1), (2, .iload 2, 1), (3, .iconst 8, 2), (5, .if_icmp .ge 28, 3), (8, .aload 0, 1), (9, .getfield 4296548436, 3), (12, .iload 2, 1), (13, .dup2, 1), (14, .iaload, 1), (15, .iconst 1, 1), (16, .iload 1, 1), (17, .ishl, 1), (18, .iconst (-1), 1), (19, .ixor, 1), (20, .iand, 1), (21, .iastore, 1), (22, .iinc 2 1, 3), (25, .goto 2, 3), (28, .return_, 1)]
def jcX4_closeHeavier : List (Nat × Instr × Nat) := [(0, .iconst 0, 1), (1, .istore 3, 1), (2, .iload 3, 1), (3, .iconst 64, 2), (5, .if_icmp .ge 45, 3), (8, .aload 0, 1), (9, .getfield 34360811588, 3), (12, .iload 3, 1), (13, .laload, 1), (14, .lload 1, 1), (15, .multianewarray 5 39, 4), (19, .aload 0, 1), (20, .getfield 4296548436, 3), (23, .iload 3, 1), (24, .iconst 8, 2), (26, .irem, 1), (27, .dup2, 1), (28, .iaload, 1), (29, .iconst 1, 1), (30, .iload 3, 1), (31, .iconst 8, 2), (33, .idiv, 1), (34, .ishl, 1), (35, .iconst (-1), 1), (36, .ixor, 1), (37, .iand, 1), (38, .iastore, 1), (39, .iinc 3 1, 3), (42, .goto 2, 3), (45, .return_, 1)]
def jcX4_heavierThan : List (Nat × Instr × Nat) := [(0, .iconst 0, 1), (1, .istore 3, 1), (2, .iconst 0, 1), (3, .istore 4, 2), (5, .iload 4, 2), (7, .iconst 64, 2), (9, .if_icmp .ge 55, 3), (12, .iload 3, 1), (13, .aload 0, 1), (14, .iload 4, 2), (16, .iconst 8, 2), (18, .idiv, 1), (19, .iload 4, 2), (21, .iconst 8, 2), (23, .irem, 1), (24, .invokestatic 42054431, 3), (27, .ifCond .eq 46, 3), (30, .aload 0, 1), (31, .getfield 34360811588, 3), (34, .iload 4, 2), (36, .laload, 1), (37, .lload 1, 1), (38, .multianewarray 5 46, 4), (42, .iconst 1, 1), (43, .goto 47, 3), (46, .iconst 0, 1), (47, .iadd, 1), (48, .istore 3, 1), (49, .iinc 4 1, 3), (52, .goto 5, 3), (55, .iload 3, 1), (56, .ireturn, 1)]
def jcX4_weigh : List (Nat × Instr × Nat) := [(0, .aload 0, 1), (1, .invokestatic 42008869, 3), (4, .iconst 255, 3), (7, .istore 2, 1), (8, .iload 2, 1), (9, .ifCond .lt 71, 3), (12, .aload 0, 1), (13, .iload 2, 1), (14, .invokestatic 42021414, 3), (17, .ifCond .ne 23, 3), (20, .goto 65, 3), (23, .iload 2, 1), (24, .invokestatic 295735793, 3), (27, .istore 3, 1), (28, .iload 3, 1), (29, .aload 0, 1), (30, .getfield 20, 3), (33, .if_icmp .ge 51, 3), (36, .aload 0, 1), (37, .iload 2, 1), (38, .aload 0, 1), (39, .getfield 4295499812, 3), (42, .iload 3, 1), (43, .iaload, 1), (44, .iload 1, 1), (45, .invokestatic 42468391, 3), (48, .goto 65, 3), (51, .aload 0, 1), (52, .getfield 137441075300, 3), (55, .iload 2, 1), (56, .sipush 0, 1), (57, .lastore, 1), (58, .aload 0, 1), (59, .getfield 137441583220, 3), (62, .iload 2, 1), (63, .iconst 1, 1), (64, .iastore, 1), (65, .iinc 2 (-1), 3), (68, .goto 8, 3), (71, .return_, 1)]
def jcX4_listCases : List (Nat × Instr × Nat) := [(0, .aload 0, 1), (1, .iconst 0, 1), (2, .putfield 20, 3), (5, .aload 0, 1), (6, .iconst 0, 1), (7, .putfield 52, 3), (10, .iconst 0, 1), (11, .istore 1, 1), (12, .iload 1, 1), (13, .iconst 8, 2), (15, .if_icmp .ge 71, 3), (18, .aload 0, 1), (19, .getfield 4, 3), (22, .iload 1, 1), (23, .ishr, 1), (24, .iconst 1, 1), (25, .iand, 1), (26, .iconst 1, 1), (27, .if_icmp .ne 65, 3), (30, .aload 0, 1), (31, .getfield 4295499812, 3), (34, .aload 0, 1), (35, .getfield 20, 3), (38, .iload 1, 1), (39, .iastore, 1), (40, .aload 0, 1), (41, .dup, 1), (42, .getfield 20, 3), (45, .iconst 1, 1), (46, .iadd, 1), (47, .putfield 20, 3), (50, .aload 0, 1), (51, .dup, 1), (52, .getfield 52, 3), (55, .aload 0, 1), (56, .getfield 4296548436, 3), (59, .iload 1, 1), (60, .iaload, 1), (61, .ior, 1), (62, .putfield 52, 3), (65, .iinc 1 1, 3), (68, .goto 12, 3), (71, .return_, 1)]
def jcX4_canTake : List (Nat × Instr × Nat) := [(0, .iload 1, 1), (1, .aload 0, 1), (2, .getfield 52, 3), (5, .iconst (-1), 1), (6, .ixor, 1), (7, .iand, 1), (8, .ifCond .ne 15, 3), (11, .iconst 1, 1), (12, .goto 16, 3), (15, .iconst 0, 1), (16, .ireturn, 1)]
def jcX4_weighFrom : List (Nat × Instr × Nat) := [(0, .sipush (-4611686018427387904), 3), (3, .lstore 4, 2), (5, .iconst 0, 1), (6, .istore 6, 2), (8, .aload 0, 1), (9, .getfield 4296548436, 3), (12, .iload 2, 1), (13, .iaload, 1), (14, .iload 1, 1), (15, .iconst (-1), 1), (16, .ixor, 1), (17, .iand, 1), (18, .istore 7, 2), (20, .iconst 0, 1), (21, .istore 8, 2), (23, .iload 8, 2), (25, .iconst 8, 2), (27, .if_icmp .ge 161, 3), (30, .iload 7, 2), (32, .iload 8, 2), (34, .ishr, 1), (35, .iconst 1, 1), (36, .iand, 1), (37, .ifCond .ne 43, 3), (40, .goto 155, 3), (43, .iload 1, 1), (44, .iconst 1, 1), (45, .iload 8, 2), (47, .ishl, 1), (48, .ior, 1), (49, .istore 9, 2), (51, .aload 0, 1), (52, .getfield 137441075300, 3), (55, .iload 9, 2), (57, .laload, 1), (58, .lstore 10, 2), (60, .lload 10, 2), (62, .sipush (-4611686018427387904), 3), (65, .multianewarray 1 72, 4), (69, .goto 155, 3), (72, .aload 0, 1), (73, .getfield 34360811588, 3), (76, .iload 8, 2), (78, .iconst 8, 2), (80, .imul, 1), (81, .iload 2, 1), (82, .iadd, 1), (83, .laload, 1), (84, .lstore 12, 2), (86, .iload 3, 1), (87, .ifCond .eq 100, 3), (90, .lload 12, 2), (92, .lload 10, 2), (94, .invokestatic 297935605, 3), (97, .goto 105, 3), (100, .lload 12, 2), (102, .lload 10, 2), (104, .ladd, 1), (105, .lstore 14, 2), (107, .lload 4, 2), (109, .sipush (-4611686018427387904), 3), (112, .multianewarray 0 124, 4), (116, .lload 14, 2), (118, .lload 4, 2), (120, .multianewarray 3 131, 4), (124, .lload 14, 2), (126, .lstore 4, 2), (128, .iconst 0, 1), (129, .istore 6, 2), (131, .iload 6, 2), (133, .lload 14, 2), (135, .lload 4, 2), (137, .multianewarray 1 151, 4), (141, .aload 0, 1), (142, .getfield 137441583220, 3), (145, .iload 9, 2), (147, .iaload, 1), (148, .goto 152, 3), (151, .iconst 0, 1), (152, .iadd, 1), (153, .istore 6, 2), (155, .iinc 8 1, 3), (158, .goto 23, 3), (161, .aload 0, 1), (162, .getfield 137441075300, 3), (165, .iload 1, 1), (166, .lload 4, 2), (168, .lastore, 1), (169, .aload 0, 1), (170, .getfield 137441583220, 3), (173, .iload 1, 1), (174, .iload 6, 2), (176, .iastore, 1), (177, .return_, 1)]
def jcX4_leads : List (Nat × Instr × Nat) := [(0, .iconst 1, 1), (1, .iload 2, 1), (2, .ishl, 1), (3, .istore 4, 2), (5, .aload 0, 1), (6, .getfield 4296548436, 3), (9, .iload 3, 1), (10, .iaload, 1), (11, .iload 1, 1), (12, .iconst (-1), 1), (13, .ixor, 1), (14, .iand, 1), (15, .iload 4, 2), (17, .iand, 1), (18, .ifCond .eq 37, 3), (21, .aload 0, 1), (22, .getfield 137441075300, 3), (25, .iload 1, 1), (26, .iload 4, 2), (28, .ior, 1), (29, .laload, 1), (30, .sipush (-4611686018427387904), 3), (33, .multianewarray 1 39, 4), (37, .iconst 0, 1), (38, .ireturn, 1), (39, .aload 0, 1), (40, .getfield 34360811588, 3), (43, .iload 2, 1), (44, .iconst 8, 2), (46, .imul, 1), (47, .iload 3, 1), (48, .iadd, 1), (49, .laload, 1), (50, .aload 0, 1), (51, .getfield 137441075300, 3), (54, .iload 1, 1), (55, .iload 4, 2), (57, .ior, 1), (58, .laload, 1), (59, .ladd, 1), (60, .aload 0, 1), (61, .getfield 137441075300, 3), (64, .iload 1, 1), (65, .laload, 1), (66, .multianewarray 1 74, 4), (70, .iconst 1, 1), (71, .goto 75, 3), (74, .iconst 0, 1), (75, .ireturn, 1)]
def jcX4_pick : List (Nat × Instr × Nat) := [(0, .aload 2, 1), (1, .iconst (-1), 1), (2, .invokestatic 300024568, 3), (5, .iconst 0, 1), (6, .istore 3, 1), (7, .iload 1, 1), (8, .istore 4, 2), (10, .iconst 0, 1), (11, .istore 5, 2), (13, .iload 5, 2), (15, .aload 0, 1), (16, .getfield 20, 3), (19, .if_icmp .ge 124, 3), (22, .aload 0, 1), (23, .getfield 4295499812, 3), (26, .iload 5, 2), (28, .iaload, 1), (29, .istore 6, 2), (31, .iconst 0, 1), (32, .istore 7, 2), (34, .iload 7, 2), (36, .iconst 8, 2), (38, .if_icmp .ge 118, 3), (41, .aload 2, 1), (42, .iload 6, 2), (44, .iaload, 1), (45, .iconst (-1), 1), (46, .if_icmp .ne 118, 3), (49, .aload 0, 1), (50, .iload 3, 1), (51, .iload 7, 2), (53, .iload 6, 2), (55, .invokestatic 42120232, 3), (58, .ifCond .ne 64, 3), (61, .goto 112, 3), (64, .iconst 1, 1), (65, .iload 7, 2), (67, .ishl, 1), (68, .istore 8, 2), (70, .iload 4, 2), (72, .aload 0, 1), (73, .getfield 137441583220, 3), (76, .iload 3, 1), (77, .iload 8, 2), (79, .ior, 1), (80, .iaload, 1), (81, .if_icmp .ge 98, 3), (84, .aload 2, 1), (85, .iload 6, 2), (87, .iload 7, 2), (89, .iastore, 1), (90, .iload 3, 1), (91, .iload 8, 2), (93, .ior, 1), (94, .istore 3, 1), (95, .goto 112, 3), (98, .iload 4, 2), (100, .aload 0, 1), (101, .getfield 137441583220, 3), (104, .iload 3, 1), (105, .iload 8, 2), (107, .ior, 1), (108, .iaload, 1), (109, .isub, 1), (110, .istore 4, 2), (112, .iinc 7 1, 3), (115, .goto 34, 3), (118, .iinc 5 1, 3), (121, .goto 13, 3), (124, .return_, 1)]
def jcX4_share : List (Nat × Instr × Nat) := [(0, .aload 0, 1), (1, .getfield 34363416724, 3), (4, .iconst 0, 1), (5, .invokestatic 300024568, 3), (8, .aload 0, 1), (9, .getfield 137442107524, 3), (12, .iconst 0, 1), (13, .invokestatic 300024568, 3), (16, .aload 0, 1), (17, .getfield 137442107524, 3), (20, .iconst 0, 1), (21, .aload 0, 1), (22, .getfield 137441583220, 3), (25, .iconst 0, 1), (26, .iaload, 1), (27, .ifCond .ne 34, 3), (30, .iconst 0, 1), (31, .goto 35, 3), (34, .iconst 1, 1), (35, .iastore, 1), (36, .iconst 0, 1), (37, .istore 1, 1), (38, .iload 1, 1), (39, .iconst 256, 3), (42, .if_icmp .ge 84, 3), (45, .iload 1, 1), (46, .invokestatic 295735793, 3), (49, .istore 2, 1), (50, .aload 0, 1), (51, .getfield 137442107524, 3), (54, .iload 1, 1), (55, .iaload, 1), (56, .ifCond .eq 78, 3), (59, .iload 2, 1), (60, .aload 0, 1), (61, .getfield 20, 3), (64, .if_icmp .ge 78, 3), (67, .aload 0, 1), (68, .iload 1, 1), (69, .aload 0, 1), (70, .getfield 4295499812, 3), (73, .iload 2, 1), (74, .iaload, 1), (75, .invokestatic 42107691, 3), (78, .iinc 1 1, 3), (81, .goto 38, 3), (84, .return_, 1)]
def jcX4_shareFrom : List (Nat × Instr × Nat) := [(0, .iconst 0, 1), (1, .istore 3, 1), (2, .iload 3, 1), (3, .iconst 8, 2), (5, .if_icmp .ge 75, 3), (8, .aload 0, 1), (9, .iload 1, 1), (10, .iload 3, 1), (11, .iload 2, 1), (12, .invokestatic 42120232, 3), (15, .ifCond .eq 69, 3), (18, .iload 1, 1), (19, .iconst 1, 1), (20, .iload 3, 1), (21, .ishl, 1), (22, .ior, 1), (23, .istore 4, 2), (25, .aload 0, 1), (26, .getfield 137442107524, 3), (29, .iload 4, 2), (31, .dup2, 1), (32, .iaload, 1), (33, .aload 0, 1), (34, .getfield 137442107524, 3), (37, .iload 1, 1), (38, .iaload, 1), (39, .iadd, 1), (40, .iastore, 1), (41, .aload 0, 1), (42, .getfield 34363416724, 3), (45, .iload 3, 1), (46, .iconst 8, 2), (48, .imul, 1), (49, .iload 2, 1), (50, .iadd, 1), (51, .dup2, 1), (52, .iaload, 1), (53, .aload 0, 1), (54, .getfield 137442107524, 3), (57, .iload 1, 1), (58, .iaload, 1), (59, .aload 0, 1), (60, .getfield 137441583220, 3), (63, .iload 4, 2), (65, .iaload, 1), (66, .imul, 1), (67, .iadd, 1), (68, .iastore, 1), (69, .iinc 3 1, 3), (72, .goto 2, 3), (75, .return_, 1)]
def jcX4_follows : List (Nat × Instr × Nat) := [(0, .aload 2, 1), (1, .iconst (-1), 1), (2, .invokestatic 300024568, 3), (5, .aload 1, 1), (6, .getfield 23, 3), (9, .aload 0, 1), (10, .getfield 20, 3), (13, .if_icmp .eq 18, 3), (16, .iconst 0, 1), (17, .ireturn, 1), (18, .iconst 0, 1), (19, .istore 3, 1), (20, .iconst 0, 1), (21, .istore 4, 2), (23, .iload 4, 2), (25, .aload 0, 1), (26, .getfield 20, 3), (29, .if_icmp .ge 117, 3), (32, .aload 1, 1), (33, .getfield 21475385383, 3), (36, .iload 4, 2), (38, .laload, 1), (39, .lstore 5, 2), (41, .lload 5, 2), (43, .sipush 0, 1), (44, .multianewarray 2 57, 4), (48, .lload 5, 2), (50, .sipush 8, 3), (53, .multianewarray 2 59, 4), (57, .iconst 0, 1), (58, .ireturn, 1), (59, .lload 5, 2), (61, .l2i, 1), (62, .istore 7, 2), (64, .iconst 1, 1), (65, .iload 7, 2), (67, .ishl, 1), (68, .istore 8, 2), (70, .iload 3, 1), (71, .iload 8, 2), (73, .iand, 1), (74, .ifCond .ne 93, 3), (77, .aload 0, 1), (78, .iload 7, 2), (80, .aload 0, 1), (81, .getfield 4295499812, 3), (84, .iload 4, 2), (86, .iaload, 1), (87, .invokestatic 42054431, 3), (90, .ifCond .ne 95, 3), (93, .iconst 0, 1), (94, .ireturn, 1), (95, .iload 3, 1), (96, .iload 8, 2), (98, .ior, 1), (99, .istore 3, 1), (100, .aload 2, 1), (101, .aload 0, 1), (102, .getfield 4295499812, 3), (105, .iload 4, 2), (107, .iaload, 1), (108, .iload 7, 2), (110, .iastore, 1), (111, .iinc 4 1, 3), (114, .goto 23, 3), (117, .iconst 1, 1), (118, .ireturn, 1)]
def jcX4_sumOf : List (Nat × Instr × Nat) := [(0, .sipush 0, 1), (1, .lstore 2, 1), (2, .iconst 0, 1), (3, .istore 4, 2), (5, .iload 4, 2), (7, .aload 0, 1), (8, .getfield 20, 3), (11, .if_icmp .ge 47, 3), (14, .aload 0, 1), (15, .getfield 4295499812, 3), (18, .iload 4, 2), (20, .iaload, 1), (21, .istore 5, 2), (23, .lload 2, 1), (24, .aload 0, 1), (25, .getfield 34360811588, 3), (28, .aload 1, 1), (29, .iload 5, 2), (31, .iaload, 1), (32, .iconst 8, 2), (34, .imul, 1), (35, .iload 5, 2), (37, .iadd, 1), (38, .laload, 1), (39, .ladd, 1), (40, .lstore 2, 1), (41, .iinc 4 1, 3), (44, .goto 5, 3), (47, .lload 2, 1), (48, .lreturn, 1)]
def jcX4_sharedOf : List (Nat × Instr × Nat) := [(0, .iconst 0, 1), (1, .istore 2, 1), (2, .iconst 0, 1), (3, .istore 3, 1), (4, .iload 3, 1), (5, .aload 0, 1), (6, .getfield 20, 3), (9, .if_icmp .ge 52, 3), (12, .aload 0, 1), (13, .getfield 4295499812, 3), (16, .iload 3, 1), (17, .iaload, 1), (18, .istore 4, 2), (20, .iload 2, 1), (21, .aload 0, 1), (22, .getfield 34363416724, 3), (25, .aload 1, 1), (26, .iload 4, 2), (28, .iaload, 1), (29, .iconst 8, 2), (31, .imul, 1), (32, .iload 4, 2), (34, .iadd, 1), (35, .iaload, 1), (36, .ifCond .le 43, 3), (39, .iconst 1, 1), (40, .goto 44, 3), (43, .iconst 0, 1), (44, .iadd, 1), (45, .istore 2, 1), (46, .iinc 3 1, 3), (49, .goto 4, 3), (52, .iload 2, 1), (53, .ireturn, 1)]
def jcX5_init : List (Nat × Instr × Nat) := [(0, .aload 0, 1), (1, .pop, 3), (4, .aload 0, 1), (5, .iconst 0, 1), (6, .putfield 5, 3), (9, .aload 0, 1), (10, .iconst 384, 3), (13, .newarray .long, 2), (15, .putfield 206158979093, 3), (18, .aload 0, 1), (19, .iconst 1024, 3), (22, .newarray .long, 2), (24, .putfield 549756887077, 3), (27, .aload 0, 1), (28, .iconst 8, 2), (30, .newarray .long, 2), (32, .putfield 4296564789, 3), (35, .aload 0, 1), (36, .iconst 8, 2), (38, .newarray .long, 2), (40, .putfield 4297089093, 3), (43, .aload 0, 1), (44, .iconst 8, 2), (46, .newarray .int, 2), (48, .putfield 4297597013, 3), (51, .return_, 1)]
def jcX5_make : List (Nat × Instr × Nat) := [(0, .aload 0, 1), (1, .getfield 4296564789, 3), (4, .sipush 0, 1), (5, .invokestatic 300057335, 3), (8, .iconst 0, 1), (9, .istore 3, 1), (10, .iload 3, 1), (11, .iconst 8, 2), (13, .if_icmp .ge 34, 3), (16, .aload 0, 1), (17, .getfield 4297089093, 3), (20, .iload 3, 1), (21, .aload 0, 1), (22, .aload 1, 1), (23, .iload 3, 1), (24, .invokestatic 44311345, 3), (27, .lastore, 1), (28, .iinc 3 1, 3), (31, .goto 10, 3), (34, .aload 0, 1), (35, .iconst 0, 1), (36, .putfield 5, 3), (39, .sipush 0, 1), (40, .lstore 3, 1), (41, .iconst 0, 1), (42, .istore 5, 2), (44, .iload 5, 2), (46, .iconst 64, 2), (48, .if_icmp .ge 170, 3), (51, .lload 3, 1), (52, .sipush (-1), 3), (55, .multianewarray 0 170, 4), (59, .aload 0, 1), (60, .aload 1, 1), (61, .invokestatic 44241459, 3), (64, .istore 6, 2), (66, .aload 2, 1), (67, .aload 0, 1), (68, .getfield 4297597013, 3), (71, .aload 1, 1), (72, .getfield 4, 3), (75, .invokestatic 37880591, 3), (78, .aload 0, 1), (79, .aload 1, 1), (80, .aload 2, 1), (81, .getfield 18, 3), (84, .aload 2, 1), (85, .getfield 34, 3), (88, .iconst (-1), 1), (89, .ixor, 1), (90, .invokestatic 44442676, 3), (93, .lstore 3, 1), (94, .aload 0, 1), (95, .iload 5, 2), (97, .aload 1, 1), (98, .getfield 4, 3), (101, .aload 2, 1), (102, .getfield 18, 3), (105, .iconst (-1), 1), (106, .ixor, 1), (107, .iand, 1), (108, .aload 2, 1), (109, .invokestatic 44172341, 3), (112, .aload 0, 1), (113, .getfield 206158979093, 3), (116, .iload 5, 2), (118, .iconst 6, 2), (120, .imul, 1), (121, .iconst 4, 1), (122, .iadd, 1), (123, .lload 3, 1), (124, .lastore, 1), (125, .aload 0, 1), (126, .getfield 206158979093, 3), (129, .iload 5, 2), (131, .iconst 6, 2), (133, .imul, 1), (134, .iconst 5, 1), (135, .iadd, 1), (136, .iload 6, 2), (138, .i2l, 1), (139, .lastore, 1), (140, .aload 0, 1), (141, .dup, 1), (142, .getfield 5, 3), (145, .iconst 1, 1), (146, .iadd, 1), (147, .putfield 5, 3), (150, .lload 3, 1), (151, .sipush (-1), 3), (154, .multianewarray 0 164, 4), (158, .aload 0, 1), (159, .aload 2, 1), (160, .lload 3, 1), (161, .invokestatic 44204854, 3), (164, .iinc 5 1, 3), (167, .goto 44, 3), (170, .return_, 1)]
def jcX5_firstPay : List (Nat × Instr × Nat) := [(0, .sipush (-1), 3), (3, .lstore 3, 1), (4, .iconst 0, 1), (5, .istore 5, 2), (7, .iload 5, 2), (9, .iconst 8, 2), (11, .if_icmp .ge 64, 3), (14, .aload 1, 1), (15, .iload 5, 2), (17, .iload 2, 1), (18, .invokestatic 42054431, 3), (21, .ifCond .eq 58, 3), (24, .aload 1, 1), (25, .getfield 34360811588, 3), (28, .iload 5, 2), (30, .iconst 8, 2), (32, .imul, 1), (33, .iload 2, 1), (34, .iadd, 1), (35, .laload, 1), (36, .lstore 6, 2), (38, .lload 3, 1), (39, .sipush (-1), 3), (42, .multianewarray 1 51, 4), (46, .lload 6, 2), (48, .goto 57, 3), (51, .lload 3, 1), (52, .lload 6, 2), (54, .invokestatic 297935606, 3), (57, .lstore 3, 1), (58, .iinc 5 1, 3), (61, .goto 7, 3), (64, .lload 3, 1), (65, .sipush (-1), 3), (68, .multianewarray 1 76, 4), (72, .sipush 0, 1), (73, .goto 77, 3), (76, .lload 3, 1), (77, .lreturn, 1)]
def jcX5_slack : List (Nat × Instr × Nat) := [(0, .aload 1, 1), (1, .getfield 34360811588, 3), (4, .iload 2, 1), (5, .iconst 8, 2), (7, .imul, 1), (8, .iload 3, 1), (9, .iadd, 1), (10, .laload, 1), (11, .aload 0, 1), (12, .getfield 4296564789, 3), (15, .iload 2, 1), (16, .laload, 1), (17, .ladd, 1), (18, .aload 0, 1), (19, .getfield 4297089093, 3), (22, .iload 3, 1), (23, .laload, 1), (24, .lsub, 1), (25, .lreturn, 1)]
def jcX5_findTight : List (Nat × Instr × Nat) := [(0, .aload 0, 1), (1, .getfield 4297597013, 3), (4, .iconst 0, 1), (5, .invokestatic 300024568, 3), (8, .iconst 0, 1), (9, .istore 2, 1), (10, .iconst 0, 1), (11, .istore 3, 1), (12, .iload 3, 1), (13, .iconst 64, 2), (15, .if_icmp .ge 78, 3), (18, .iload 3, 1), (19, .iconst 8, 2), (21, .idiv, 1), (22, .istore 4, 2), (24, .iload 3, 1), (25, .iconst 8, 2), (27, .irem, 1), (28, .istore 5, 2), (30, .aload 1, 1), (31, .iload 4, 2), (33, .iload 5, 2), (35, .invokestatic 42054431, 3), (38, .ifCond .eq 72, 3), (41, .aload 0, 1), (42, .aload 1, 1), (43, .iload 4, 2), (45, .iload 5, 2), (47, .invokestatic 44180530, 3), (50, .sipush 0, 1), (51, .multianewarray 1 72, 4), (55, .aload 0, 1), (56, .getfield 4297597013, 3), (59, .iload 5, 2), (61, .dup2, 1), (62, .iaload, 1), (63, .iconst 1, 1), (64, .iload 4, 2), (66, .ishl, 1), (67, .ior, 1), (68, .iastore, 1), (69, .iinc 2 1, 3), (72, .iinc 3 1, 3), (75, .goto 12, 3), (78, .iload 2, 1), (79, .ireturn, 1)]
def jcX5_leastSlack : List (Nat × Instr × Nat) := [(0, .sipush (-1), 3), (3, .lstore 4, 2), (5, .iconst 0, 1), (6, .istore 6, 2), (8, .iload 6, 2), (10, .iconst 64, 2), (12, .if_icmp .ge 107, 3), (15, .iload 6, 2), (17, .iconst 8, 2), (19, .idiv, 1), (20, .istore 7, 2), (22, .iload 6, 2), (24, .iconst 8, 2), (26, .irem, 1), (27, .istore 8, 2), (29, .iload 2, 1), (30, .iload 8, 2), (32, .ishr, 1), (33, .iload 3, 1), (34, .iload 7, 2), (36, .ishr, 1), (37, .iand, 1), (38, .iconst 1, 1), (39, .iand, 1), (40, .iconst 1, 1), (41, .if_icmp .ne 48, 3), (44, .iconst 1, 1), (45, .goto 49, 3), (48, .iconst 0, 1), (49, .istore 9, 2), (51, .iload 9, 2), (53, .ifCond .eq 101, 3), (56, .aload 1, 1), (57, .iload 7, 2), (59, .iload 8, 2), (61, .invokestatic 42054431, 3), (64, .ifCond .eq 101, 3), (67, .aload 0, 1), (68, .aload 1, 1), (69, .iload 7, 2), (71, .iload 8, 2), (73, .invokestatic 44180530, 3), (76, .lstore 10, 2), (78, .lload 4, 2), (80, .sipush (-1), 3), (83, .multianewarray 1 92, 4), (87, .lload 10, 2), (89, .goto 99, 3), (92, .lload 4, 2), (94, .lload 10, 2), (96, .invokestatic 297935606, 3), (99, .lstore 4, 2), (101, .iinc 6 1, 3), (104, .goto 8, 3), (107, .lload 4, 2), (109, .lreturn, 1)]
def jcX5_keep : List (Nat × Instr × Nat) := [(0, .aload 0, 1), (1, .getfield 206158979093, 3), (4, .iload 1, 1), (5, .iconst 6, 2), (7, .imul, 1), (8, .aload 3, 1), (9, .getfield 2, 3), (12, .i2l, 1), (13, .lastore, 1), (14, .aload 0, 1), (15, .getfield 206158979093, 3), (18, .iload 1, 1), (19, .iconst 6, 2), (21, .imul, 1), (22, .iconst 1, 1), (23, .iadd, 1), (24, .aload 3, 1), (25, .getfield 18, 3), (28, .i2l, 1), (29, .lastore, 1), (30, .aload 0, 1), (31, .getfield 206158979093, 3), (34, .iload 1, 1), (35, .iconst 6, 2), (37, .imul, 1), (38, .iconst 2, 1), (39, .iadd, 1), (40, .aload 3, 1), (41, .getfield 34, 3), (44, .i2l, 1), (45, .lastore, 1), (46, .aload 0, 1), (47, .getfield 206158979093, 3), (50, .iload 1, 1), (51, .iconst 6, 2), (53, .imul, 1), (54, .iconst 3, 1), (55, .iadd, 1), (56, .aload 3, 1), (57, .getfield 34, 3), (60, .iload 2, 1), (61, .iconst 8, 2), (63, .ishl, 1), (64, .ior, 1), (65, .i2l, 1), (66, .lastore, 1), (67, .aload 0, 1), (68, .getfield 4296564789, 3), (71, .iconst 0, 1), (72, .aload 0, 1), (73, .getfield 549756887077, 3), (76, .iload 1, 1), (77, .iconst 2, 1), (78, .imul, 1), (79, .iconst 8, 2), (81, .imul, 1), (82, .iconst 8, 2), (84, .swap, 3), (87, .aload 0, 1), (88, .getfield 4297089093, 3), (91, .iconst 0, 1), (92, .aload 0, 1), (93, .getfield 549756887077, 3), (96, .iload 1, 1), (97, .iconst 2, 1), (98, .imul, 1), (99, .iconst 1, 1), (100, .iadd, 1), (101, .iconst 8, 2), (103, .imul, 1), (104, .iconst 8, 2), (106, .swap, 3), (109, .return_, 1)]
def jcX5_raise : List (Nat × Instr × Nat) := [(0, .iconst 0, 1), (1, .istore 4, 2), (3, .iload 4, 2), (5, .iconst 8, 2), (7, .if_icmp .ge 60, 3), (10, .aload 0, 1), (11, .getfield 4296564789, 3), (14, .iload 4, 2), (16, .dup2, 1), (17, .laload, 1), (18, .aload 1, 1), (19, .getfield 34, 3), (22, .iload 4, 2), (24, .ishr, 1), (25, .iconst 1, 1), (26, .iand, 1), (27, .i2l, 1), (28, .lload 2, 1), (29, .lmul, 1), (30, .ladd, 1), (31, .lastore, 1), (32, .aload 0, 1), (33, .getfield 4297089093, 3), (36, .iload 4, 2), (38, .dup2, 1), (39, .laload, 1), (40, .aload 1, 1), (41, .getfield 18, 3), (44, .iload 4, 2), (46, .ishr, 1), (47, .iconst 1, 1), (48, .iand, 1), (49, .i2l, 1), (50, .lload 2, 1), (51, .lmul, 1), (52, .ladd, 1), (53, .lastore, 1), (54, .iinc 4 1, 3), (57, .goto 3, 3), (60, .return_, 1)]
def jcX6_init : List (Nat × Instr × Nat) := [(0, .aload 0, 1), (1, .pop, 3), (4, .aload 0, 1), (5, .iconst 0, 1), (6, .putfield 6, 3), (9, .aload 0, 1), (10, .iconst 0, 1), (11, .putfield 22, 3), (14, .aload 0, 1), (15, .iconst 40, 2), (17, .newarray .int, 2), (19, .putfield 21475368998, 3), (22, .aload 0, 1), (23, .iconst 40, 2), (25, .newarray .int, 2), (27, .putfield 21475893302, 3), (30, .aload 0, 1), (31, .iconst 40, 2), (33, .newarray .int, 2), (35, .putfield 21476417606, 3), (38, .return_, 1)]
def jcX6_clear : List (Nat × Instr × Nat) := [(0, .aload 0, 1), (1, .iconst 0, 1), (2, .putfield 6, 3), (5, .aload 0, 1), (6, .iconst 0, 1), (7, .putfield 22, 3), (10, .return_, 1)]
def jcX6_take : List (Nat × Instr × Nat) := [(0, .aload 0, 1), (1, .aload 1, 1), (2, .getfield 6, 3), (5, .putfield 6, 3), (8, .aload 0, 1), (9, .aload 1, 1), (10, .getfield 22, 3), (13, .putfield 22, 3), (16, .aload 1, 1), (17, .getfield 21475368998, 3), (20, .iconst 0, 1), (21, .aload 0, 1), (22, .getfield 21475368998, 3), (25, .iconst 0, 1), (26, .iconst 40, 2), (28, .swap, 3), (31, .aload 1, 1), (32, .getfield 21475893302, 3), (35, .iconst 0, 1), (36, .aload 0, 1), (37, .getfield 21475893302, 3), (40, .iconst 0, 1), (41, .iconst 40, 2), (43, .swap, 3), (46, .aload 1, 1), (47, .getfield 21476417606, 3), (50, .iconst 0, 1), (51, .aload 0, 1), (52, .getfield 21476417606, 3), (55, .iconst 0, 1), (56, .iconst 40, 2), (58, .swap, 3), (61, .return_, 1)]
def jcX6_add : List (Nat × Instr × Nat) := [(0, .aload 0, 1), (1, .getfield 22, 3), (4, .iconst 40, 2), (6, .if_icmp .ge 49, 3), (9, .aload 0, 1), (10, .getfield 21475368998, 3), (13, .aload 0, 1), (14, .getfield 22, 3), (17, .iload 1, 1), (18, .iastore, 1), (19, .aload 0, 1), (20, .getfield 21475893302, 3), (23, .aload 0, 1), (24, .getfield 22, 3), (27, .iload 2, 1), (28, .iastore, 1), (29, .aload 0, 1), (30, .getfield 21476417606, 3), (33, .aload 0, 1), (34, .getfield 22, 3), (37, .iload 3, 1), (38, .iastore, 1), (39, .aload 0, 1), (40, .dup, 1), (41, .getfield 22, 3), (44, .iconst 1, 1), (45, .iadd, 1), (46, .putfield 22, 3), (49, .return_, 1)]
def jcX6_landHere : List (Nat × Instr × Nat) := [(0, .iload 1, 1), (1, .ifCond .lt 20, 3), (4, .iload 1, 1), (5, .iconst 40, 2), (7, .if_icmp .ge 20, 3), (10, .aload 0, 1), (11, .getfield 21475893302, 3), (14, .iload 1, 1), (15, .aload 0, 1), (16, .getfield 22, 3), (19, .iastore, 1), (20, .return_, 1)]
def jcX6_names : List (Nat × Instr × Nat) := [(0, .iconst 0, 1), (1, .istore 1, 1), (2, .iconst 0, 1), (3, .istore 2, 1), (4, .iload 2, 1), (5, .aload 0, 1), (6, .getfield 22, 3), (9, .if_icmp .ge 39, 3), (12, .aload 0, 1), (13, .getfield 21475368998, 3), (16, .iload 2, 1), (17, .iaload, 1), (18, .iconst 4, 1), (19, .if_icmp .ne 33, 3), (22, .iload 1, 1), (23, .iconst 1, 1), (24, .aload 0, 1), (25, .getfield 21475893302, 3), (28, .iload 2, 1), (29, .iaload, 1), (30, .ishl, 1), (31, .ior, 1), (32, .istore 1, 1), (33, .iinc 2 1, 3), (36, .goto 4, 3), (39, .iload 1, 1), (40, .ireturn, 1)]
def jcX6_weightBy : List (Nat × Instr × Nat) := [(0, .aload 0, 1), (1, .getfield 6, 3), (4, .istore 2, 1), (5, .iconst 0, 1), (6, .istore 3, 1), (7, .iload 3, 1), (8, .aload 0, 1), (9, .getfield 22, 3), (12, .if_icmp .ge 42, 3), (15, .aload 0, 1), (16, .getfield 21475368998, 3), (19, .iload 3, 1), (20, .iaload, 1), (21, .iconst 4, 1), (22, .if_icmp .ne 36, 3), (25, .iload 2, 1), (26, .aload 1, 1), (27, .aload 0, 1), (28, .getfield 21475893302, 3), (31, .iload 3, 1), (32, .iaload, 1), (33, .iaload, 1), (34, .iadd, 1), (35, .istore 2, 1), (36, .iinc 3 1, 3), (39, .goto 7, 3), (42, .iload 2, 1), (43, .ireturn, 1)]
def jcX7_init : List (Nat × Instr × Nat) := [(0, .aload 0, 1), (1, .pop, 3), (4, .aload 0, 1), (5, .iconst (-1), 1), (6, .putfield 7, 3), (9, .aload 0, 1), (10, .iconst 0, 1), (11, .putfield 23, 3), (14, .aload 0, 1), (15, .iconst 40, 2), (17, .newarray .long, 2), (19, .putfield 21475385383, 3), (22, .return_, 1)]
def jcX7_become : List (Nat × Instr × Nat) := [(0, .aload 0, 1), (1, .iload 1, 1), (2, .putfield 7, 3), (5, .aload 0, 1), (6, .iload 2, 1), (7, .putfield 23, 3), (10, .aload 0, 1), (11, .getfield 21475385383, 3), (14, .sipush 0, 1), (15, .invokestatic 300057335, 3), (18, .return_, 1)]
def jcX7_holds : List (Nat × Instr × Nat) := [(0, .iload 1, 1), (1, .ifCond .lt 30, 3), (4, .iload 2, 1), (5, .ifCond .lt 30, 3), (8, .iload 1, 1), (9, .aload 0, 1), (10, .getfield 23, 3), (13, .if_icmp .gt 30, 3), (16, .iload 2, 1), (17, .aload 0, 1), (18, .getfield 23, 3), (21, .iload 1, 1), (22, .isub, 1), (23, .if_icmp .gt 30, 3), (26, .iconst 1, 1), (27, .goto 31, 3), (30, .iconst 0, 1), (31, .ireturn, 1)]
def jcX7_set : List (Nat × Instr × Nat) := [(0, .aload 0, 1), (1, .getfield 7, 3), (4, .iconst 1, 1), (5, .if_icmp .ne 20, 3), (8, .aload 0, 1), (9, .getfield 21475385383, 3), (12, .iload 1, 1), (13, .lload 2, 1), (14, .l2i, 1), (15, .i2l, 1), (16, .lastore, 1), (17, .goto 48, 3), (20, .aload 0, 1), (21, .getfield 7, 3), (24, .iconst 2, 1), (25, .if_icmp .ne 41, 3), (28, .aload 0, 1), (29, .getfield 21475385383, 3), (32, .iload 1, 1), (33, .lload 2, 1), (34, .l2i, 1), (35, .i2b, 1), (36, .i2l, 1), (37, .lastore, 1), (38, .goto 48, 3), (41, .aload 0, 1), (42, .getfield 21475385383, 3), (45, .iload 1, 1), (46, .lload 2, 1), (47, .lastore, 1), (48, .return_, 1)]
def jcX8_init : List (Nat × Instr × Nat) := [(0, .aload 0, 1), (1, .pop, 3), (4, .aload 0, 1), (5, .iconst 60, 2), (7, .newarray .int, 2), (9, .putfield 32212787208, 3), (12, .aload 0, 1), (13, .iconst 0, 1), (14, .putfield 24, 3), (17, .aload 0, 1), (18, .new 6, 3), (21, .dup, 1), (22, .invokestatic 1824555319, 3), (25, .putfield 108584, 3), (28, .aload 0, 1), (29, .iconst 0, 1), (30, .putfield 56, 3), (33, .aload 0, 1), (34, .iconst 0, 1), (35, .putfield 72, 3), (38, .aload 0, 1), (39, .iconst 0, 1), (40, .putfield 88, 3), (43, .aload 0, 1), (44, .iconst 0, 1), (45, .putfield 104, 3), (48, .aload 0, 1), (49, .iconst 0, 1), (50, .putfield 120, 3), (53, .aload 0, 1), (54, .iconst 0, 1), (55, .putfield 136, 3), (58, .return_, 1)]
def jcX8_add : List (Nat × Instr × Nat) := [(0, .aload 0, 1), (1, .getfield 24, 3), (4, .iconst 60, 2), (6, .if_icmp .lt 11, 3), (9, .iconst 0, 1), (10, .ireturn, 1), (11, .aload 0, 1), (12, .getfield 32212787208, 3), (15, .aload 0, 1), (16, .getfield 24, 3), (19, .iload 1, 1), (20, .iastore, 1), (21, .aload 0, 1), (22, .dup, 1), (23, .getfield 24, 3), (26, .iconst 1, 1), (27, .iadd, 1), (28, .putfield 24, 3), (31, .iconst 1, 1), (32, .ireturn, 1)]
def jcX8_parse : List (Nat × Instr × Nat) := [(0, .aload 0, 1), (1, .getfield 108584, 3), (4, .invokestatic 46170424, 3), (7, .aload 0, 1), (8, .iconst 0, 1), (9, .putfield 56, 3), (12, .aload 0, 1), (13, .iconst 0, 1), (14, .putfield 72, 3), (17, .aload 0, 1), (18, .invokestatic 50397518, 3), (21, .aload 0, 1), (22, .invokestatic 50475333, 3), (25, .ifCond .eq 39, 3), (28, .aload 0, 1), (29, .getfield 88, 3), (32, .ifCond .ne 39, 3), (35, .iconst (-1), 1), (36, .goto 43, 3), (39, .aload 0, 1), (40, .getfield 104, 3), (43, .ireturn, 1)]
def jcX8_expr : List (Nat × Instr × Nat) := [(0, .aload 0, 1), (1, .invokestatic 50475334, 3), (4, .ifCond .ne 9, 3), (7, .iconst 0, 1), (8, .ireturn, 1), (9, .aload 0, 1), (10, .getfield 88, 3), (13, .iconst 60, 2), (15, .if_icmp .eq 20, 3), (18, .iconst 1, 1), (19, .ireturn, 1), (20, .aload 0, 1), (21, .getfield 104, 3), (24, .istore 1, 1), (25, .aload 0, 1), (26, .invokestatic 50377035, 3), (29, .ifCond .eq 48, 3), (32, .aload 0, 1), (33, .invokestatic 50475334, 3), (36, .ifCond .eq 48, 3), (39, .aload 0, 1), (40, .getfield 88, 3), (43, .iconst 63, 2), (45, .if_icmp .eq 50, 3), (48, .iconst 0, 1), (49, .ireturn, 1), (50, .aload 0, 1), (51, .getfield 108584, 3), (54, .getfield 22, 3), (57, .istore 2, 1), (58, .aload 0, 1), (59, .getfield 108584, 3), (62, .iconst 14, 2), (64, .iconst 0, 1), (65, .iload 1, 1), (66, .invokestatic 46269498, 3), (69, .aload 0, 1), (70, .invokestatic 50397518, 3), (73, .aload 0, 1), (74, .invokestatic 50475333, 3), (77, .ifCond .eq 89, 3), (80, .aload 0, 1), (81, .getfield 88, 3), (84, .iconst 58, 2), (86, .if_icmp .eq 91, 3), (89, .iconst 0, 1), (90, .ireturn, 1), (91, .aload 0, 1), (92, .getfield 108584, 3), (95, .getfield 22, 3), (98, .istore 3, 1), (99, .aload 0, 1), (100, .getfield 108584, 3), (103, .iconst 15, 2), (105, .iconst 0, 1), (106, .aload 0, 1), (107, .getfield 104, 3), (110, .invokestatic 46269498, 3), (113, .aload 0, 1), (114, .getfield 108584, 3), (117, .iload 2, 1), (118, .invokestatic 46203451, 3), (121, .aload 0, 1), (122, .invokestatic 50397518, 3), (125, .aload 0, 1), (126, .invokestatic 50475333, 3), (129, .ifCond .ne 134, 3), (132, .iconst 0, 1), (133, .ireturn, 1), (134, .aload 0, 1), (135, .getfield 108584, 3), (138, .iload 3, 1), (139, .invokestatic 46203451, 3), (142, .iconst 1, 1), (143, .ireturn, 1)]
def jcX8_sum : List (Nat × Instr × Nat) := [(0, .aload 0, 1), (1, .invokestatic 50442567, 3), (4, .ifCond .ne 9, 3), (7, .iconst 0, 1), (8, .ireturn, 1), (9, .iconst 0, 1), (10, .istore 1, 1), (11, .iload 1, 1), (12, .iconst 24, 2), (14, .if_icmp .gt 89, 3), (17, .aload 0, 1), (18, .getfield 88, 3), (21, .iconst 43, 2), (23, .if_icmp .eq 35, 3), (26, .aload 0, 1), (27, .getfield 88, 3), (30, .iconst 45, 2), (32, .if_icmp .ne 89, 3), (35, .aload 0, 1), (36, .getfield 88, 3), (39, .iconst 43, 2), (41, .if_icmp .ne 49, 3), (44, .iconst 7, 2), (46, .goto 51, 3), (49, .iconst 8, 2), (51, .istore 2, 1), (52, .aload 0, 1), (53, .getfield 104, 3), (56, .istore 3, 1), (57, .aload 0, 1), (58, .invokestatic 50377035, 3), (61, .ifCond .eq 71, 3), (64, .aload 0, 1), (65, .invokestatic 50442567, 3), (68, .ifCond .ne 73, 3), (71, .iconst 0, 1), (72, .ireturn, 1), (73, .aload 0, 1), (74, .getfield 108584, 3), (77, .iload 2, 1), (78, .iconst 0, 1), (79, .iload 3, 1), (80, .invokestatic 46269498, 3), (83, .iinc 1 1, 3), (86, .goto 11, 3), (89, .iconst 1, 1), (90, .ireturn, 1)]
def jcX8_product : List (Nat × Instr × Nat) := [(0, .aload 0, 1), (1, .invokestatic 50442568, 3), (4, .ifCond .ne 9, 3), (7, .iconst 0, 1), (8, .ireturn, 1), (9, .iconst 0, 1), (10, .istore 1, 1), (11, .iload 1, 1), (12, .iconst 24, 2), (14, .if_icmp .gt 64, 3), (17, .aload 0, 1), (18, .getfield 88, 3), (21, .iconst 42, 2), (23, .if_icmp .ne 64, 3), (26, .aload 0, 1), (27, .getfield 104, 3), (30, .istore 2, 1), (31, .aload 0, 1), (32, .invokestatic 50377035, 3), (35, .ifCond .eq 45, 3), (38, .aload 0, 1), (39, .invokestatic 50442568, 3), (42, .ifCond .ne 47, 3), (45, .iconst 0, 1), (46, .ireturn, 1), (47, .aload 0, 1), (48, .getfield 108584, 3), (51, .iconst 9, 2), (53, .iconst 0, 1), (54, .iload 2, 1), (55, .invokestatic 46269498, 3), (58, .iinc 1 1, 3), (61, .goto 11, 3), (64, .iconst 1, 1), (65, .ireturn, 1)]
def jcX8_factor : List (Nat × Instr × Nat) := [(0, .iconst 0, 1), (1, .istore 1, 1), (2, .iconst 0, 1), (3, .istore 2, 1), (4, .iload 2, 1), (5, .iconst 24, 2), (7, .if_icmp .gt 44, 3), (10, .aload 0, 1), (11, .getfield 88, 3), (14, .iconst 45, 2), (16, .if_icmp .ne 44, 3), (19, .aload 0, 1), (20, .invokestatic 50377035, 3), (23, .ifCond .ne 28, 3), (26, .iconst 0, 1), (27, .ireturn, 1), (28, .iload 1, 1), (29, .ifCond .ne 36, 3), (32, .iconst 1, 1), (33, .goto 37, 3), (36, .iconst 0, 1), (37, .istore 1, 1), (38, .iinc 2 1, 3), (41, .goto 4, 3), (44, .aload 0, 1), (45, .invokestatic 50377033, 3), (48, .ifCond .ne 53, 3), (51, .iconst 0, 1), (52, .ireturn, 1), (53, .iload 1, 1), (54, .ifCond .eq 67, 3), (57, .aload 0, 1), (58, .getfield 108584, 3), (61, .iconst 5, 1), (62, .iconst 0, 1), (63, .iconst 0, 1), (64, .invokestatic 46269498, 3), (67, .iconst 1, 1), (68, .ireturn, 1)]
def jcX8_atom : List (Nat × Instr × Nat) := [(0, .aload 0, 1), (1, .getfield 88, 3), (4, .lookupswitch 156 #[(1, 48), (2, 151), (40, 72), (124, 101)], 44), (48, .aload 0, 1), (49, .getfield 108584, 3), (52, .aload 0, 1), (53, .getfield 120, 3), (56, .aload 0, 1), (57, .getfield 136, 3), (60, .aload 0, 1), (61, .getfield 104, 3), (64, .invokestatic 46269498, 3), (67, .aload 0, 1), (68, .invokestatic 50377035, 3), (71, .ireturn, 1), (72, .aload 0, 1), (73, .invokestatic 50377036, 3), (76, .ifCond .eq 99, 3), (79, .aload 0, 1), (80, .invokestatic 50475333, 3), (83, .ifCond .eq 99, 3), (86, .aload 0, 1), (87, .iconst 41, 2), (89, .invokestatic 50410061, 3), (92, .ifCond .eq 99, 3), (95, .iconst 1, 1), (96, .goto 100, 3), (99, .iconst 0, 1), (100, .ireturn, 1), (101, .aload 0, 1), (102, .getfield 108584, 3), (105, .getfield 6, 3), (108, .iconst 24, 2), (110, .if_icmp .ge 136, 3), (113, .aload 0, 1), (114, .invokestatic 50377036, 3), (117, .ifCond .eq 136, 3), (120, .aload 0, 1), (121, .invokestatic 50475333, 3), (124, .ifCond .eq 136, 3), (127, .aload 0, 1), (128, .iconst 124, 2), (130, .invokestatic 50410061, 3), (133, .ifCond .ne 138, 3), (136, .iconst 0, 1), (137, .ireturn, 1), (138, .aload 0, 1), (139, .getfield 108584, 3), (142, .iconst 6, 2), (144, .iconst 0, 1), (145, .iconst 0, 1), (146, .invokestatic 46269498, 3), (149, .iconst 1, 1), (150, .ireturn, 1), (151, .aload 0, 1), (152, .invokestatic 50442570, 3), (155, .ireturn, 1), (156, .iconst 0, 1), (157, .ireturn, 1)]
def jcX8_function : List (Nat × Instr × Nat) := [(0, .aload 0, 1), (1, .getfield 120, 3), (4, .istore 1, 1), (5, .aload 0, 1), (6, .getfield 104, 3), (9, .istore 2, 1), (10, .aload 0, 1), (11, .invokestatic 50377035, 3), (14, .ifCond .eq 49, 3), (17, .aload 0, 1), (18, .getfield 88, 3), (21, .iconst 40, 2), (23, .if_icmp .ne 49, 3), (26, .aload 0, 1), (27, .invokestatic 50377036, 3), (30, .ifCond .eq 49, 3), (33, .aload 0, 1), (34, .invokestatic 50475333, 3), (37, .ifCond .eq 49, 3), (40, .aload 0, 1), (41, .getfield 88, 3), (44, .iconst 44, 2), (46, .if_icmp .eq 51, 3), (49, .iconst 0, 1), (50, .ireturn, 1), (51, .aload 0, 1), (52, .invokestatic 50397518, 3), (55, .aload 0, 1), (56, .invokestatic 50475333, 3), (59, .ifCond .eq 71, 3), (62, .aload 0, 1), (63, .iconst 41, 2), (65, .invokestatic 50410061, 3), (68, .ifCond .ne 73, 3), (71, .iconst 0, 1), (72, .ireturn, 1), (73, .aload 0, 1), (74, .getfield 108584, 3), (77, .iload 1, 1), (78, .iconst 0, 1), (79, .iload 2, 1), (80, .invokestatic 46269498, 3), (83, .iconst 1, 1), (84, .ireturn, 1)]
def jcX8_part : List (Nat × Instr × Nat) := [(0, .aload 0, 1), (1, .getfield 108584, 3), (4, .getfield 6, 3), (7, .iconst 24, 2), (9, .if_icmp .lt 14, 3), (12, .iconst 0, 1), (13, .ireturn, 1), (14, .aload 0, 1), (15, .getfield 108584, 3), (18, .dup, 1), (19, .getfield 6, 3), (22, .iconst 1, 1), (23, .iadd, 1), (24, .putfield 6, 3), (27, .aload 0, 1), (28, .invokestatic 50397518, 3), (31, .iconst 1, 1), (32, .ireturn, 1)]
def jcX8_enter : List (Nat × Instr × Nat) := [(0, .aload 0, 1), (1, .getfield 72, 3), (4, .iconst 5, 1), (5, .if_icmp .lt 10, 3), (8, .iconst 0, 1), (9, .ireturn, 1), (10, .aload 0, 1), (11, .getfield 88, 3), (14, .iconst 124, 2), (16, .if_icmp .ne 32, 3), (19, .aload 0, 1), (20, .getfield 108584, 3), (23, .dup, 1), (24, .getfield 6, 3), (27, .iconst 1, 1), (28, .iadd, 1), (29, .putfield 6, 3), (32, .aload 0, 1), (33, .dup, 1), (34, .getfield 72, 3), (37, .iconst 1, 1), (38, .iadd, 1), (39, .putfield 72, 3), (42, .aload 0, 1), (43, .invokestatic 50397518, 3), (46, .iconst 1, 1), (47, .ireturn, 1)]
def jcX8_leave : List (Nat × Instr × Nat) := [(0, .aload 0, 1), (1, .getfield 88, 3), (4, .iload 1, 1), (5, .if_icmp .eq 10, 3), (8, .iconst 0, 1), (9, .ireturn, 1), (10, .aload 0, 1), (11, .dup, 1), (12, .getfield 72, 3), (15, .iconst 1, 1), (16, .isub, 1), (17, .putfield 72, 3), (20, .aload 0, 1), (21, .invokestatic 50397518, 3), (24, .iconst 1, 1), (25, .ireturn, 1)]
def jcX8_step : List (Nat × Instr × Nat) := [(0, .aload 0, 1), (1, .getfield 56, 3), (4, .aload 0, 1), (5, .getfield 24, 3), (8, .if_icmp .ge 38, 3), (11, .aload 0, 1), (12, .getfield 32212787208, 3), (15, .aload 0, 1), (16, .getfield 56, 3), (19, .iaload, 1), (20, .iconst 32, 2), (22, .if_icmp .ne 38, 3), (25, .aload 0, 1), (26, .dup, 1), (27, .getfield 56, 3), (30, .iconst 1, 1), (31, .iadd, 1), (32, .putfield 56, 3), (35, .goto 0, 3), (38, .aload 0, 1), (39, .aload 0, 1), (40, .getfield 56, 3), (43, .putfield 104, 3), (46, .aload 0, 1), (47, .getfield 56, 3), (50, .aload 0, 1), (51, .getfield 24, 3), (54, .if_icmp .lt 63, 3), (57, .aload 0, 1), (58, .iconst 0, 1), (59, .putfield 88, 3), (62, .return_, 1), (63, .aload 0, 1), (64, .getfield 32212787208, 3), (67, .aload 0, 1), (68, .getfield 56, 3), (71, .iaload, 1), (72, .istore 1, 1), (73, .aload 0, 1), (74, .dup, 1), (75, .getfield 56, 3), (78, .iconst 1, 1), (79, .iadd, 1), (80, .putfield 56, 3), (83, .iload 1, 1), (84, .invokestatic 16822611, 3), (87, .ifCond .eq 98, 3), (90, .aload 0, 1), (91, .iload 1, 1), (92, .invokestatic 50430543, 3), (95, .goto 129, 3), (98, .iload 1, 1), (99, .invokestatic 16822612, 3), (102, .ifCond .eq 113, 3), (105, .aload 0, 1), (106, .iload 1, 1), (107, .invokestatic 50397778, 3), (110, .goto 129, 3), (113, .aload 0, 1), (114, .iload 1, 1), (115, .invokestatic 16822613, 3), (118, .ifCond .eq 125, 3), (121, .iload 1, 1), (122, .goto 126, 3), (125, .iconst 3, 1), (126, .putfield 88, 3), (129, .return_, 1)]
def jcX8_word : List (Nat × Instr × Nat) := [(0, .aload 0, 1), (1, .getfield 56, 3), (4, .aload 0, 1), (5, .getfield 24, 3), (8, .if_icmp .ge 39, 3), (11, .aload 0, 1), (12, .getfield 32212787208, 3), (15, .aload 0, 1), (16, .getfield 56, 3), (19, .iaload, 1), (20, .invokestatic 16822611, 3), (23, .ifCond .eq 39, 3), (26, .aload 0, 1), (27, .dup, 1), (28, .getfield 56, 3), (31, .iconst 1, 1), (32, .iadd, 1), (33, .putfield 56, 3), (36, .goto 0, 3), (39, .aload 0, 1), (40, .getfield 56, 3), (43, .aload 0, 1), (44, .getfield 104, 3), (47, .isub, 1), (48, .istore 2, 1), (49, .iload 2, 1), (50, .iconst 1, 1), (51, .if_icmp .ne 62, 3), (54, .aload 0, 1), (55, .iload 1, 1), (56, .invokestatic 50397776, 3), (59, .goto 102, 3), (62, .iload 2, 1), (63, .iconst 3, 1), (64, .if_icmp .ne 97, 3), (67, .aload 0, 1), (68, .iload 1, 1), (69, .aload 0, 1), (70, .getfield 32212787208, 3), (73, .aload 0, 1), (74, .getfield 104, 3), (77, .iconst 1, 1), (78, .iadd, 1), (79, .iaload, 1), (80, .aload 0, 1), (81, .getfield 32212787208, 3), (84, .aload 0, 1), (85, .getfield 104, 3), (88, .iconst 2, 1), (89, .iadd, 1), (90, .iaload, 1), (91, .invokestatic 50463825, 3), (94, .goto 102, 3), (97, .aload 0, 1), (98, .iconst 3, 1), (99, .putfield 88, 3), (102, .return_, 1)]
def jcX8_nameOfOne : List (Nat × Instr × Nat) := [(0, .aload 0, 1), (1, .iconst 1, 1), (2, .putfield 88, 3), (5, .iload 1, 1), (6, .iconst 99, 2), (8, .if_icmp .gt 27, 3), (11, .aload 0, 1), (12, .iconst 2, 1), (13, .putfield 120, 3), (16, .aload 0, 1), (17, .iload 1, 1), (18, .iconst 97, 2), (20, .isub, 1), (21, .putfield 136, 3), (24, .goto 82, 3), (27, .iload 1, 1), (28, .iconst 120, 2), (30, .if_icmp .lt 49, 3), (33, .aload 0, 1), (34, .iconst 3, 1), (35, .putfield 120, 3), (38, .aload 0, 1), (39, .iload 1, 1), (40, .iconst 120, 2), (42, .isub, 1), (43, .putfield 136, 3), (46, .goto 82, 3), (49, .iload 1, 1), (50, .iconst 112, 2), (52, .if_icmp .lt 77, 3), (55, .iload 1, 1), (56, .iconst 115, 2), (58, .if_icmp .gt 77, 3), (61, .aload 0, 1), (62, .iconst 4, 1), (63, .putfield 120, 3), (66, .aload 0, 1), (67, .iload 1, 1), (68, .iconst 112, 2), (70, .isub, 1), (71, .putfield 136, 3), (74, .goto 82, 3), (77, .aload 0, 1), (78, .iconst 3, 1), (79, .putfield 88, 3), (82, .return_, 1)]
def jcX8_nameOfThree : List (Nat × Instr × Nat) := [(0, .aload 0, 1), (1, .iconst 2, 1), (2, .putfield 88, 3), (5, .iload 1, 1), (6, .iconst 109, 2), (8, .if_icmp .ne 32, 3), (11, .iload 2, 1), (12, .iconst 105, 2), (14, .if_icmp .ne 32, 3), (17, .iload 3, 1), (18, .iconst 110, 2), (20, .if_icmp .ne 32, 3), (23, .aload 0, 1), (24, .iconst 10, 2), (26, .putfield 120, 3), (29, .goto 118, 3), (32, .iload 1, 1), (33, .iconst 109, 2), (35, .if_icmp .ne 59, 3), (38, .iload 2, 1), (39, .iconst 97, 2), (41, .if_icmp .ne 59, 3), (44, .iload 3, 1), (45, .iconst 120, 2), (47, .if_icmp .ne 59, 3), (50, .aload 0, 1), (51, .iconst 11, 2), (53, .putfield 120, 3), (56, .goto 118, 3), (59, .iload 1, 1), (60, .iconst 100, 2), (62, .if_icmp .ne 86, 3), (65, .iload 2, 1), (66, .iconst 105, 2), (68, .if_icmp .ne 86, 3), (71, .iload 3, 1), (72, .iconst 118, 2), (74, .if_icmp .ne 86, 3), (77, .aload 0, 1), (78, .iconst 12, 2), (80, .putfield 120, 3), (83, .goto 118, 3), (86, .iload 1, 1), (87, .iconst 109, 2), (89, .if_icmp .ne 113, 3), (92, .iload 2, 1), (93, .iconst 111, 2), (95, .if_icmp .ne 113, 3), (98, .iload 3, 1), (99, .iconst 100, 2), (101, .if_icmp .ne 113, 3), (104, .aload 0, 1), (105, .iconst 13, 2), (107, .putfield 120, 3), (110, .goto 118, 3), (113, .aload 0, 1), (114, .iconst 3, 1), (115, .putfield 88, 3), (118, .return_, 1)]
def jcX8_digits : List (Nat × Instr × Nat) := [(0, .aload 0, 1), (1, .iconst 1, 1), (2, .putfield 88, 3), (5, .aload 0, 1), (6, .iconst 1, 1), (7, .putfield 120, 3), (10, .aload 0, 1), (11, .iload 1, 1), (12, .iconst 48, 2), (14, .isub, 1), (15, .putfield 136, 3), (18, .aload 0, 1), (19, .getfield 56, 3), (22, .aload 0, 1), (23, .getfield 24, 3), (26, .if_icmp .ge 81, 3), (29, .aload 0, 1), (30, .getfield 32212787208, 3), (33, .aload 0, 1), (34, .getfield 56, 3), (37, .iaload, 1), (38, .invokestatic 16822612, 3), (41, .ifCond .eq 81, 3), (44, .aload 0, 1), (45, .aload 0, 1), (46, .getfield 136, 3), (49, .iconst 10, 2), (51, .imul, 1), (52, .aload 0, 1), (53, .getfield 32212787208, 3), (56, .aload 0, 1), (57, .getfield 56, 3), (60, .iaload, 1), (61, .iadd, 1), (62, .iconst 48, 2), (64, .isub, 1), (65, .putfield 136, 3), (68, .aload 0, 1), (69, .dup, 1), (70, .getfield 56, 3), (73, .iconst 1, 1), (74, .iadd, 1), (75, .putfield 56, 3), (78, .goto 18, 3), (81, .aload 0, 1), (82, .getfield 56, 3), (85, .aload 0, 1), (86, .getfield 104, 3), (89, .isub, 1), (90, .iconst 4, 1), (91, .if_icmp .le 99, 3), (94, .aload 0, 1), (95, .iconst 3, 1), (96, .putfield 88, 3), (99, .return_, 1)]
def jcX8_isLetter : List (Nat × Instr × Nat) := [(0, .iload 0, 1), (1, .iconst 97, 2), (3, .if_icmp .lt 16, 3), (6, .iload 0, 1), (7, .iconst 122, 2), (9, .if_icmp .gt 16, 3), (12, .iconst 1, 1), (13, .goto 17, 3), (16, .iconst 0, 1), (17, .ireturn, 1)]
def jcX8_isDigit : List (Nat × Instr × Nat) := [(0, .iload 0, 1), (1, .iconst 48, 2), (3, .if_icmp .lt 16, 3), (6, .iload 0, 1), (7, .iconst 57, 2), (9, .if_icmp .gt 16, 3), (12, .iconst 1, 1), (13, .goto 17, 3), (16, .iconst 0, 1), (17, .ireturn, 1)]
def jcX8_isSign : List (Nat × Instr × Nat) := [(0, .iload 0, 1), (1, .lookupswitch 94 #[(40, 92), (41, 92), (42, 92), (43, 92), (44, 92), (45, 92), (58, 92), (60, 92), (63, 92), (124, 92)], 91), (92, .iconst 1, 1), (93, .ireturn, 1), (94, .iconst 0, 1), (95, .ireturn, 1)]
def jcX9_init : List (Nat × Instr × Nat) := [(0, .aload 0, 1), (1, .pop, 3), (4, .aload 0, 1), (5, .iconst 160, 3), (8, .newarray .long, 2), (10, .putfield 85899894793, 3), (13, .aload 0, 1), (14, .iconst 4, 1), (15, .newarray .int, 2), (17, .putfield 2148540441, 3), (20, .aload 0, 1), (21, .iconst 0, 1), (22, .putfield 41, 3), (25, .aload 0, 1), (26, .iconst (-1), 1), (27, .putfield 57, 3), (30, .aload 0, 1), (31, .iconst 0, 1), (32, .putfield 73, 3), (35, .aload 0, 1), (36, .iconst (-1), 1), (37, .putfield 89, 3), (40, .aload 0, 1), (41, .iconst (-1), 1), (42, .putfield 105, 3), (45, .return_, 1)]
def jcX9_burdenOf : List (Nat × Instr × Nat) := [(0, .aload 1, 1), (1, .getfield 34360811568, 3), (4, .iload 2, 1), (5, .laload, 1), (6, .sipush (-1), 3), (9, .multianewarray 0 20, 4), (13, .aload 1, 1), (14, .getfield 34360811568, 3), (17, .iload 2, 1), (18, .laload, 1), (19, .lreturn, 1), (20, .aload 0, 1), (21, .aload 1, 1), (22, .iconst 0, 1), (23, .iload 2, 1), (24, .iconst 0, 1), (25, .invokestatic 52929880, 3), (28, .lstore 3, 1), (29, .lload 3, 1), (30, .sipush (-4611686018427387904), 3), (33, .multianewarray 1 43, 4), (37, .sipush (-4611686018427387904), 3), (40, .goto 48, 3), (43, .lload 3, 1), (44, .sipush 0, 1), (45, .invokestatic 297935605, 3), (48, .lreturn, 1)]
def jcX9_read : List (Nat × Instr × Nat) := [(0, .iload 4, 2), (2, .iconst 4, 1), (3, .if_icmp .lt 10, 3), (6, .sipush (-4611686018427387904), 3), (9, .lreturn, 1), (10, .aload 0, 1), (11, .getfield 2148540441, 3), (14, .iload 4, 2), (16, .iload 2, 1), (17, .iastore, 1), (18, .aload 1, 1), (19, .getfield 2149621840, 3), (22, .iload 2, 1), (23, .aaload, 1), (24, .astore 5, 2), (26, .iload 4, 2), (28, .iconst 40, 2), (30, .imul, 1), (31, .istore 6, 2), (33, .aload 0, 1), (34, .getfield 85899894793, 3), (37, .iload 6, 2), (39, .sipush 0, 1), (40, .lastore, 1), (41, .iload 6, 2), (43, .istore 7, 2), (45, .iconst 0, 1), (46, .istore 8, 2), (48, .iconst 0, 1), (49, .istore 9, 2), (51, .iload 9, 2), (53, .aload 5, 2), (55, .getfield 22, 3), (58, .if_icmp .ge 370, 3), (61, .iload 8, 2), (63, .aload 5, 2), (65, .getfield 22, 3), (68, .if_icmp .ge 370, 3), (71, .aload 5, 2), (73, .getfield 21475368998, 3), (76, .iload 8, 2), (78, .iaload, 1), (79, .istore 10, 2), (81, .aload 5, 2), (83, .getfield 21475893302, 3), (86, .iload 8, 2), (88, .iaload, 1), (89, .istore 11, 2), (91, .aload 5, 2), (93, .getfield 21476417606, 3), (96, .iload 8, 2), (98, .iaload, 1), (99, .istore 12, 2), (101, .iinc 8 1, 3), (104, .iload 10, 2), (106, .iconst 4, 1), (107, .if_icmp .gt 171, 3), (110, .aload 0, 1), (111, .getfield 85899894793, 3), (114, .iload 7, 2), (116, .iload 10, 2), (118, .iconst 4, 1), (119, .if_icmp .ne 137, 3), (122, .aload 0, 1), (123, .aload 1, 1), (124, .iload 11, 2), (126, .iload 3, 1), (127, .iload 4, 2), (129, .iconst 1, 1), (130, .iadd, 1), (131, .invokestatic 52929880, 3), (134, .goto 146, 3), (137, .aload 1, 1), (138, .iload 10, 2), (140, .iload 11, 2), (142, .iload 3, 1), (143, .invokestatic 19047513, 3), (146, .lastore, 1), (147, .aload 0, 1), (148, .getfield 85899894793, 3), (151, .iload 7, 2), (153, .laload, 1), (154, .sipush (-4611686018427387904), 3), (157, .multianewarray 1 165, 4), (161, .sipush (-4611686018427387904), 3), (164, .lreturn, 1), (165, .iinc 7 1, 3), (168, .goto 364, 3), (171, .iload 10, 2), (173, .iconst 15, 2), (175, .if_icmp .ne 185, 3), (178, .iload 11, 2), (180, .istore 8, 2), (182, .goto 364, 3), (185, .iload 10, 2), (187, .iconst 5, 1), (188, .if_icmp .ne 213, 3), (191, .aload 0, 1), (192, .getfield 85899894793, 3), (195, .iload 7, 2), (197, .iconst 1, 1), (198, .isub, 1), (199, .aload 0, 1), (200, .getfield 85899894793, 3), (203, .iload 7, 2), (205, .iconst 1, 1), (206, .isub, 1), (207, .laload, 1), (208, .lneg, 1), (209, .lastore, 1), (210, .goto 364, 3), (213, .iload 10, 2), (215, .iconst 6, 2), (217, .if_icmp .ne 244, 3), (220, .aload 0, 1), (221, .getfield 85899894793, 3), (224, .iload 7, 2), (226, .iconst 1, 1), (227, .isub, 1), (228, .aload 0, 1), (229, .getfield 85899894793, 3), (232, .iload 7, 2), (234, .iconst 1, 1), (235, .isub, 1), (236, .laload, 1), (237, .invokestatic 297869812, 3), (240, .lastore, 1), (241, .goto 364, 3), (244, .iload 10, 2), (246, .iconst 14, 2), (248, .if_icmp .ne 286, 3), (251, .iinc 7 (-2), 3), (254, .aload 0, 1), (255, .getfield 85899894793, 3), (258, .iload 7, 2), (260, .laload, 1), (261, .aload 0, 1), (262, .getfield 85899894793, 3), (265, .iload 7, 2), (267, .iconst 1, 1), (268, .iadd, 1), (269, .laload, 1), (270, .multianewarray 3 279, 4), (274, .iload 8, 2), (276, .goto 281, 3), (279, .iload 11, 2), (281, .istore 8, 2), (283, .goto 364, 3), (286, .iinc 7 (-1), 3), (289, .iload 10, 2), (291, .aload 0, 1), (292, .getfield 85899894793, 3), (295, .iload 7, 2), (297, .iconst 1, 1), (298, .isub, 1), (299, .laload, 1), (300, .aload 0, 1), (301, .getfield 85899894793, 3), (304, .iload 7, 2), (306, .laload, 1), (307, .invokestatic 19047258, 3), (310, .lstore 13, 2), (312, .lload 13, 2), (314, .sipush (-1000000000), 3), (317, .multianewarray 2 330, 4), (321, .lload 13, 2), (323, .sipush 1000000000, 3), (326, .multianewarray 5 353, 4), (330, .aload 0, 1), (331, .lload 13, 2), (333, .sipush (-4611686018427387904), 3), (336, .multianewarray 1 344, 4), (340, .iconst 1, 1), (341, .goto 345, 3), (344, .iconst 2, 1), (345, .iload 12, 2), (347, .iload 4, 2), (349, .invokestatic 52569179, 3), (352, .lreturn, 1), (353, .aload 0, 1), (354, .getfield 85899894793, 3), (357, .iload 7, 2), (359, .iconst 1, 1), (360, .isub, 1), (361, .lload 13, 2), (363, .lastore, 1), (364, .iinc 9 1, 3), (367, .goto 51, 3), (370, .aload 0, 1), (371, .getfield 85899894793, 3), (374, .iload 6, 2), (376, .laload, 1), (377, .lreturn, 1)]
def jcX9_leaf : List (Nat × Instr × Nat) := [(0, .iload 1, 1), (1, .iconst 1, 1), (2, .if_icmp .ne 8, 3), (5, .iload 2, 1), (6, .i2l, 1), (7, .lreturn, 1), (8, .iload 1, 1), (9, .iconst 2, 1), (10, .if_icmp .ne 20, 3), (13, .iload 3, 1), (14, .iconst 8, 2), (16, .idiv, 1), (17, .goto 27, 3), (20, .iconst 8, 2), (22, .iload 3, 1), (23, .iconst 8, 2), (25, .irem, 1), (26, .iadd, 1), (27, .istore 4, 2), (29, .aload 0, 1), (30, .getfield 25770336288, 3), (33, .iload 4, 2), (35, .iconst 3, 1), (36, .imul, 1), (37, .iload 2, 1), (38, .iadd, 1), (39, .iaload, 1), (40, .i2l, 1), (41, .lreturn, 1)]
def jcX9_join : List (Nat × Instr × Nat) := [(0, .iload 0, 1), (1, .tableswitch 60 7 11 #[36, 40, 44, 48, 54], 35), (36, .lload 1, 1), (37, .lload 3, 1), (38, .ladd, 1), (39, .lreturn, 1), (40, .lload 1, 1), (41, .lload 3, 1), (42, .lsub, 1), (43, .lreturn, 1), (44, .lload 1, 1), (45, .lload 3, 1), (46, .lmul, 1), (47, .lreturn, 1), (48, .lload 1, 1), (49, .lload 3, 1), (50, .invokestatic 297935606, 3), (53, .lreturn, 1), (54, .lload 1, 1), (55, .lload 3, 1), (56, .invokestatic 297935605, 3), (59, .lreturn, 1), (60, .lload 3, 1), (61, .sipush 0, 1), (62, .multianewarray 1 70, 4), (66, .sipush (-4611686018427387904), 3), (69, .lreturn, 1), (70, .iload 0, 1), (71, .iconst 12, 2), (73, .if_icmp .ne 84, 3), (76, .lload 1, 1), (77, .lload 3, 1), (78, .invokestatic 298001138, 3), (81, .goto 89, 3), (84, .lload 1, 1), (85, .lload 3, 1), (86, .invokestatic 298001139, 3), (89, .lreturn, 1)]
def jcX9_fail : List (Nat × Instr × Nat) := [(0, .aload 0, 1), (1, .iload 1, 1), (2, .putfield 41, 3), (5, .aload 0, 1), (6, .iload 2, 1), (7, .putfield 57, 3), (10, .aload 0, 1), (11, .iload 3, 1), (12, .iconst 1, 1), (13, .iadd, 1), (14, .putfield 73, 3), (17, .aload 0, 1), (18, .aload 0, 1), (19, .getfield 2148540441, 3), (22, .iload 3, 1), (23, .iaload, 1), (24, .putfield 89, 3), (27, .aload 0, 1), (28, .iload 3, 1), (29, .ifCond .le 43, 3), (32, .aload 0, 1), (33, .getfield 2148540441, 3), (36, .iload 3, 1), (37, .iconst 1, 1), (38, .isub, 1), (39, .iaload, 1), (40, .goto 44, 3), (43, .iconst (-1), 1), (44, .putfield 105, 3), (47, .sipush (-4611686018427387904), 3), (50, .lreturn, 1)]
def jcX10_init : List (Nat × Instr × Nat) := [(0, .aload 0, 1), (1, .pop, 3), (4, .aload 0, 1), (5, .new 0, 3), (8, .dup, 1), (9, .invokestatic 11475681536, 3), (12, .putfield 530442, 3), (15, .aload 0, 1), (16, .new 0, 3), (19, .dup, 1), (20, .invokestatic 11475681536, 3), (23, .putfield 12064794, 3), (26, .aload 0, 1), (27, .iconst 0, 1), (28, .putfield 4138, 3), (31, .aload 0, 1), (32, .new 8, 3), (35, .dup, 1), (36, .invokestatic 2902491458, 3), (39, .putfield 23730234, 3), (42, .aload 0, 1), (43, .new 9, 3), (46, .dup, 1), (47, .invokestatic 1293975894, 3), (50, .putfield 26892362, 3), (53, .aload 0, 1), (54, .new 4, 3), (57, .dup, 1), (58, .invokestatic 3967844634, 3), (61, .putfield 28383322, 3), (64, .aload 0, 1), (65, .new 4, 3), (68, .dup, 1), (69, .invokestatic 3967844634, 3), (72, .putfield 32577642, 3), (75, .aload 0, 1), (76, .new 2, 3), (79, .dup, 1), (80, .invokestatic 2353037582, 3), (83, .putfield 36739194, 3), (86, .aload 0, 1), (87, .new 5, 3), (90, .dup, 1), (91, .invokestatic 2896199983, 3), (94, .putfield 39409802, 3), (97, .aload 0, 1), (98, .new 3, 3), (101, .dup, 1), (102, .invokestatic 3965747475, 3), (105, .putfield 42522778, 3), (108, .aload 0, 1), (109, .new 1, 3), (112, .dup, 1), (113, .invokestatic 2350940427, 3), (116, .putfield 46684330, 3), (119, .aload 0, 1), (120, .iconst 8, 2), (122, .newarray .int, 2), (124, .putfield 4344258746, 3), (127, .aload 0, 1), (128, .iconst 0, 1), (129, .putfield 4298, 3), (132, .aload 0, 1), (133, .iconst 0, 1), (134, .putfield 4314, 3), (137, .aload 0, 1), (138, .iconst 0, 1), (139, .putfield 4330, 3), (142, .aload 0, 1), (143, .iconst 0, 1), (144, .putfield 4346, 3), (147, .aload 0, 1), (148, .iconst 4, 1), (149, .anewarray 3, 3), (152, .putfield 2197348618, 3), (155, .iconst 0, 1), (156, .istore 1, 1), (157, .iload 1, 1), (158, .iconst 4, 1), (159, .if_icmp .ge 181, 3), (162, .aload 0, 1), (163, .getfield 2197348618, 3), (166, .iload 1, 1), (167, .new 7, 3), (170, .dup, 1), (171, .invokestatic 752910654, 3), (174, .aastore, 1), (175, .iinc 1 1, 3), (178, .goto 157, 3), (181, .return_, 1)]
def jcX10_here : List (Nat × Instr × Nat) := [(0, .iload 1, 1), (1, .invokestatic 21016961, 3), (4, .ifCond .eq 23, 3), (7, .iload 2, 1), (8, .invokestatic 21016962, 3), (11, .ifCond .eq 23, 3), (14, .iload 3, 1), (15, .ifCond .lt 23, 3), (18, .iload 3, 1), (19, .iconst 1, 1), (20, .if_icmp .le 26, 3), (23, .iconst (-2), 2), (25, .ireturn, 1), (26, .aload 0, 1), (27, .invokestatic 54559110, 3), (30, .aload 0, 1), (31, .getfield 530442, 3), (34, .iload 1, 1), (35, .iload 2, 1), (36, .iload 3, 1), (37, .invokestatic 33756162, 3), (40, .ireturn, 1)]
def jcX10_trait : List (Nat × Instr × Nat) := [(0, .iload 1, 1), (1, .invokestatic 21016961, 3), (4, .ifCond .eq 23, 3), (7, .iload 2, 1), (8, .invokestatic 21016962, 3), (11, .ifCond .eq 23, 3), (14, .iload 3, 1), (15, .ifCond .lt 23, 3), (18, .iload 3, 1), (19, .iconst 3, 1), (20, .if_icmp .lt 26, 3), (23, .iconst (-2), 2), (25, .ireturn, 1), (26, .iload 4, 2), (28, .iconst (-999), 3), (31, .if_icmp .lt 42, 3), (34, .iload 4, 2), (36, .iconst 999, 3), (39, .if_icmp .le 45, 3), (42, .iconst (-2), 2), (44, .ireturn, 1), (45, .iload 1, 1), (46, .iconst 8, 2), (48, .imul, 1), (49, .iload 2, 1), (50, .iadd, 1), (51, .iconst 3, 1), (52, .imul, 1), (53, .iload 3, 1), (54, .iadd, 1), (55, .istore 5, 2), (57, .aload 0, 1), (58, .getfield 530442, 3), (61, .getfield 25770336288, 3), (64, .iload 5, 2), (66, .iaload, 1), (67, .istore 6, 2), (69, .aload 0, 1), (70, .getfield 530442, 3), (73, .getfield 25770336288, 3), (76, .iload 5, 2), (78, .iload 4, 2), (80, .iastore, 1), (81, .aload 0, 1), (82, .invokestatic 54559110, 3), (85, .iload 6, 2), (87, .ireturn, 1)]
def jcX10_tell : List (Nat × Instr × Nat) := [(0, .iload 1, 1), (1, .iload 2, 1), (2, .invokestatic 21049987, 3), (5, .ifCond .eq 24, 3), (8, .lload 3, 1), (9, .sipush (-1), 3), (12, .multianewarray 2 24, 4), (16, .lload 3, 1), (17, .sipush 1000000000, 3), (20, .multianewarray 5 28, 4), (24, .sipush (-2), 3), (27, .lreturn, 1), (28, .aload 0, 1), (29, .getfield 530442, 3), (32, .getfield 34360811568, 3), (35, .iload 1, 1), (36, .iconst 8, 2), (38, .imul, 1), (39, .iload 2, 1), (40, .iadd, 1), (41, .lload 3, 1), (42, .lastore, 1), (43, .aload 0, 1), (44, .invokestatic 54559110, 3), (47, .aload 0, 1), (48, .invokestatic 54559111, 3), (51, .aload 0, 1), (52, .getfield 28383322, 3), (55, .getfield 137441075300, 3), (58, .iconst 0, 1), (59, .laload, 1), (60, .lreturn, 1)]
def jcX10_burden : List (Nat × Instr × Nat) := [(0, .iload 1, 1), (1, .iload 2, 1), (2, .invokestatic 21049987, 3), (5, .ifCond .ne 12, 3), (8, .sipush (-4611686018427387904), 3), (11, .lreturn, 1), (12, .aload 0, 1), (13, .getfield 26892362, 3), (16, .aload 0, 1), (17, .getfield 530442, 3), (20, .iload 1, 1), (21, .iconst 8, 2), (23, .imul, 1), (24, .iload 2, 1), (25, .iadd, 1), (26, .invokestatic 52601687, 3), (29, .lreturn, 1)]
def jcX10_mark : List (Nat × Instr × Nat) := [(0, .iload 1, 1), (1, .iload 2, 1), (2, .invokestatic 21049987, 3), (5, .ifCond .eq 17, 3), (8, .iload 3, 1), (9, .ifCond .lt 17, 3), (12, .iload 3, 1), (13, .iconst 2, 1), (14, .if_icmp .le 20, 3), (17, .iconst (-2), 2), (19, .ireturn, 1), (20, .iload 1, 1), (21, .iconst 8, 2), (23, .imul, 1), (24, .iload 2, 1), (25, .iadd, 1), (26, .istore 4, 2), (28, .iload 3, 1), (29, .iconst 2, 1), (30, .if_icmp .ne 48, 3), (33, .aload 0, 1), (34, .getfield 530442, 3), (37, .iload 4, 2), (39, .invokestatic 33698308, 3), (42, .ifCond .eq 48, 3), (45, .iconst (-3), 2), (47, .ireturn, 1), (48, .aload 0, 1), (49, .getfield 530442, 3), (52, .getfield 34361319488, 3), (55, .iload 4, 2), (57, .iaload, 1), (58, .istore 5, 2), (60, .aload 0, 1), (61, .getfield 530442, 3), (64, .getfield 34361319488, 3), (67, .iload 4, 2), (69, .iload 3, 1), (70, .iastore, 1), (71, .aload 0, 1), (72, .invokestatic 54559110, 3), (75, .iload 5, 2), (77, .ireturn, 1)]
def jcX10_open : List (Nat × Instr × Nat) := [(0, .iload 1, 1), (1, .iload 2, 1), (2, .invokestatic 21049987, 3), (5, .ifCond .ne 11, 3), (8, .iconst (-2), 2), (10, .ireturn, 1), (11, .aload 0, 1), (12, .invokestatic 54559111, 3), (15, .aload 0, 1), (16, .getfield 28383322, 3), (19, .iload 1, 1), (20, .iload 2, 1), (21, .invokestatic 42054431, 3), (24, .ifCond .eq 31, 3), (27, .iconst 1, 1), (28, .goto 32, 3), (31, .iconst 0, 1), (32, .ireturn, 1)]
def jcX10_feed : List (Nat × Instr × Nat) := [(0, .iload 1, 1), (1, .ifCond .lt 11, 3), (4, .iload 1, 1), (5, .iconst 255, 3), (8, .if_icmp .le 14, 3), (11, .iconst (-2), 2), (13, .ireturn, 1), (14, .aload 0, 1), (15, .getfield 23730234, 3), (18, .iload 1, 1), (19, .invokestatic 50410051, 3), (22, .ifCond .eq 35, 3), (25, .aload 0, 1), (26, .getfield 23730234, 3), (29, .getfield 24, 3), (32, .goto 37, 3), (35, .iconst (-4), 2), (37, .ireturn, 1)]
def jcX10_text : List (Nat × Instr × Nat) := [(0, .iload 1, 1), (1, .invokestatic 21016964, 3), (4, .ifCond .ne 10, 3), (7, .iconst (-2), 2), (9, .ireturn, 1), (10, .aload 0, 1), (11, .getfield 23730234, 3), (14, .invokestatic 50368836, 3), (17, .istore 2, 1), (18, .aload 0, 1), (19, .getfield 23730234, 3), (22, .iconst 0, 1), (23, .putfield 24, 3), (26, .iload 2, 1), (27, .iconst (-1), 1), (28, .if_icmp .eq 36, 3), (31, .iconst (-100), 2), (33, .iload 2, 1), (34, .isub, 1), (35, .ireturn, 1), (36, .aload 0, 1), (37, .getfield 530442, 3), (40, .getfield 2149621840, 3), (43, .iload 1, 1), (44, .aaload, 1), (45, .astore 3, 1), (46, .aload 0, 1), (47, .getfield 530442, 3), (50, .getfield 2149621840, 3), (53, .iload 1, 1), (54, .aload 0, 1), (55, .getfield 23730234, 3), (58, .getfield 108584, 3), (61, .aastore, 1), (62, .aload 0, 1), (63, .getfield 530442, 3), (66, .iload 1, 1), (67, .invokestatic 33657354, 3), (70, .istore 4, 2), (72, .iload 4, 2), (74, .ifCond .eq 90, 3), (77, .aload 0, 1), (78, .getfield 530442, 3), (81, .getfield 2149621840, 3), (84, .iload 1, 1), (85, .aload 3, 1), (86, .aastore, 1), (87, .iload 4, 2), (89, .ireturn, 1), (90, .aload 0, 1), (91, .getfield 23730234, 3), (94, .aload 3, 1), (95, .putfield 108584, 3), (98, .aload 0, 1), (99, .invokestatic 54559110, 3), (102, .aload 0, 1), (103, .getfield 530442, 3), (106, .getfield 2149621840, 3), (109, .iload 1, 1), (110, .aaload, 1), (111, .getfield 6, 3), (114, .ireturn, 1)]
def jcX10_empty : List (Nat × Instr × Nat) := [(0, .iload 1, 1), (1, .invokestatic 21016964, 3), (4, .ifCond .ne 10, 3), (7, .iconst (-2), 2), (9, .ireturn, 1), (10, .aload 0, 1), (11, .getfield 530442, 3), (14, .getfield 2149621840, 3), (17, .iload 1, 1), (18, .aaload, 1), (19, .getfield 6, 3), (22, .istore 2, 1), (23, .aload 0, 1), (24, .getfield 530442, 3), (27, .getfield 2149621840, 3), (30, .iload 1, 1), (31, .aaload, 1), (32, .invokestatic 46170424, 3), (35, .aload 0, 1), (36, .invokestatic 54559110, 3), (39, .iload 2, 1), (40, .ireturn, 1)]
def jcX10_told : List (Nat × Instr × Nat) := [(0, .iload 1, 1), (1, .invokestatic 21016964, 3), (4, .ifCond .ne 10, 3), (7, .iconst (-2), 2), (9, .ireturn, 1), (10, .iload 2, 1), (11, .tableswitch 105 0 4 #[44, 57, 74, 87, 96], 33), (44, .aload 0, 1), (45, .getfield 530442, 3), (48, .getfield 2149621840, 3), (51, .iload 1, 1), (52, .aaload, 1), (53, .getfield 6, 3), (56, .ireturn, 1), (57, .aload 0, 1), (58, .getfield 530442, 3), (61, .invokestatic 33653001, 3), (64, .aload 0, 1), (65, .getfield 530442, 3), (68, .getfield 2150113376, 3), (71, .iload 1, 1), (72, .iaload, 1), (73, .ireturn, 1), (74, .aload 0, 1), (75, .getfield 530442, 3), (78, .getfield 2149621840, 3), (81, .iload 1, 1), (82, .aaload, 1), (83, .invokestatic 46240060, 3), (86, .ireturn, 1), (87, .aload 0, 1), (88, .getfield 530442, 3), (91, .iload 1, 1), (92, .invokestatic 33690119, 3), (95, .ireturn, 1), (96, .aload 0, 1), (97, .getfield 530442, 3), (100, .iload 1, 1), (101, .invokestatic 33722888, 3), (104, .ireturn, 1), (105, .iconst (-2), 2), (107, .ireturn, 1)]
def jcX10_value : List (Nat × Instr × Nat) := [(0, .iload 1, 1), (1, .invokestatic 21016964, 3), (4, .ifCond .eq 15, 3), (7, .iload 2, 1), (8, .iload 3, 1), (9, .invokestatic 21049987, 3), (12, .ifCond .ne 19, 3), (15, .sipush (-4611686018427387904), 3), (18, .lreturn, 1), (19, .aload 0, 1), (20, .getfield 26892362, 3), (23, .aload 0, 1), (24, .getfield 530442, 3), (27, .iload 1, 1), (28, .iload 2, 1), (29, .iconst 8, 2), (31, .imul, 1), (32, .iload 3, 1), (33, .iadd, 1), (34, .iconst 0, 1), (35, .invokestatic 52929880, 3), (38, .lreturn, 1)]
def jcX10_why : List (Nat × Instr × Nat) := [(0, .iload 1, 1), (1, .iload 2, 1), (2, .invokestatic 21049987, 3), (5, .ifCond .eq 17, 3), (8, .iload 3, 1), (9, .ifCond .lt 17, 3), (12, .iload 3, 1), (13, .iconst 4, 1), (14, .if_icmp .le 20, 3), (17, .iconst (-2), 2), (19, .ireturn, 1), (20, .aload 0, 1), (21, .getfield 26892362, 3), (24, .aload 0, 1), (25, .getfield 530442, 3), (28, .iconst 0, 1), (29, .iload 1, 1), (30, .iconst 8, 2), (32, .imul, 1), (33, .iload 2, 1), (34, .iadd, 1), (35, .iconst 0, 1), (36, .invokestatic 52929880, 3), (39, .sipush (-4611686018427387904), 3), (42, .multianewarray 1 50, 4), (46, .iconst 1, 1), (47, .goto 51, 3), (50, .iconst 0, 1), (51, .istore 4, 2), (53, .iload 4, 2), (55, .ifCond .ne 68, 3), (58, .iload 3, 1), (59, .ifCond .ne 66, 3), (62, .iconst 0, 1), (63, .goto 67, 3), (66, .iconst (-1), 1), (67, .ireturn, 1), (68, .iload 3, 1), (69, .tableswitch 132 0 3 #[100, 108, 116, 124], 31), (100, .aload 0, 1), (101, .getfield 26892362, 3), (104, .getfield 41, 3), (107, .ireturn, 1), (108, .aload 0, 1), (109, .getfield 26892362, 3), (112, .getfield 57, 3), (115, .ireturn, 1), (116, .aload 0, 1), (117, .getfield 26892362, 3), (120, .getfield 73, 3), (123, .ireturn, 1), (124, .aload 0, 1), (125, .getfield 26892362, 3), (128, .getfield 89, 3), (131, .ireturn, 1), (132, .aload 0, 1), (133, .getfield 26892362, 3), (136, .getfield 105, 3), (139, .ireturn, 1)]
def jcX10_solve : List (Nat × Instr × Nat) := [(0, .aload 0, 1), (1, .invokestatic 54559111, 3), (4, .aload 0, 1), (5, .getfield 39409802, 3), (8, .aload 0, 1), (9, .getfield 28383322, 3), (12, .aload 0, 1), (13, .getfield 36739194, 3), (16, .invokestatic 44270384, 3), (19, .aload 0, 1), (20, .getfield 39409802, 3), (23, .getfield 5, 3), (26, .ireturn, 1)]
def jcX10_round : List (Nat × Instr × Nat) := [(0, .iload 2, 1), (1, .ifCond .lt 25, 3), (4, .iload 2, 1), (5, .iconst 6, 2), (7, .if_icmp .ge 25, 3), (10, .iload 1, 1), (11, .ifCond .lt 25, 3), (14, .iload 1, 1), (15, .aload 0, 1), (16, .getfield 39409802, 3), (19, .getfield 5, 3), (22, .if_icmp .lt 29, 3), (25, .sipush (-4611686018427387904), 3), (28, .lreturn, 1), (29, .aload 0, 1), (30, .getfield 39409802, 3), (33, .getfield 206158979093, 3), (36, .iload 1, 1), (37, .iconst 6, 2), (39, .imul, 1), (40, .iload 2, 1), (41, .iadd, 1), (42, .laload, 1), (43, .lreturn, 1)]
def jcX10_price : List (Nat × Instr × Nat) := [(0, .iload 2, 1), (1, .invokestatic 21016961, 3), (4, .ifCond .eq 29, 3), (7, .iload 3, 1), (8, .invokestatic 21016962, 3), (11, .ifCond .eq 29, 3), (14, .iload 1, 1), (15, .ifCond .lt 29, 3), (18, .iload 1, 1), (19, .aload 0, 1), (20, .getfield 39409802, 3), (23, .getfield 5, 3), (26, .if_icmp .lt 33, 3), (29, .sipush (-4611686018427387904), 3), (32, .lreturn, 1), (33, .aload 0, 1), (34, .getfield 39409802, 3), (37, .getfield 549756887077, 3), (40, .iload 1, 1), (41, .iconst 2, 1), (42, .imul, 1), (43, .iload 2, 1), (44, .iadd, 1), (45, .iconst 8, 2), (47, .imul, 1), (48, .iload 3, 1), (49, .iadd, 1), (50, .laload, 1), (51, .lreturn, 1)]
def jcX10_total : List (Nat × Instr × Nat) := [(0, .aload 0, 1), (1, .invokestatic 54559111, 3), (4, .aload 0, 1), (5, .getfield 28383322, 3), (8, .getfield 137441075300, 3), (11, .iconst 0, 1), (12, .laload, 1), (13, .lreturn, 1)]
def jcX10_many : List (Nat × Instr × Nat) := [(0, .aload 0, 1), (1, .invokestatic 54559111, 3), (4, .aload 0, 1), (5, .getfield 28383322, 3), (8, .getfield 137441583220, 3), (11, .iconst 0, 1), (12, .iaload, 1), (13, .ireturn, 1)]
def jcX10_best : List (Nat × Instr × Nat) := [(0, .iload 2, 1), (1, .invokestatic 21016962, 3), (4, .ifCond .ne 10, 3), (7, .iconst (-2), 2), (9, .ireturn, 1), (10, .aload 0, 1), (11, .invokestatic 54559111, 3), (14, .iload 1, 1), (15, .ifCond .lt 31, 3), (18, .iload 1, 1), (19, .aload 0, 1), (20, .getfield 28383322, 3), (23, .getfield 137441583220, 3), (26, .iconst 0, 1), (27, .iaload, 1), (28, .if_icmp .lt 34, 3), (31, .iconst (-3), 2), (33, .ireturn, 1), (34, .aload 0, 1), (35, .getfield 28383322, 3), (38, .iload 1, 1), (39, .aload 0, 1), (40, .getfield 4344258746, 3), (43, .invokestatic 42238761, 3), (46, .aload 0, 1), (47, .getfield 4344258746, 3), (50, .iload 2, 1), (51, .iaload, 1), (52, .ireturn, 1)]
def jcX10_kind : List (Nat × Instr × Nat) := [(0, .iload 1, 1), (1, .iload 2, 1), (2, .invokestatic 21049987, 3), (5, .ifCond .ne 11, 3), (8, .iconst (-2), 2), (10, .ireturn, 1), (11, .aload 0, 1), (12, .invokestatic 54559112, 3), (15, .aload 0, 1), (16, .getfield 28383322, 3), (19, .getfield 137441583220, 3), (22, .iconst 0, 1), (23, .iaload, 1), (24, .istore 3, 1), (25, .iload 3, 1), (26, .ifCond .ne 32, 3), (29, .iconst (-3), 2), (31, .ireturn, 1), (32, .aload 0, 1), (33, .getfield 28383322, 3), (36, .getfield 34363416724, 3), (39, .iload 1, 1), (40, .iconst 8, 2), (42, .imul, 1), (43, .iload 2, 1), (44, .iadd, 1), (45, .iaload, 1), (46, .istore 4, 2), (48, .iload 4, 2), (50, .ifCond .ne 55, 3), (53, .iconst 0, 1), (54, .ireturn, 1), (55, .iload 4, 2), (57, .iload 3, 1), (58, .if_icmp .ne 65, 3), (61, .iconst 2, 1), (62, .goto 66, 3), (65, .iconst 1, 1), (66, .ireturn, 1)]
def jcX10_room : List (Nat × Instr × Nat) := [(0, .iload 1, 1), (1, .iload 2, 1), (2, .invokestatic 21049987, 3), (5, .ifCond .eq 17, 3), (8, .iload 3, 1), (9, .ifCond .lt 17, 3), (12, .iload 3, 1), (13, .iconst 1, 1), (14, .if_icmp .le 21, 3), (17, .sipush (-4611686018427387904), 3), (20, .lreturn, 1), (21, .aload 0, 1), (22, .invokestatic 54559111, 3), (25, .iload 3, 1), (26, .ifCond .ne 45, 3), (29, .aload 0, 1), (30, .getfield 28383322, 3), (33, .iload 1, 1), (34, .iload 2, 1), (35, .invokestatic 42054431, 3), (38, .ifCond .ne 45, 3), (41, .sipush (-4611686018427387904), 3), (44, .lreturn, 1), (45, .aload 0, 1), (46, .getfield 32577642, 3), (49, .aload 0, 1), (50, .getfield 28383322, 3), (53, .invokestatic 42009116, 3), (56, .iconst 1, 1), (57, .iload 1, 1), (58, .ishl, 1), (59, .istore 4, 2), (61, .iload 3, 1), (62, .ifCond .ne 79, 3), (65, .aload 0, 1), (66, .getfield 32577642, 3), (69, .getfield 4296548436, 3), (72, .iload 2, 1), (73, .iload 4, 2), (75, .iastore, 1), (76, .goto 95, 3), (79, .aload 0, 1), (80, .getfield 32577642, 3), (83, .getfield 4296548436, 3), (86, .iload 2, 1), (87, .dup2, 1), (88, .iaload, 1), (89, .iload 4, 2), (91, .iconst (-1), 1), (92, .ixor, 1), (93, .iand, 1), (94, .iastore, 1), (95, .aload 0, 1), (96, .getfield 32577642, 3), (99, .iconst 0, 1), (100, .invokestatic 42074660, 3), (103, .aload 0, 1), (104, .getfield 32577642, 3), (107, .getfield 137441075300, 3), (110, .iconst 0, 1), (111, .laload, 1), (112, .lreturn, 1)]
def jcX10_next : List (Nat × Instr × Nat) := [(0, .iload 1, 1), (1, .ifCond .lt 21, 3), (4, .iload 1, 1), (5, .iconst 12, 2), (7, .if_icmp .ge 21, 3), (10, .iload 2, 1), (11, .iconst (-1), 1), (12, .if_icmp .lt 21, 3), (15, .iload 2, 1), (16, .iconst 8, 2), (18, .if_icmp .lt 25, 3), (21, .sipush (-4611686018427387904), 3), (24, .lreturn, 1), (25, .aload 0, 1), (26, .invokestatic 54559113, 3), (29, .iload 1, 1), (30, .aload 0, 1), (31, .getfield 42522778, 3), (34, .getfield 137439485955, 3), (37, .iconst 0, 1), (38, .iaload, 1), (39, .if_icmp .lt 46, 3), (42, .sipush (-4611686018427387904), 3), (45, .lreturn, 1), (46, .iload 2, 1), (47, .iconst (-1), 1), (48, .if_icmp .ne 63, 3), (51, .aload 0, 1), (52, .getfield 42522778, 3), (55, .getfield 1649268514835, 3), (58, .iload 1, 1), (59, .laload, 1), (60, .goto 78, 3), (63, .aload 0, 1), (64, .getfield 42522778, 3), (67, .getfield 51543285859, 3), (70, .iload 1, 1), (71, .iconst 8, 2), (73, .imul, 1), (74, .iload 2, 1), (75, .iadd, 1), (76, .iaload, 1), (77, .i2l, 1), (78, .lreturn, 1)]
def jcX10_fair : List (Nat × Instr × Nat) := [(0, .iload 1, 1), (1, .ifCond .lt 9, 3), (4, .iload 1, 1), (5, .iconst 2, 1), (6, .if_icmp .le 13, 3), (9, .sipush (-4611686018427387904), 3), (12, .lreturn, 1), (13, .aload 0, 1), (14, .invokestatic 54559111, 3), (17, .aload 0, 1), (18, .getfield 32577642, 3), (21, .aload 0, 1), (22, .getfield 28383322, 3), (25, .invokestatic 42009116, 3), (28, .aload 0, 1), (29, .getfield 32577642, 3), (32, .iconst 1, 1), (33, .invokestatic 42074660, 3), (36, .aload 0, 1), (37, .getfield 32577642, 3), (40, .getfield 137441075300, 3), (43, .iconst 0, 1), (44, .laload, 1), (45, .lstore 2, 1), (46, .lload 2, 1), (47, .sipush (-4611686018427387904), 3), (50, .multianewarray 0 58, 4), (54, .iload 1, 1), (55, .ifCond .ne 60, 3), (58, .lload 2, 1), (59, .lreturn, 1), (60, .iload 1, 1), (61, .iconst 2, 1), (62, .if_icmp .ne 75, 3), (65, .aload 0, 1), (66, .getfield 28383322, 3), (69, .lload 2, 1), (70, .invokestatic 42111523, 3), (73, .i2l, 1), (74, .lreturn, 1), (75, .aload 0, 1), (76, .getfield 32577642, 3), (79, .lload 2, 1), (80, .invokestatic 42074658, 3), (83, .aload 0, 1), (84, .getfield 32577642, 3), (87, .iconst 0, 1), (88, .invokestatic 42074660, 3), (91, .aload 0, 1), (92, .getfield 32577642, 3), (95, .getfield 137441075300, 3), (98, .iconst 0, 1), (99, .laload, 1), (100, .lreturn, 1)]
def jcX10_days : List (Nat × Instr × Nat) := [(0, .iload 1, 1), (1, .iconst 1, 1), (2, .if_icmp .lt 11, 3), (5, .iload 1, 1), (6, .iconst 8, 2), (8, .if_icmp .le 15, 3), (11, .sipush (-4611686018427387904), 3), (14, .lreturn, 1), (15, .aload 0, 1), (16, .invokestatic 54559114, 3), (19, .iload 1, 1), (20, .aload 0, 1), (21, .getfield 46684330, 3), (24, .getfield 1, 3), (27, .if_icmp .le 34, 3), (30, .sipush (-4611686018427387904), 3), (33, .lreturn, 1), (34, .sipush 0, 1), (35, .lstore 2, 1), (36, .iconst 0, 1), (37, .istore 4, 2), (39, .iload 4, 2), (41, .iload 1, 1), (42, .if_icmp .ge 64, 3), (45, .lload 2, 1), (46, .aload 0, 1), (47, .getfield 46684330, 3), (50, .getfield 4295516177, 3), (53, .iload 4, 2), (55, .laload, 1), (56, .ladd, 1), (57, .lstore 2, 1), (58, .iinc 4 1, 3), (61, .goto 39, 3), (64, .lload 2, 1), (65, .lreturn, 1)]
def jcX10_day : List (Nat × Instr × Nat) := [(0, .iload 1, 1), (1, .ifCond .lt 17, 3), (4, .iload 1, 1), (5, .iconst 8, 2), (7, .if_icmp .ge 17, 3), (10, .iload 2, 1), (11, .invokestatic 21016962, 3), (14, .ifCond .ne 20, 3), (17, .iconst (-2), 2), (19, .ireturn, 1), (20, .aload 0, 1), (21, .invokestatic 54559114, 3), (24, .iload 1, 1), (25, .aload 0, 1), (26, .getfield 46684330, 3), (29, .getfield 1, 3), (32, .if_icmp .lt 38, 3), (35, .iconst (-3), 2), (37, .ireturn, 1), (38, .aload 0, 1), (39, .getfield 46684330, 3), (42, .getfield 34360795169, 3), (45, .iload 1, 1), (46, .iconst 8, 2), (48, .imul, 1), (49, .iload 2, 1), (50, .iadd, 1), (51, .iaload, 1), (52, .ireturn, 1)]
def jcX10_lack : List (Nat × Instr × Nat) := [(0, .iload 1, 1), (1, .ifCond .lt 9, 3), (4, .iload 1, 1), (5, .iconst 2, 1), (6, .if_icmp .le 12, 3), (9, .iconst (-2), 2), (11, .ireturn, 1), (12, .aload 0, 1), (13, .invokestatic 54559111, 3), (16, .aload 0, 1), (17, .getfield 36739194, 3), (20, .aload 0, 1), (21, .getfield 28383322, 3), (24, .getfield 4296548436, 3), (27, .aload 0, 1), (28, .getfield 28383322, 3), (31, .getfield 4, 3), (34, .invokestatic 37880591, 3), (37, .iload 1, 1), (38, .ifCond .ne 57, 3), (41, .aload 0, 1), (42, .getfield 28383322, 3), (45, .getfield 20, 3), (48, .aload 0, 1), (49, .getfield 36739194, 3), (52, .getfield 2, 3), (55, .isub, 1), (56, .ireturn, 1), (57, .iload 1, 1), (58, .iconst 1, 1), (59, .if_icmp .ne 72, 3), (62, .aload 0, 1), (63, .getfield 36739194, 3), (66, .getfield 18, 3), (69, .goto 79, 3), (72, .aload 0, 1), (73, .getfield 36739194, 3), (76, .getfield 34, 3), (79, .ireturn, 1)]
def jcX10_without : List (Nat × Instr × Nat) := [(0, .iload 1, 1), (1, .invokestatic 21016961, 3), (4, .ifCond .eq 14, 3), (7, .iload 2, 1), (8, .invokestatic 21016962, 3), (11, .ifCond .ne 18, 3), (14, .sipush (-4611686018427387904), 3), (17, .lreturn, 1), (18, .aload 0, 1), (19, .invokestatic 54559111, 3), (22, .aload 0, 1), (23, .getfield 32577642, 3), (26, .aload 0, 1), (27, .getfield 28383322, 3), (30, .invokestatic 42009116, 3), (33, .iload 1, 1), (34, .ifCond .ne 48, 3), (37, .aload 0, 1), (38, .getfield 32577642, 3), (41, .iload 2, 1), (42, .invokestatic 42041889, 3), (45, .goto 65, 3), (48, .aload 0, 1), (49, .getfield 32577642, 3), (52, .dup, 1), (53, .getfield 4, 3), (56, .iconst 1, 1), (57, .iload 2, 1), (58, .ishl, 1), (59, .iconst (-1), 1), (60, .ixor, 1), (61, .iand, 1), (62, .putfield 4, 3), (65, .aload 0, 1), (66, .getfield 32577642, 3), (69, .iconst 0, 1), (70, .invokestatic 42074660, 3), (73, .aload 0, 1), (74, .getfield 32577642, 3), (77, .getfield 137441075300, 3), (80, .iconst 0, 1), (81, .laload, 1), (82, .lreturn, 1)]
def jcX10_tells : List (Nat × Instr × Nat) := [(0, .iload 1, 1), (1, .invokestatic 21016965, 3), (4, .ifCond .eq 16, 3), (7, .iload 2, 1), (8, .ifCond .lt 16, 3), (11, .iload 2, 1), (12, .iconst 2, 1), (13, .if_icmp .le 20, 3), (16, .sipush (-2), 3), (19, .lreturn, 1), (20, .aload 0, 1), (21, .getfield 2197348618, 3), (24, .iload 1, 1), (25, .aaload, 1), (26, .getfield 7, 3), (29, .iconst (-1), 1), (30, .if_icmp .ne 37, 3), (33, .sipush (-11), 3), (36, .lreturn, 1), (37, .aload 0, 1), (38, .invokestatic 54559111, 3), (41, .aload 0, 1), (42, .getfield 28383322, 3), (45, .aload 0, 1), (46, .getfield 2197348618, 3), (49, .iload 1, 1), (50, .aaload, 1), (51, .aload 0, 1), (52, .getfield 4344258746, 3), (55, .invokestatic 42251052, 3), (58, .ifCond .ne 65, 3), (61, .sipush (-3), 3), (64, .lreturn, 1), (65, .iload 2, 1), (66, .ifCond .ne 81, 3), (69, .aload 0, 1), (70, .getfield 28383322, 3), (73, .aload 0, 1), (74, .getfield 4344258746, 3), (77, .invokestatic 42148397, 3), (80, .lreturn, 1), (81, .iload 2, 1), (82, .iconst 1, 1), (83, .if_icmp .ne 103, 3), (86, .aload 0, 1), (87, .invokestatic 54559113, 3), (90, .aload 0, 1), (91, .getfield 42522778, 3), (94, .aload 0, 1), (95, .getfield 4344258746, 3), (98, .invokestatic 40014361, 3), (101, .i2l, 1), (102, .lreturn, 1), (103, .aload 0, 1), (104, .invokestatic 54559112, 3), (107, .aload 0, 1), (108, .getfield 28383322, 3), (111, .aload 0, 1), (112, .getfield 4344258746, 3), (115, .invokestatic 42111534, 3), (118, .i2l, 1), (119, .lreturn, 1)]
def jcX10_film : List (Nat × Instr × Nat) := [(0, .iload 1, 1), (1, .invokestatic 21016965, 3), (4, .ifCond .ne 10, 3), (7, .iconst (-2), 2), (9, .ireturn, 1), (10, .aload 0, 1), (11, .invokestatic 54559111, 3), (14, .iload 2, 1), (15, .ifCond .lt 31, 3), (18, .iload 2, 1), (19, .aload 0, 1), (20, .getfield 28383322, 3), (23, .getfield 137441583220, 3), (26, .iconst 0, 1), (27, .iaload, 1), (28, .if_icmp .lt 34, 3), (31, .iconst (-3), 2), (33, .ireturn, 1), (34, .aload 0, 1), (35, .getfield 28383322, 3), (38, .iload 2, 1), (39, .aload 0, 1), (40, .getfield 4344258746, 3), (43, .invokestatic 42238761, 3), (46, .aload 0, 1), (47, .getfield 2197348618, 3), (50, .iload 1, 1), (51, .aaload, 1), (52, .astore 3, 1), (53, .aload 3, 1), (54, .iconst 0, 1), (55, .aload 0, 1), (56, .getfield 28383322, 3), (59, .getfield 20, 3), (62, .invokestatic 48333631, 3), (65, .iconst 0, 1), (66, .istore 4, 2), (68, .iload 4, 2), (70, .aload 0, 1), (71, .getfield 28383322, 3), (74, .getfield 20, 3), (77, .if_icmp .ge 108, 3), (80, .aload 3, 1), (81, .iload 4, 2), (83, .aload 0, 1), (84, .getfield 4344258746, 3), (87, .aload 0, 1), (88, .getfield 28383322, 3), (91, .getfield 4295499812, 3), (94, .iload 4, 2), (96, .iaload, 1), (97, .iaload, 1), (98, .i2l, 1), (99, .invokestatic 48366401, 3), (102, .iinc 4 1, 3), (105, .goto 68, 3), (108, .aload 0, 1), (109, .getfield 28383322, 3), (112, .getfield 20, 3), (115, .ireturn, 1)]
def jcX10_image : List (Nat × Instr × Nat) := [(0, .aload 0, 1), (1, .getfield 12064794, 3), (4, .aload 0, 1), (5, .getfield 530442, 3), (8, .invokestatic 33653249, 3), (11, .aload 0, 1), (12, .iconst 1, 1), (13, .putfield 4138, 3), (16, .aload 0, 1), (17, .invokestatic 54559111, 3), (20, .aload 0, 1), (21, .getfield 28383322, 3), (24, .invokestatic 42045728, 3), (27, .ireturn, 1)]
def jcX10_back : List (Nat × Instr × Nat) := [(0, .aload 0, 1), (1, .getfield 4138, 3), (4, .ifCond .ne 10, 3), (7, .iconst (-3), 2), (9, .ireturn, 1), (10, .aload 0, 1), (11, .getfield 530442, 3), (14, .aload 0, 1), (15, .getfield 12064794, 3), (18, .invokestatic 33653249, 3), (21, .aload 0, 1), (22, .invokestatic 54559110, 3), (25, .aload 0, 1), (26, .invokestatic 54559111, 3), (29, .aload 0, 1), (30, .getfield 28383322, 3), (33, .invokestatic 42045728, 3), (36, .ireturn, 1)]
def jcX10_count : List (Nat × Instr × Nat) := [(0, .iload 1, 1), (1, .tableswitch 124 0 7 #[48, 59, 70, 82, 91, 100, 108, 116], 47), (48, .aload 0, 1), (49, .getfield 530442, 3), (52, .getfield 0, 3), (55, .invokestatic 295735793, 3), (58, .ireturn, 1), (59, .aload 0, 1), (60, .getfield 530442, 3), (63, .getfield 16, 3), (66, .invokestatic 295735793, 3), (69, .ireturn, 1), (70, .aload 0, 1), (71, .invokestatic 54559111, 3), (74, .aload 0, 1), (75, .getfield 28383322, 3), (78, .invokestatic 42045728, 3), (81, .ireturn, 1), (82, .aload 0, 1), (83, .getfield 530442, 3), (86, .iconst 2, 1), (87, .invokestatic 33690117, 3), (90, .ireturn, 1), (91, .aload 0, 1), (92, .getfield 530442, 3), (95, .iconst 1, 1), (96, .invokestatic 33690117, 3), (99, .ireturn, 1), (100, .aload 0, 1), (101, .getfield 530442, 3), (104, .invokestatic 33657094, 3), (107, .ireturn, 1), (108, .aload 0, 1), (109, .getfield 39409802, 3), (112, .getfield 5, 3), (115, .ireturn, 1), (116, .aload 0, 1), (117, .getfield 23730234, 3), (120, .getfield 24, 3), (123, .ireturn, 1), (124, .iconst (-2), 2), (126, .ireturn, 1)]
def jcX10_sheet : List (Nat × Instr × Nat) := [(0, .iload 1, 1), (1, .invokestatic 21016965, 3), (4, .ifCond .eq 17, 3), (7, .iload 2, 1), (8, .iconst (-1), 1), (9, .if_icmp .lt 17, 3), (12, .iload 2, 1), (13, .iconst 2, 1), (14, .if_icmp .le 20, 3), (17, .iconst (-2), 2), (19, .ireturn, 1), (20, .iload 2, 1), (21, .iconst (-1), 1), (22, .if_icmp .eq 34, 3), (25, .iload 3, 1), (26, .iconst 40, 2), (28, .if_icmp .le 34, 3), (31, .iconst (-2), 2), (33, .ireturn, 1), (34, .iload 2, 1), (35, .iconst (-1), 1), (36, .if_icmp .eq 46, 3), (39, .iload 3, 1), (40, .ifCond .ge 46, 3), (43, .iconst (-14), 2), (45, .ireturn, 1), (46, .aload 0, 1), (47, .getfield 2197348618, 3), (50, .iload 1, 1), (51, .aaload, 1), (52, .iload 2, 1), (53, .iload 2, 1), (54, .iconst (-1), 1), (55, .if_icmp .ne 62, 3), (58, .iconst 0, 1), (59, .goto 63, 3), (62, .iload 3, 1), (63, .invokestatic 48333631, 3), (66, .iconst 1, 1), (67, .ireturn, 1)]
def jcX10_put : List (Nat × Instr × Nat) := [(0, .iload 1, 1), (1, .invokestatic 21016965, 3), (4, .ifCond .ne 10, 3), (7, .iconst (-2), 2), (9, .ireturn, 1), (10, .aload 0, 1), (11, .getfield 2197348618, 3), (14, .iload 1, 1), (15, .aaload, 1), (16, .astore 5, 2), (18, .aload 5, 2), (20, .getfield 7, 3), (23, .iconst (-1), 1), (24, .if_icmp .ne 30, 3), (27, .iconst (-11), 2), (29, .ireturn, 1), (30, .aload 5, 2), (32, .iload 2, 1), (33, .iconst 1, 1), (34, .invokestatic 48345920, 3), (37, .ifCond .ne 43, 3), (40, .iconst (-12), 2), (42, .ireturn, 1), (43, .aload 5, 2), (45, .iload 2, 1), (46, .lload 3, 1), (47, .invokestatic 48366401, 3), (50, .iconst 1, 1), (51, .ireturn, 1)]
def jcX10_item : List (Nat × Instr × Nat) := [(0, .iload 1, 1), (1, .invokestatic 21016965, 3), (4, .ifCond .ne 11, 3), (7, .sipush (-4611686018427387904), 3), (10, .lreturn, 1), (11, .aload 0, 1), (12, .getfield 2197348618, 3), (15, .iload 1, 1), (16, .aaload, 1), (17, .astore 3, 1), (18, .aload 3, 1), (19, .getfield 7, 3), (22, .iconst (-1), 1), (23, .if_icmp .eq 44, 3), (26, .aload 3, 1), (27, .iload 2, 1), (28, .iconst 1, 1), (29, .invokestatic 48345920, 3), (32, .ifCond .eq 44, 3), (35, .aload 3, 1), (36, .getfield 21475385383, 3), (39, .iload 2, 1), (40, .laload, 1), (41, .goto 47, 3), (44, .sipush (-4611686018427387904), 3), (47, .lreturn, 1)]
def jcX10_copy : List (Nat × Instr × Nat) := [(0, .iload 1, 1), (1, .invokestatic 21016965, 3), (4, .ifCond .eq 14, 3), (7, .iload 3, 1), (8, .invokestatic 21016965, 3), (11, .ifCond .ne 17, 3), (14, .iconst (-2), 2), (16, .ireturn, 1), (17, .aload 0, 1), (18, .getfield 2197348618, 3), (21, .iload 1, 1), (22, .aaload, 1), (23, .astore 6, 2), (25, .aload 0, 1), (26, .getfield 2197348618, 3), (29, .iload 3, 1), (30, .aaload, 1), (31, .astore 7, 2), (33, .aload 6, 2), (35, .getfield 7, 3), (38, .iconst (-1), 1), (39, .if_icmp .eq 51, 3), (42, .aload 7, 2), (44, .getfield 7, 3), (47, .iconst (-1), 1), (48, .if_icmp .ne 54, 3), (51, .iconst (-11), 2), (53, .ireturn, 1), (54, .aload 6, 2), (56, .getfield 7, 3), (59, .aload 7, 2), (61, .getfield 7, 3), (64, .if_icmp .eq 70, 3), (67, .iconst (-13), 2), (69, .ireturn, 1), (70, .aload 6, 2), (72, .iload 2, 1), (73, .iload 5, 2), (75, .invokestatic 48345920, 3), (78, .ifCond .eq 93, 3), (81, .aload 7, 2), (83, .iload 4, 2), (85, .iload 5, 2), (87, .invokestatic 48345920, 3), (90, .ifCond .ne 96, 3), (93, .iconst (-12), 2), (95, .ireturn, 1), (96, .aload 6, 2), (98, .getfield 21475385383, 3), (101, .iload 2, 1), (102, .aload 7, 2), (104, .getfield 21475385383, 3), (107, .iload 4, 2), (109, .iload 5, 2), (111, .swap, 3), (114, .iload 5, 2), (116, .ireturn, 1)]
def jcX10_lay : List (Nat × Instr × Nat) := [(0, .iload 1, 1), (1, .invokestatic 21016965, 3), (4, .ifCond .eq 36, 3), (7, .iload 2, 1), (8, .invokestatic 21016962, 3), (11, .ifCond .eq 36, 3), (14, .iload 3, 1), (15, .ifCond .lt 36, 3), (18, .iload 3, 1), (19, .iconst 2, 1), (20, .if_icmp .gt 36, 3), (23, .iload 5, 2), (25, .iconst 1, 1), (26, .if_icmp .lt 36, 3), (29, .iload 5, 2), (31, .iconst 8, 2), (33, .if_icmp .le 39, 3), (36, .iconst (-2), 2), (38, .ireturn, 1), (39, .aload 0, 1), (40, .getfield 2197348618, 3), (43, .iload 1, 1), (44, .aaload, 1), (45, .astore 6, 2), (47, .aload 6, 2), (49, .getfield 7, 3), (52, .iconst (-1), 1), (53, .if_icmp .eq 68, 3), (56, .aload 6, 2), (58, .getfield 7, 3), (61, .iload 3, 1), (62, .if_icmp .eq 68, 3), (65, .iconst (-13), 2), (67, .ireturn, 1), (68, .aload 6, 2), (70, .getfield 7, 3), (73, .iconst (-1), 1), (74, .if_icmp .ne 80, 3), (77, .iconst (-11), 2), (79, .ireturn, 1), (80, .aload 6, 2), (82, .iload 4, 2), (84, .iload 5, 2), (86, .invokestatic 48345920, 3), (89, .ifCond .ne 95, 3), (92, .iconst (-12), 2), (94, .ireturn, 1), (95, .iconst 0, 1), (96, .istore 7, 2), (98, .iload 7, 2), (100, .iload 5, 2), (102, .if_icmp .ge 144, 3), (105, .aload 0, 1), (106, .getfield 530442, 3), (109, .getfield 34360811568, 3), (112, .iload 2, 1), (113, .iconst 8, 2), (115, .imul, 1), (116, .iload 7, 2), (118, .iadd, 1), (119, .aload 6, 2), (121, .getfield 21475385383, 3), (124, .iload 4, 2), (126, .iload 7, 2), (128, .iadd, 1), (129, .laload, 1), (130, .sipush 1000000000, 3), (133, .lrem, 1), (134, .invokestatic 297869812, 3), (137, .lastore, 1), (138, .iinc 7 1, 3), (141, .goto 98, 3), (144, .aload 0, 1), (145, .invokestatic 54559110, 3), (148, .iload 5, 2), (150, .ireturn, 1)]
def jcX10_isSide : List (Nat × Instr × Nat) := [(0, .iload 0, 1), (1, .ifCond .eq 9, 3), (4, .iload 0, 1), (5, .iconst 1, 1), (6, .if_icmp .ne 13, 3), (9, .iconst 1, 1), (10, .goto 14, 3), (13, .iconst 0, 1), (14, .ireturn, 1)]
def jcX10_isSeat : List (Nat × Instr × Nat) := [(0, .iload 0, 1), (1, .ifCond .lt 14, 3), (4, .iload 0, 1), (5, .iconst 8, 2), (7, .if_icmp .ge 14, 3), (10, .iconst 1, 1), (11, .goto 15, 3), (14, .iconst 0, 1), (15, .ireturn, 1)]
def jcX10_isPair : List (Nat × Instr × Nat) := [(0, .iload 0, 1), (1, .invokestatic 21016962, 3), (4, .ifCond .eq 18, 3), (7, .iload 1, 1), (8, .invokestatic 21016962, 3), (11, .ifCond .eq 18, 3), (14, .iconst 1, 1), (15, .goto 19, 3), (18, .iconst 0, 1), (19, .ireturn, 1)]
def jcX10_isRule : List (Nat × Instr × Nat) := [(0, .iload 0, 1), (1, .ifCond .lt 13, 3), (4, .iload 0, 1), (5, .iconst 4, 1), (6, .if_icmp .ge 13, 3), (9, .iconst 1, 1), (10, .goto 14, 3), (13, .iconst 0, 1), (14, .ireturn, 1)]
def jcX10_isSheet : List (Nat × Instr × Nat) := [(0, .iload 0, 1), (1, .ifCond .lt 13, 3), (4, .iload 0, 1), (5, .iconst 4, 1), (6, .if_icmp .ge 13, 3), (9, .iconst 1, 1), (10, .goto 14, 3), (13, .iconst 0, 1), (14, .ireturn, 1)]
def jcX10_changed : List (Nat × Instr × Nat) := [(0, .aload 0, 1), (1, .iconst 0, 1), (2, .putfield 4298, 3), (5, .aload 0, 1), (6, .iconst 0, 1), (7, .putfield 4314, 3), (10, .aload 0, 1), (11, .iconst 0, 1), (12, .putfield 4330, 3), (15, .aload 0, 1), (16, .iconst 0, 1), (17, .putfield 4346, 3), (20, .return_, 1)]
def jcX10_refreshPlan : List (Nat × Instr × Nat) := [(0, .aload 0, 1), (1, .getfield 4298, 3), (4, .ifCond .ne 35, 3), (7, .aload 0, 1), (8, .getfield 28383322, 3), (11, .aload 0, 1), (12, .getfield 530442, 3), (15, .aload 0, 1), (16, .getfield 26892362, 3), (19, .invokestatic 42074907, 3), (22, .aload 0, 1), (23, .getfield 28383322, 3), (26, .iconst 0, 1), (27, .invokestatic 42074660, 3), (30, .aload 0, 1), (31, .iconst 1, 1), (32, .putfield 4298, 3), (35, .return_, 1)]
def jcX10_refreshShares : List (Nat × Instr × Nat) := [(0, .aload 0, 1), (1, .invokestatic 54559111, 3), (4, .aload 0, 1), (5, .getfield 4314, 3), (8, .ifCond .ne 23, 3), (11, .aload 0, 1), (12, .getfield 28383322, 3), (15, .invokestatic 42041642, 3), (18, .aload 0, 1), (19, .iconst 1, 1), (20, .putfield 4314, 3), (23, .return_, 1)]
def jcX10_refreshNextOnes : List (Nat × Instr × Nat) := [(0, .aload 0, 1), (1, .invokestatic 54559111, 3), (4, .aload 0, 1), (5, .getfield 4330, 3), (8, .ifCond .ne 27, 3), (11, .aload 0, 1), (12, .getfield 42522778, 3), (15, .aload 0, 1), (16, .getfield 28383322, 3), (19, .invokestatic 39977492, 3), (22, .aload 0, 1), (23, .iconst 1, 1), (24, .putfield 4330, 3), (27, .return_, 1)]
def jcX10_refreshDiary : List (Nat × Instr × Nat) := [(0, .aload 0, 1), (1, .invokestatic 54559111, 3), (4, .aload 0, 1), (5, .getfield 4346, 3), (8, .ifCond .ne 38, 3), (11, .aload 0, 1), (12, .getfield 46684330, 3), (15, .aload 0, 1), (16, .getfield 28383322, 3), (19, .aload 0, 1), (20, .getfield 32577642, 3), (23, .aload 0, 1), (24, .getfield 530442, 3), (27, .getfield 34361319488, 3), (30, .invokestatic 35849228, 3), (33, .aload 0, 1), (34, .iconst 1, 1), (35, .putfield 4346, 3), (38, .return_, 1)]
def jcX11_in : List (Nat × Instr × Nat) := [(0, .lload 0, 1), (1, .lload 2, 1), (2, .multianewarray 2 17, 4), (6, .lload 0, 1), (7, .lload 4, 2), (9, .multianewarray 4 17, 4), (13, .iconst 1, 1), (14, .goto 18, 3), (17, .iconst 0, 1), (18, .ireturn, 1)]
def jcX11_init : List (Nat × Instr × Nat) := [(0, .aload 0, 1), (1, .pop, 3), (4, .aload 0, 1), (5, .iconst 16, 2), (7, .newarray .int, 2), (9, .putfield 8590467099, 3), (12, .aload 0, 1), (13, .iconst 48, 2), (15, .newarray .int, 2), (17, .putfield 25770860587, 3), (20, .aload 0, 1), (21, .iconst 64, 2), (23, .newarray .long, 2), (25, .putfield 34361335867, 3), (28, .aload 0, 1), (29, .iconst 64, 2), (31, .newarray .int, 2), (33, .putfield 34361843787, 3), (36, .aload 0, 1), (37, .iconst 4, 1), (38, .newarray .int, 2), (40, .putfield 2150113371, 3), (43, .aload 0, 1), (44, .iconst 4, 1), (45, .newarray .int, 2), (47, .putfield 2150637675, 3), (50, .aload 0, 1), (51, .iconst 16, 2), (53, .newarray .int, 2), (55, .putfield 8593612923, 3), (58, .aload 0, 1), (59, .iconst 96, 2), (61, .newarray .int, 2), (63, .putfield 51543810187, 3), (66, .aload 0, 1), (67, .iconst 96, 2), (69, .newarray .int, 2), (71, .putfield 51544334491, 3), (74, .aload 0, 1), (75, .iconst 96, 2), (77, .newarray .int, 2), (79, .putfield 51544858795, 3), (82, .aload 0, 1), (83, .iconst 96, 2), (85, .newarray .int, 2), (87, .putfield 51545383099, 3), (90, .aload 0, 1), (91, .iconst 96, 2), (93, .newarray .int, 2), (95, .putfield 51545907403, 3), (98, .aload 0, 1), (99, .iconst 96, 2), (101, .newarray .int, 2), (103, .putfield 51546431707, 3), (106, .aload 0, 1), (107, .iconst 96, 2), (109, .newarray .int, 2), (111, .putfield 51546956011, 3), (114, .aload 0, 1), (115, .iconst 60, 2), (117, .newarray .int, 2), (119, .putfield 32220127483, 3), (122, .aload 0, 1), (123, .iconst 24, 2), (125, .newarray .int, 2), (127, .putfield 12893299099, 3), (130, .aload 0, 1), (131, .iconst 24, 2), (133, .newarray .int, 2), (135, .putfield 12893823403, 3), (138, .aload 0, 1), (139, .iconst 24, 2), (141, .newarray .int, 2), (143, .putfield 12894347707, 3), (146, .aload 0, 1), (147, .iconst 24, 2), (149, .newarray .int, 2), (151, .putfield 12894872011, 3), (154, .aload 0, 1), (155, .iconst 24, 2), (157, .newarray .int, 2), (159, .putfield 12895396315, 3), (162, .aload 0, 1), (163, .iconst 24, 2), (165, .newarray .int, 2), (167, .putfield 12895920619, 3), (170, .aload 0, 1), (171, .iconst 24, 2), (173, .newarray .int, 2), (175, .putfield 12896444923, 3), (178, .aload 0, 1), (179, .iconst 4, 1), (180, .newarray .int, 2), (182, .putfield 2159550987, 3), (185, .aload 0, 1), (186, .iconst 64, 2), (188, .newarray .long, 2), (190, .putfield 34372346507, 3), (193, .aload 0, 1), (194, .iconst 64, 2), (196, .newarray .long, 2), (198, .putfield 34372870811, 3), (201, .aload 0, 1), (202, .iconst 2304, 3), (205, .newarray .long, 2), (207, .putfield 1236964237995, 3), (210, .aload 0, 1), (211, .iconst 2304, 3), (214, .newarray .int, 2), (216, .putfield 1236964745915, 3), (219, .aload 0, 1), (220, .iconst 8, 2), (222, .newarray .int, 2), (224, .putfield 4309656267, 3), (227, .aload 0, 1), (228, .iconst 8, 2), (230, .newarray .long, 2), (232, .putfield 4310196955, 3), (235, .aload 0, 1), (236, .iconst 13, 2), (238, .newarray .long, 2), (240, .putfield 6995075819, 3), (243, .aload 0, 1), (244, .iconst 104, 2), (246, .newarray .int, 2), (248, .putfield 55850836731, 3), (251, .aload 0, 1), (252, .iconst 2304, 3), (255, .newarray .long, 2), (257, .putfield 1236967383835, 3), (260, .aload 0, 1), (261, .iconst 8, 2), (263, .newarray .long, 2), (265, .putfield 4312294203, 3), (268, .aload 0, 1), (269, .iconst 8, 2), (271, .newarray .long, 2), (273, .putfield 4312818507, 3), (276, .aload 0, 1), (277, .iconst 120, 2), (279, .newarray .int, 2), (281, .putfield 64442868571, 3), (284, .aload 0, 1), (285, .iconst 120, 2), (287, .newarray .int, 2), (289, .putfield 64443392875, 3), (292, .aload 0, 1), (293, .iconst 120, 2), (295, .newarray .int, 2), (297, .putfield 64443917179, 3), (300, .aload 0, 1), (301, .iconst 120, 2), (303, .newarray .int, 2), (305, .putfield 64444441483, 3), (308, .aload 0, 1), (309, .iconst 120, 2), (311, .newarray .long, 2), (313, .putfield 64444982171, 3), (316, .aload 0, 1), (317, .iconst 1920, 3), (320, .newarray .long, 2), (322, .putfield 1030813148075, 3), (325, .aload 0, 1), (326, .iconst 8, 2), (328, .newarray .int, 2), (330, .putfield 4316472251, 3), (333, .aload 0, 1), (334, .iconst 8, 2), (336, .newarray .int, 2), (338, .putfield 4316996555, 3), (341, .aload 0, 1), (342, .iconst 120, 2), (344, .newarray .int, 2), (346, .putfield 64447063067, 3), (349, .aload 0, 1), (350, .iconst 64, 2), (352, .newarray .int, 2), (354, .putfield 34382816299, 3), (357, .aload 0, 1), (358, .iconst 8, 2), (360, .newarray .int, 2), (362, .putfield 4318569531, 3), (365, .aload 0, 1), (366, .iconst 16, 2), (368, .newarray .int, 2), (370, .putfield 8614061147, 3), (373, .aload 0, 1), (374, .iconst 48, 2), (376, .newarray .int, 2), (378, .putfield 25794454635, 3), (381, .aload 0, 1), (382, .iconst 64, 2), (384, .newarray .long, 2), (386, .putfield 34384929915, 3), (389, .aload 0, 1), (390, .iconst 64, 2), (392, .newarray .int, 2), (394, .putfield 34385437835, 3), (397, .aload 0, 1), (398, .iconst 4, 1), (399, .newarray .int, 2), (401, .putfield 2173707419, 3), (404, .aload 0, 1), (405, .iconst 4, 1), (406, .newarray .int, 2), (408, .putfield 2174231723, 3), (411, .aload 0, 1), (412, .iconst 16, 2), (414, .newarray .int, 2), (416, .putfield 8617206971, 3), (419, .aload 0, 1), (420, .iconst 672, 3), (423, .newarray .int, 2), (425, .putfield 360805049547, 3), (428, .aload 0, 1), (429, .iconst 4, 1), (430, .newarray .int, 2), (432, .dup, 1), (433, .iconst 0, 1), (434, .iconst (-1), 1), (435, .iastore, 1), (436, .dup, 1), (437, .iconst 1, 1), (438, .iconst (-1), 1), (439, .iastore, 1), (440, .dup, 1), (441, .iconst 2, 1), (442, .iconst (-1), 1), (443, .iastore, 1), (444, .dup, 1), (445, .iconst 3, 1), (446, .iconst (-1), 1), (447, .iastore, 1), (448, .putfield 2175804635, 3), (451, .aload 0, 1), (452, .iconst 4, 1), (453, .newarray .int, 2), (455, .putfield 2176328939, 3), (458, .aload 0, 1), (459, .iconst 160, 3), (462, .newarray .long, 2), (464, .putfield 85928731899, 3), (467, .iconst 0, 1), (468, .istore 1, 1), (469, .iload 1, 1), (470, .iconst 64, 2), (472, .if_icmp .ge 490, 3), (475, .aload 0, 1), (476, .getfield 34361335867, 3), (479, .iload 1, 1), (480, .sipush (-1), 3), (483, .lastore, 1), (484, .iinc 1 1, 3), (487, .goto 469, 3), (490, .return_, 1)]
def jcX11_isWho : List (Nat × Instr × Nat) := [(0, .iload 0, 1), (1, .i2l, 1), (2, .sipush 0, 1), (3, .sipush 1, 1), (4, .invokestatic 23278475, 3), (7, .ifCond .eq 26, 3), (10, .iload 1, 1), (11, .i2l, 1), (12, .sipush 0, 1), (13, .sipush 7, 3), (16, .invokestatic 23278475, 3), (19, .ifCond .eq 26, 3), (22, .iconst 1, 1), (23, .goto 27, 3), (26, .iconst 0, 1), (27, .ireturn, 1)]
def jcX11_isPair : List (Nat × Instr × Nat) := [(0, .iload 0, 1), (1, .i2l, 1), (2, .sipush 0, 1), (3, .sipush 7, 3), (6, .invokestatic 23278475, 3), (9, .ifCond .eq 28, 3), (12, .iload 1, 1), (13, .i2l, 1), (14, .sipush 0, 1), (15, .sipush 7, 3), (18, .invokestatic 23278475, 3), (21, .ifCond .eq 28, 3), (24, .iconst 1, 1), (25, .goto 29, 3), (28, .iconst 0, 1), (29, .ireturn, 1)]
def jcX11_isJudge : List (Nat × Instr × Nat) := [(0, .aload 0, 1), (1, .getfield 8590467099, 3), (4, .iload 1, 1), (5, .iaload, 1), (6, .iconst 1, 1), (7, .if_icmp .ne 14, 3), (10, .iconst 1, 1), (11, .goto 15, 3), (14, .iconst 0, 1), (15, .ireturn, 1)]
def jcX11_isCase : List (Nat × Instr × Nat) := [(0, .aload 0, 1), (1, .getfield 8590467099, 3), (4, .iconst 8, 2), (6, .iload 1, 1), (7, .iadd, 1), (8, .iaload, 1), (9, .iconst 1, 1), (10, .if_icmp .ne 17, 3), (13, .iconst 1, 1), (14, .goto 18, 3), (17, .iconst 0, 1), (18, .ireturn, 1)]
def jcX11_here : List (Nat × Instr × Nat) := [(0, .iload 1, 1), (1, .iload 2, 1), (2, .invokestatic 23147149, 3), (5, .ifCond .eq 18, 3), (8, .iload 3, 1), (9, .i2l, 1), (10, .sipush 0, 1), (11, .sipush 1, 1), (12, .invokestatic 23278475, 3), (15, .ifCond .ne 21, 3), (18, .iconst (-2), 2), (20, .ireturn, 1), (21, .aload 0, 1), (22, .getfield 8590467099, 3), (25, .iconst 8, 2), (27, .iload 1, 1), (28, .imul, 1), (29, .iload 2, 1), (30, .iadd, 1), (31, .iaload, 1), (32, .istore 4, 2), (34, .aload 0, 1), (35, .getfield 8590467099, 3), (38, .iconst 8, 2), (40, .iload 1, 1), (41, .imul, 1), (42, .iload 2, 1), (43, .iadd, 1), (44, .iload 3, 1), (45, .iastore, 1), (46, .iload 4, 2), (48, .ireturn, 1)]
def jcX11_trait : List (Nat × Instr × Nat) := [(0, .iload 1, 1), (1, .iload 2, 1), (2, .invokestatic 23147149, 3), (5, .ifCond .eq 35, 3), (8, .iload 3, 1), (9, .i2l, 1), (10, .sipush 0, 1), (11, .sipush 2, 3), (14, .invokestatic 23278475, 3), (17, .ifCond .eq 35, 3), (20, .iload 4, 2), (22, .i2l, 1), (23, .sipush (-999), 3), (26, .sipush 999, 3), (29, .invokestatic 23278475, 3), (32, .ifCond .ne 38, 3), (35, .iconst (-2), 2), (37, .ireturn, 1), (38, .iconst 8, 2), (40, .iload 1, 1), (41, .imul, 1), (42, .iload 2, 1), (43, .iadd, 1), (44, .iconst 3, 1), (45, .imul, 1), (46, .iload 3, 1), (47, .iadd, 1), (48, .istore 5, 2), (50, .aload 0, 1), (51, .getfield 25770860587, 3), (54, .iload 5, 2), (56, .iaload, 1), (57, .istore 6, 2), (59, .aload 0, 1), (60, .getfield 25770860587, 3), (63, .iload 5, 2), (65, .iload 4, 2), (67, .iastore, 1), (68, .iload 6, 2), (70, .ireturn, 1)]
def jcX11_feed : List (Nat × Instr × Nat) := [(0, .iload 1, 1), (1, .i2l, 1), (2, .sipush 0, 1), (3, .sipush 255, 3), (6, .invokestatic 23278475, 3), (9, .ifCond .ne 15, 3), (12, .iconst (-2), 2), (14, .ireturn, 1), (15, .aload 0, 1), (16, .getfield 267, 3), (19, .iconst 60, 2), (21, .if_icmp .ne 27, 3), (24, .iconst (-4), 2), (26, .ireturn, 1), (27, .aload 0, 1), (28, .getfield 32220127483, 3), (31, .aload 0, 1), (32, .getfield 267, 3), (35, .iload 1, 1), (36, .iastore, 1), (37, .aload 0, 1), (38, .dup, 1), (39, .getfield 267, 3), (42, .iconst 1, 1), (43, .iadd, 1), (44, .putfield 267, 3), (47, .aload 0, 1), (48, .getfield 267, 3), (51, .ireturn, 1)]
def jcX11_byteAt : List (Nat × Instr × Nat) := [(0, .iload 1, 1), (1, .aload 0, 1), (2, .getfield 267, 3), (5, .if_icmp .ge 17, 3), (8, .aload 0, 1), (9, .getfield 32220127483, 3), (12, .iload 1, 1), (13, .iaload, 1), (14, .goto 18, 3), (17, .iconst (-1), 1), (18, .ireturn, 1)]
def jcX11_isLetter : List (Nat × Instr × Nat) := [(0, .iload 0, 1), (1, .i2l, 1), (2, .sipush 97, 3), (5, .sipush 122, 3), (8, .invokestatic 23278475, 3), (11, .ireturn, 1)]
def jcX11_isDigit : List (Nat × Instr × Nat) := [(0, .iload 0, 1), (1, .i2l, 1), (2, .sipush 48, 3), (5, .sipush 57, 3), (8, .invokestatic 23278475, 3), (11, .ireturn, 1)]
def jcX11_isThree : List (Nat × Instr × Nat) := [(0, .aload 0, 1), (1, .getfield 283, 3), (4, .aload 0, 1), (5, .getfield 315, 3), (8, .iconst 3, 1), (9, .iadd, 1), (10, .if_icmp .ne 57, 3), (13, .aload 0, 1), (14, .aload 0, 1), (15, .getfield 315, 3), (18, .invokestatic 56693396, 3), (21, .iload 1, 1), (22, .if_icmp .ne 57, 3), (25, .aload 0, 1), (26, .aload 0, 1), (27, .getfield 315, 3), (30, .iconst 1, 1), (31, .iadd, 1), (32, .invokestatic 56693396, 3), (35, .iload 2, 1), (36, .if_icmp .ne 57, 3), (39, .aload 0, 1), (40, .aload 0, 1), (41, .getfield 315, 3), (44, .iconst 2, 1), (45, .iadd, 1), (46, .invokestatic 56693396, 3), (49, .iload 3, 1), (50, .if_icmp .ne 57, 3), (53, .iconst 1, 1), (54, .goto 58, 3), (57, .iconst 0, 1), (58, .ireturn, 1)]
def jcX11_word : List (Nat × Instr × Nat) := [(0, .aload 0, 1), (1, .iconst 109, 2), (3, .iconst 105, 2), (5, .iconst 110, 2), (7, .invokestatic 56767639, 3), (10, .ifCond .eq 16, 3), (13, .iconst 8, 2), (15, .ireturn, 1), (16, .aload 0, 1), (17, .iconst 109, 2), (19, .iconst 97, 2), (21, .iconst 120, 2), (23, .invokestatic 56767639, 3), (26, .ifCond .eq 32, 3), (29, .iconst 9, 2), (31, .ireturn, 1), (32, .aload 0, 1), (33, .iconst 100, 2), (35, .iconst 105, 2), (37, .iconst 118, 2), (39, .invokestatic 56767639, 3), (42, .ifCond .eq 48, 3), (45, .iconst 10, 2), (47, .ireturn, 1), (48, .aload 0, 1), (49, .iconst 109, 2), (51, .iconst 111, 2), (53, .iconst 100, 2), (55, .invokestatic 56767639, 3), (58, .ifCond .eq 64, 3), (61, .iconst 11, 2), (63, .ireturn, 1), (64, .aload 0, 1), (65, .getfield 283, 3), (68, .aload 0, 1), (69, .getfield 315, 3), (72, .iconst 1, 1), (73, .iadd, 1), (74, .if_icmp .eq 79, 3), (77, .iconst (-1), 1), (78, .ireturn, 1), (79, .aload 0, 1), (80, .aload 0, 1), (81, .getfield 315, 3), (84, .invokestatic 56693396, 3), (87, .istore 1, 1), (88, .iload 1, 1), (89, .i2l, 1), (90, .sipush 97, 3), (93, .sipush 99, 3), (96, .invokestatic 23278475, 3), (99, .ifCond .eq 110, 3), (102, .iconst 20, 2), (104, .iload 1, 1), (105, .iadd, 1), (106, .iconst 97, 2), (108, .isub, 1), (109, .ireturn, 1), (110, .iload 1, 1), (111, .i2l, 1), (112, .sipush 120, 3), (115, .sipush 122, 3), (118, .invokestatic 23278475, 3), (121, .ifCond .eq 132, 3), (124, .iconst 23, 2), (126, .iload 1, 1), (127, .iadd, 1), (128, .iconst 120, 2), (130, .isub, 1), (131, .ireturn, 1), (132, .iload 1, 1), (133, .i2l, 1), (134, .sipush 112, 3), (137, .sipush 115, 3), (140, .invokestatic 23278475, 3), (143, .ifCond .eq 156, 3), (146, .iconst 30, 2), (148, .iload 1, 1), (149, .iadd, 1), (150, .iconst 112, 2), (152, .isub, 1), (153, .goto 157, 3), (156, .iconst (-1), 1), (157, .ireturn, 1)]
def jcX11_isSignByte : List (Nat × Instr × Nat) := [(0, .iload 0, 1), (1, .iconst 43, 2), (3, .if_icmp .eq 60, 3), (6, .iload 0, 1), (7, .iconst 45, 2), (9, .if_icmp .eq 60, 3), (12, .iload 0, 1), (13, .iconst 42, 2), (15, .if_icmp .eq 60, 3), (18, .iload 0, 1), (19, .iconst 40, 2), (21, .if_icmp .eq 60, 3), (24, .iload 0, 1), (25, .iconst 41, 2), (27, .if_icmp .eq 60, 3), (30, .iload 0, 1), (31, .iconst 124, 2), (33, .if_icmp .eq 60, 3), (36, .iload 0, 1), (37, .iconst 44, 2), (39, .if_icmp .eq 60, 3), (42, .iload 0, 1), (43, .iconst 60, 2), (45, .if_icmp .eq 60, 3), (48, .iload 0, 1), (49, .iconst 63, 2), (51, .if_icmp .eq 60, 3), (54, .iload 0, 1), (55, .iconst 58, 2), (57, .if_icmp .ne 64, 3), (60, .iconst 1, 1), (61, .goto 65, 3), (64, .iconst 0, 1), (65, .ireturn, 1)]
def jcX11_next : List (Nat × Instr × Nat) := [(0, .aload 0, 1), (1, .aload 0, 1), (2, .getfield 283, 3), (5, .invokestatic 56693396, 3), (8, .iconst 32, 2), (10, .if_icmp .ne 26, 3), (13, .aload 0, 1), (14, .dup, 1), (15, .getfield 283, 3), (18, .iconst 1, 1), (19, .iadd, 1), (20, .putfield 283, 3), (23, .goto 0, 3), (26, .aload 0, 1), (27, .aload 0, 1), (28, .getfield 283, 3), (31, .putfield 315, 3), (34, .aload 0, 1), (35, .aload 0, 1), (36, .getfield 283, 3), (39, .invokestatic 56693396, 3), (42, .istore 1, 1), (43, .aload 0, 1), (44, .iconst 4, 1), (45, .putfield 299, 3), (48, .aload 0, 1), (49, .iconst (-1), 1), (50, .putfield 331, 3), (53, .iload 1, 1), (54, .iconst (-1), 1), (55, .if_icmp .ne 66, 3), (58, .aload 0, 1), (59, .iconst 0, 1), (60, .putfield 299, 3), (63, .goto 255, 3), (66, .iload 1, 1), (67, .invokestatic 23114133, 3), (70, .ifCond .eq 128, 3), (73, .aload 0, 1), (74, .aload 0, 1), (75, .getfield 283, 3), (78, .invokestatic 56693396, 3), (81, .invokestatic 23114133, 3), (84, .ifCond .eq 100, 3), (87, .aload 0, 1), (88, .dup, 1), (89, .getfield 283, 3), (92, .iconst 1, 1), (93, .iadd, 1), (94, .putfield 283, 3), (97, .goto 73, 3), (100, .aload 0, 1), (101, .aload 0, 1), (102, .invokestatic 56693144, 3), (105, .putfield 331, 3), (108, .aload 0, 1), (109, .aload 0, 1), (110, .getfield 331, 3), (113, .iconst (-1), 1), (114, .if_icmp .ne 121, 3), (117, .iconst 4, 1), (118, .goto 122, 3), (121, .iconst 1, 1), (122, .putfield 299, 3), (125, .goto 255, 3), (128, .iload 1, 1), (129, .invokestatic 23114134, 3), (132, .ifCond .eq 228, 3), (135, .aload 0, 1), (136, .iconst 0, 1), (137, .putfield 331, 3), (140, .aload 0, 1), (141, .aload 0, 1), (142, .getfield 283, 3), (145, .invokestatic 56693396, 3), (148, .invokestatic 23114134, 3), (151, .ifCond .eq 203, 3), (154, .aload 0, 1), (155, .getfield 283, 3), (158, .aload 0, 1), (159, .getfield 315, 3), (162, .iconst 4, 1), (163, .iadd, 1), (164, .if_icmp .ge 190, 3), (167, .aload 0, 1), (168, .iconst 10, 2), (170, .aload 0, 1), (171, .getfield 331, 3), (174, .imul, 1), (175, .aload 0, 1), (176, .aload 0, 1), (177, .getfield 283, 3), (180, .invokestatic 56693396, 3), (183, .iadd, 1), (184, .iconst 48, 2), (186, .isub, 1), (187, .putfield 331, 3), (190, .aload 0, 1), (191, .dup, 1), (192, .getfield 283, 3), (195, .iconst 1, 1), (196, .iadd, 1), (197, .putfield 283, 3), (200, .goto 140, 3), (203, .aload 0, 1), (204, .aload 0, 1), (205, .getfield 283, 3), (208, .aload 0, 1), (209, .getfield 315, 3), (212, .iconst 4, 1), (213, .iadd, 1), (214, .if_icmp .le 221, 3), (217, .iconst 4, 1), (218, .goto 222, 3), (221, .iconst 2, 1), (222, .putfield 299, 3), (225, .goto 255, 3), (228, .iload 1, 1), (229, .invokestatic 23114137, 3), (232, .ifCond .eq 255, 3), (235, .aload 0, 1), (236, .iconst 3, 1), (237, .putfield 299, 3), (240, .aload 0, 1), (241, .iload 1, 1), (242, .putfield 331, 3), (245, .aload 0, 1), (246, .dup, 1), (247, .getfield 283, 3), (250, .iconst 1, 1), (251, .iadd, 1), (252, .putfield 283, 3), (255, .return_, 1)]
def jcX11_fail : List (Nat × Instr × Nat) := [(0, .aload 0, 1), (1, .getfield 4459, 3), (4, .ifCond .ne 20, 3), (7, .aload 0, 1), (8, .iconst 1, 1), (9, .putfield 4459, 3), (12, .aload 0, 1), (13, .aload 0, 1), (14, .getfield 315, 3), (17, .putfield 379, 3), (20, .return_, 1)]
def jcX11_isSign : List (Nat × Instr × Nat) := [(0, .aload 0, 1), (1, .getfield 4459, 3), (4, .ifCond .ne 27, 3), (7, .aload 0, 1), (8, .getfield 299, 3), (11, .iconst 3, 1), (12, .if_icmp .ne 27, 3), (15, .aload 0, 1), (16, .getfield 331, 3), (19, .iload 1, 1), (20, .if_icmp .ne 27, 3), (23, .iconst 1, 1), (24, .goto 28, 3), (27, .iconst 0, 1), (28, .ireturn, 1)]
def jcX11_takes : List (Nat × Instr × Nat) := [(0, .aload 0, 1), (1, .iload 1, 1), (2, .invokestatic 56701596, 3), (5, .ifCond .ne 15, 3), (8, .aload 0, 1), (9, .invokestatic 56656283, 3), (12, .goto 19, 3), (15, .aload 0, 1), (16, .invokestatic 56689050, 3), (19, .return_, 1)]
def jcX11_part : List (Nat × Instr × Nat) := [(0, .aload 0, 1), (1, .getfield 4459, 3), (4, .ifCond .ne 16, 3), (7, .aload 0, 1), (8, .getfield 395, 3), (11, .iconst 24, 2), (13, .if_icmp .ne 22, 3), (16, .aload 0, 1), (17, .invokestatic 56656283, 3), (20, .iconst 0, 1), (21, .ireturn, 1), (22, .aload 0, 1), (23, .getfield 395, 3), (26, .istore 3, 1), (27, .aload 0, 1), (28, .dup, 1), (29, .getfield 395, 3), (32, .iconst 1, 1), (33, .iadd, 1), (34, .putfield 395, 3), (37, .aload 0, 1), (38, .getfield 12893299099, 3), (41, .iload 3, 1), (42, .iload 1, 1), (43, .iastore, 1), (44, .aload 0, 1), (45, .getfield 12893823403, 3), (48, .iload 3, 1), (49, .iload 2, 1), (50, .iastore, 1), (51, .aload 0, 1), (52, .getfield 12894347707, 3), (55, .iload 3, 1), (56, .iconst 0, 1), (57, .iastore, 1), (58, .aload 0, 1), (59, .getfield 12894872011, 3), (62, .iload 3, 1), (63, .iconst 0, 1), (64, .iastore, 1), (65, .aload 0, 1), (66, .getfield 12895396315, 3), (69, .iload 3, 1), (70, .iconst 0, 1), (71, .iastore, 1), (72, .aload 0, 1), (73, .getfield 12895920619, 3), (76, .iload 3, 1), (77, .iconst 0, 1), (78, .iastore, 1), (79, .aload 0, 1), (80, .getfield 12896444923, 3), (83, .iload 3, 1), (84, .aload 0, 1), (85, .getfield 315, 3), (88, .iastore, 1), (89, .iload 3, 1), (90, .ireturn, 1)]
def jcX11_opens : List (Nat × Instr × Nat) := [(0, .aload 0, 1), (1, .getfield 4459, 3), (4, .ifCond .ne 15, 3), (7, .aload 0, 1), (8, .getfield 347, 3), (11, .iconst 5, 1), (12, .if_icmp .ne 21, 3), (15, .aload 0, 1), (16, .invokestatic 56656283, 3), (19, .iconst 0, 1), (20, .ireturn, 1), (21, .aload 0, 1), (22, .dup, 1), (23, .getfield 347, 3), (26, .iconst 1, 1), (27, .iadd, 1), (28, .putfield 347, 3), (31, .iconst 1, 1), (32, .ireturn, 1)]
def jcX11_expression : List (Nat × Instr × Nat) := [(0, .aload 0, 1), (1, .invokestatic 56725921, 3), (4, .istore 1, 1), (5, .aload 0, 1), (6, .iconst 60, 2), (8, .invokestatic 56701596, 3), (11, .ifCond .ne 16, 3), (14, .iload 1, 1), (15, .ireturn, 1), (16, .aload 0, 1), (17, .iconst 12, 2), (19, .iconst 0, 1), (20, .invokestatic 56759198, 3), (23, .istore 2, 1), (24, .aload 0, 1), (25, .getfield 4459, 3), (28, .ifCond .eq 33, 3), (31, .iconst 0, 1), (32, .ireturn, 1), (33, .aload 0, 1), (34, .invokestatic 56689050, 3), (37, .aload 0, 1), (38, .getfield 12894347707, 3), (41, .iload 2, 1), (42, .iload 1, 1), (43, .iastore, 1), (44, .aload 0, 1), (45, .getfield 12894872011, 3), (48, .iload 2, 1), (49, .aload 0, 1), (50, .invokestatic 56725921, 3), (53, .iastore, 1), (54, .aload 0, 1), (55, .iconst 63, 2), (57, .invokestatic 56689309, 3), (60, .aload 0, 1), (61, .getfield 4459, 3), (64, .ifCond .eq 69, 3), (67, .iconst 0, 1), (68, .ireturn, 1), (69, .aload 0, 1), (70, .getfield 12895396315, 3), (73, .iload 2, 1), (74, .aload 0, 1), (75, .invokestatic 56725920, 3), (78, .iastore, 1), (79, .aload 0, 1), (80, .iconst 58, 2), (82, .invokestatic 56689309, 3), (85, .aload 0, 1), (86, .getfield 4459, 3), (89, .ifCond .eq 94, 3), (92, .iconst 0, 1), (93, .ireturn, 1), (94, .aload 0, 1), (95, .getfield 12895920619, 3), (98, .iload 2, 1), (99, .aload 0, 1), (100, .invokestatic 56725920, 3), (103, .iastore, 1), (104, .iload 2, 1), (105, .ireturn, 1)]
def jcX11_sum : List (Nat × Instr × Nat) := [(0, .aload 0, 1), (1, .invokestatic 56725922, 3), (4, .istore 1, 1), (5, .aload 0, 1), (6, .iconst 43, 2), (8, .invokestatic 56701596, 3), (11, .ifCond .ne 23, 3), (14, .aload 0, 1), (15, .iconst 45, 2), (17, .invokestatic 56701596, 3), (20, .ifCond .eq 78, 3), (23, .aload 0, 1), (24, .aload 0, 1), (25, .getfield 331, 3), (28, .iconst 43, 2), (30, .if_icmp .ne 37, 3), (33, .iconst 3, 1), (34, .goto 38, 3), (37, .iconst 4, 1), (38, .iconst 0, 1), (39, .invokestatic 56759198, 3), (42, .istore 2, 1), (43, .aload 0, 1), (44, .getfield 4459, 3), (47, .ifCond .eq 52, 3), (50, .iconst 0, 1), (51, .ireturn, 1), (52, .aload 0, 1), (53, .invokestatic 56689050, 3), (56, .aload 0, 1), (57, .getfield 12894347707, 3), (60, .iload 2, 1), (61, .iload 1, 1), (62, .iastore, 1), (63, .aload 0, 1), (64, .getfield 12894872011, 3), (67, .iload 2, 1), (68, .aload 0, 1), (69, .invokestatic 56725922, 3), (72, .iastore, 1), (73, .iload 2, 1), (74, .istore 1, 1), (75, .goto 5, 3), (78, .iload 1, 1), (79, .ireturn, 1)]
def jcX11_product : List (Nat × Instr × Nat) := [(0, .aload 0, 1), (1, .invokestatic 56693155, 3), (4, .istore 1, 1), (5, .aload 0, 1), (6, .iconst 42, 2), (8, .invokestatic 56701596, 3), (11, .ifCond .eq 56, 3), (14, .aload 0, 1), (15, .iconst 5, 1), (16, .iconst 0, 1), (17, .invokestatic 56759198, 3), (20, .istore 2, 1), (21, .aload 0, 1), (22, .getfield 4459, 3), (25, .ifCond .eq 30, 3), (28, .iconst 0, 1), (29, .ireturn, 1), (30, .aload 0, 1), (31, .invokestatic 56689050, 3), (34, .aload 0, 1), (35, .getfield 12894347707, 3), (38, .iload 2, 1), (39, .iload 1, 1), (40, .iastore, 1), (41, .aload 0, 1), (42, .getfield 12894872011, 3), (45, .iload 2, 1), (46, .aload 0, 1), (47, .invokestatic 56693155, 3), (50, .iastore, 1), (51, .iload 2, 1), (52, .istore 1, 1), (53, .goto 5, 3), (56, .iload 1, 1), (57, .ireturn, 1)]
def jcX11_factor : List (Nat × Instr × Nat) := [(0, .aload 0, 1), (1, .getfield 4459, 3), (4, .ifCond .eq 9, 3), (7, .iconst 0, 1), (8, .ireturn, 1), (9, .aload 0, 1), (10, .getfield 299, 3), (13, .iconst 2, 1), (14, .if_icmp .ne 40, 3), (17, .aload 0, 1), (18, .iconst 0, 1), (19, .aload 0, 1), (20, .getfield 331, 3), (23, .invokestatic 56759198, 3), (26, .istore 1, 1), (27, .aload 0, 1), (28, .getfield 4459, 3), (31, .ifCond .ne 38, 3), (34, .aload 0, 1), (35, .invokestatic 56689050, 3), (38, .iload 1, 1), (39, .ireturn, 1), (40, .aload 0, 1), (41, .getfield 299, 3), (44, .iconst 1, 1), (45, .if_icmp .ne 107, 3), (48, .aload 0, 1), (49, .getfield 331, 3), (52, .iconst 20, 2), (54, .if_icmp .lt 107, 3), (57, .aload 0, 1), (58, .getfield 331, 3), (61, .iconst 30, 2), (63, .if_icmp .ge 81, 3), (66, .aload 0, 1), (67, .iconst 1, 1), (68, .aload 0, 1), (69, .getfield 331, 3), (72, .iconst 20, 2), (74, .isub, 1), (75, .invokestatic 56759198, 3), (78, .goto 93, 3), (81, .aload 0, 1), (82, .iconst 2, 1), (83, .aload 0, 1), (84, .getfield 331, 3), (87, .iconst 30, 2), (89, .isub, 1), (90, .invokestatic 56759198, 3), (93, .istore 1, 1), (94, .aload 0, 1), (95, .getfield 4459, 3), (98, .ifCond .ne 105, 3), (101, .aload 0, 1), (102, .invokestatic 56689050, 3), (105, .iload 1, 1), (106, .ireturn, 1), (107, .aload 0, 1), (108, .getfield 299, 3), (111, .iconst 1, 1), (112, .if_icmp .ne 120, 3), (115, .aload 0, 1), (116, .invokestatic 56693156, 3), (119, .ireturn, 1), (120, .aload 0, 1), (121, .iconst 45, 2), (123, .invokestatic 56701596, 3), (126, .ifCond .eq 162, 3), (129, .aload 0, 1), (130, .iconst 6, 2), (132, .iconst 0, 1), (133, .invokestatic 56759198, 3), (136, .istore 1, 1), (137, .aload 0, 1), (138, .getfield 4459, 3), (141, .ifCond .eq 146, 3), (144, .iconst 0, 1), (145, .ireturn, 1), (146, .aload 0, 1), (147, .invokestatic 56689050, 3), (150, .aload 0, 1), (151, .getfield 12894347707, 3), (154, .iload 1, 1), (155, .aload 0, 1), (156, .invokestatic 56693155, 3), (159, .iastore, 1), (160, .iload 1, 1), (161, .ireturn, 1), (162, .aload 0, 1), (163, .iconst 40, 2), (165, .invokestatic 56701596, 3), (168, .ifCond .eq 207, 3), (171, .aload 0, 1), (172, .invokestatic 56668575, 3), (175, .ifCond .ne 180, 3), (178, .iconst 0, 1), (179, .ireturn, 1), (180, .aload 0, 1), (181, .invokestatic 56689050, 3), (184, .aload 0, 1), (185, .invokestatic 56725920, 3), (188, .istore 1, 1), (189, .aload 0, 1), (190, .iconst 41, 2), (192, .invokestatic 56689309, 3), (195, .aload 0, 1), (196, .dup, 1), (197, .getfield 347, 3), (200, .iconst 1, 1), (201, .isub, 1), (202, .putfield 347, 3), (205, .iload 1, 1), (206, .ireturn, 1), (207, .aload 0, 1), (208, .iconst 124, 2), (210, .invokestatic 56701596, 3), (213, .ifCond .ne 222, 3), (216, .aload 0, 1), (217, .invokestatic 56656283, 3), (220, .iconst 0, 1), (221, .ireturn, 1), (222, .aload 0, 1), (223, .iconst 7, 2), (225, .iconst 0, 1), (226, .invokestatic 56759198, 3), (229, .istore 1, 1), (230, .aload 0, 1), (231, .getfield 4459, 3), (234, .ifCond .ne 244, 3), (237, .aload 0, 1), (238, .invokestatic 56668575, 3), (241, .ifCond .ne 246, 3), (244, .iconst 0, 1), (245, .ireturn, 1), (246, .aload 0, 1), (247, .invokestatic 56689050, 3), (250, .aload 0, 1), (251, .getfield 12894347707, 3), (254, .iload 1, 1), (255, .aload 0, 1), (256, .invokestatic 56725920, 3), (259, .iastore, 1), (260, .aload 0, 1), (261, .iconst 124, 2), (263, .invokestatic 56689309, 3), (266, .aload 0, 1), (267, .dup, 1), (268, .getfield 347, 3), (271, .iconst 1, 1), (272, .isub, 1), (273, .putfield 347, 3), (276, .iload 1, 1), (277, .ireturn, 1)]
def jcX11_ofTwo : List (Nat × Instr × Nat) := [(0, .aload 0, 1), (1, .aload 0, 1), (2, .getfield 331, 3), (5, .iconst 0, 1), (6, .invokestatic 56759198, 3), (9, .istore 1, 1), (10, .aload 0, 1), (11, .getfield 4459, 3), (14, .ifCond .eq 19, 3), (17, .iconst 0, 1), (18, .ireturn, 1), (19, .aload 0, 1), (20, .invokestatic 56689050, 3), (23, .aload 0, 1), (24, .iconst 40, 2), (26, .invokestatic 56701596, 3), (29, .ifCond .ne 38, 3), (32, .aload 0, 1), (33, .invokestatic 56656283, 3), (36, .iconst 0, 1), (37, .ireturn, 1), (38, .aload 0, 1), (39, .invokestatic 56668575, 3), (42, .ifCond .ne 47, 3), (45, .iconst 0, 1), (46, .ireturn, 1), (47, .aload 0, 1), (48, .invokestatic 56689050, 3), (51, .aload 0, 1), (52, .getfield 12894347707, 3), (55, .iload 1, 1), (56, .aload 0, 1), (57, .invokestatic 56725920, 3), (60, .iastore, 1), (61, .aload 0, 1), (62, .iconst 44, 2), (64, .invokestatic 56689309, 3), (67, .aload 0, 1), (68, .getfield 4459, 3), (71, .ifCond .eq 76, 3), (74, .iconst 0, 1), (75, .ireturn, 1), (76, .aload 0, 1), (77, .getfield 12894872011, 3), (80, .iload 1, 1), (81, .aload 0, 1), (82, .invokestatic 56725920, 3), (85, .iastore, 1), (86, .aload 0, 1), (87, .iconst 41, 2), (89, .invokestatic 56689309, 3), (92, .aload 0, 1), (93, .dup, 1), (94, .getfield 347, 3), (97, .iconst 1, 1), (98, .isub, 1), (99, .putfield 347, 3), (102, .iload 1, 1), (103, .ireturn, 1)]
def jcX11_names : List (Nat × Instr × Nat) := [(0, .iconst 0, 1), (1, .istore 2, 1), (2, .iconst 0, 1), (3, .istore 3, 1), (4, .iload 3, 1), (5, .iconst 4, 1), (6, .if_icmp .ge 34, 3), (9, .aload 0, 1), (10, .getfield 8593612923, 3), (13, .iconst 4, 1), (14, .iload 1, 1), (15, .imul, 1), (16, .iload 3, 1), (17, .iadd, 1), (18, .iaload, 1), (19, .ifCond .le 28, 3), (22, .iload 2, 1), (23, .iconst 1, 1), (24, .iload 3, 1), (25, .ishl, 1), (26, .ior, 1), (27, .istore 2, 1), (28, .iinc 3 1, 3), (31, .goto 4, 3), (34, .iload 2, 1), (35, .ireturn, 1)]
def jcX11_comesTo : List (Nat × Instr × Nat) := [(0, .aload 0, 1), (1, .iload 1, 1), (2, .invokestatic 56758949, 3), (5, .istore 2, 1), (6, .iconst 0, 1), (7, .istore 3, 1), (8, .iload 3, 1), (9, .iconst 4, 1), (10, .if_icmp .ge 53, 3), (13, .iconst 0, 1), (14, .istore 4, 2), (16, .iload 4, 2), (18, .iconst 4, 1), (19, .if_icmp .ge 47, 3), (22, .iload 2, 1), (23, .iload 4, 2), (25, .ishr, 1), (26, .iconst 1, 1), (27, .iand, 1), (28, .iconst 1, 1), (29, .if_icmp .ne 41, 3), (32, .iload 2, 1), (33, .aload 0, 1), (34, .iload 4, 2), (36, .invokestatic 56758949, 3), (39, .ior, 1), (40, .istore 2, 1), (41, .iinc 4 1, 3), (44, .goto 16, 3), (47, .iinc 3 1, 3), (50, .goto 8, 3), (53, .iload 2, 1), (54, .ireturn, 1)]
def jcX11_weight : List (Nat × Instr × Nat) := [(0, .aload 0, 1), (1, .getfield 2150113371, 3), (4, .iload 1, 1), (5, .iaload, 1), (6, .istore 2, 1), (7, .iconst 0, 1), (8, .istore 3, 1), (9, .iload 3, 1), (10, .iconst 4, 1), (11, .if_icmp .ge 52, 3), (14, .aload 0, 1), (15, .getfield 8593612923, 3), (18, .iconst 4, 1), (19, .iload 1, 1), (20, .imul, 1), (21, .iload 3, 1), (22, .iadd, 1), (23, .iaload, 1), (24, .ifCond .le 46, 3), (27, .iload 2, 1), (28, .aload 0, 1), (29, .getfield 8593612923, 3), (32, .iconst 4, 1), (33, .iload 1, 1), (34, .imul, 1), (35, .iload 3, 1), (36, .iadd, 1), (37, .iaload, 1), (38, .aload 0, 1), (39, .iload 3, 1), (40, .invokestatic 56758951, 3), (43, .imul, 1), (44, .iadd, 1), (45, .istore 2, 1), (46, .iinc 3 1, 3), (49, .goto 9, 3), (52, .iload 2, 1), (53, .ireturn, 1)]
def jcX11_trades : List (Nat × Instr × Nat) := [(0, .iconst 0, 1), (1, .istore 2, 1), (2, .iload 2, 1), (3, .iconst 4, 1), (4, .if_icmp .ge 47, 3), (7, .aload 0, 1), (8, .getfield 8593612923, 3), (11, .iconst 4, 1), (12, .iload 1, 1), (13, .imul, 1), (14, .iload 2, 1), (15, .iadd, 1), (16, .iaload, 1), (17, .istore 3, 1), (18, .aload 0, 1), (19, .getfield 8593612923, 3), (22, .iconst 4, 1), (23, .iload 1, 1), (24, .imul, 1), (25, .iload 2, 1), (26, .iadd, 1), (27, .aload 0, 1), (28, .getfield 2159550987, 3), (31, .iload 2, 1), (32, .iaload, 1), (33, .iastore, 1), (34, .aload 0, 1), (35, .getfield 2159550987, 3), (38, .iload 2, 1), (39, .iload 3, 1), (40, .iastore, 1), (41, .iinc 2 1, 3), (44, .goto 2, 3), (47, .return_, 1)]
def jcX11_isHeavy : List (Nat × Instr × Nat) := [(0, .iconst 0, 1), (1, .istore 1, 1), (2, .iload 1, 1), (3, .iconst 4, 1), (4, .if_icmp .ge 25, 3), (7, .aload 0, 1), (8, .iload 1, 1), (9, .invokestatic 56758951, 3), (12, .iconst 60, 2), (14, .if_icmp .le 19, 3), (17, .iconst 1, 1), (18, .ireturn, 1), (19, .iinc 1 1, 3), (22, .goto 2, 3), (25, .iconst 0, 1), (26, .ireturn, 1)]
def jcX11_text : List (Nat × Instr × Nat) := [(0, .iload 1, 1), (1, .i2l, 1), (2, .sipush 0, 1), (3, .sipush 3, 3), (6, .invokestatic 23278475, 3), (9, .ifCond .ne 15, 3), (12, .iconst (-2), 2), (14, .ireturn, 1), (15, .aload 0, 1), (16, .iconst 0, 1), (17, .putfield 283, 3), (20, .aload 0, 1), (21, .iconst 0, 1), (22, .putfield 347, 3), (25, .aload 0, 1), (26, .iconst 0, 1), (27, .putfield 4459, 3), (30, .aload 0, 1), (31, .iconst 0, 1), (32, .putfield 395, 3), (35, .aload 0, 1), (36, .invokestatic 56689050, 3), (39, .aload 0, 1), (40, .invokestatic 56725920, 3), (43, .istore 2, 1), (44, .aload 0, 1), (45, .getfield 299, 3), (48, .ifCond .eq 55, 3), (51, .aload 0, 1), (52, .invokestatic 56656283, 3), (55, .aload 0, 1), (56, .iconst 0, 1), (57, .putfield 267, 3), (60, .aload 0, 1), (61, .getfield 4459, 3), (64, .ifCond .eq 75, 3), (67, .iconst (-100), 2), (69, .aload 0, 1), (70, .getfield 379, 3), (73, .isub, 1), (74, .ireturn, 1), (75, .iconst 0, 1), (76, .istore 3, 1), (77, .iload 3, 1), (78, .iconst 4, 1), (79, .if_icmp .ge 95, 3), (82, .aload 0, 1), (83, .getfield 2159550987, 3), (86, .iload 3, 1), (87, .iconst 0, 1), (88, .iastore, 1), (89, .iinc 3 1, 3), (92, .goto 77, 3), (95, .iconst 0, 1), (96, .istore 3, 1), (97, .iload 3, 1), (98, .aload 0, 1), (99, .getfield 395, 3), (102, .if_icmp .ge 136, 3), (105, .aload 0, 1), (106, .getfield 12893299099, 3), (109, .iload 3, 1), (110, .iaload, 1), (111, .iconst 2, 1), (112, .if_icmp .ne 130, 3), (115, .aload 0, 1), (116, .getfield 2159550987, 3), (119, .aload 0, 1), (120, .getfield 12893823403, 3), (123, .iload 3, 1), (124, .iaload, 1), (125, .dup2, 1), (126, .iaload, 1), (127, .iconst 1, 1), (128, .iadd, 1), (129, .iastore, 1), (130, .iinc 3 1, 3), (133, .goto 97, 3), (136, .aload 0, 1), (137, .iload 1, 1), (138, .invokestatic 56754856, 3), (141, .aload 0, 1), (142, .iload 1, 1), (143, .invokestatic 56791718, 3), (146, .iload 1, 1), (147, .ishr, 1), (148, .iconst 1, 1), (149, .iand, 1), (150, .iconst 1, 1), (151, .if_icmp .ne 162, 3), (154, .aload 0, 1), (155, .iload 1, 1), (156, .invokestatic 56754856, 3), (159, .iconst (-5), 2), (161, .ireturn, 1), (162, .aload 0, 1), (163, .getfield 2150113371, 3), (166, .iload 1, 1), (167, .iaload, 1), (168, .istore 3, 1), (169, .aload 0, 1), (170, .getfield 2150113371, 3), (173, .iload 1, 1), (174, .aload 0, 1), (175, .getfield 395, 3), (178, .iastore, 1), (179, .aload 0, 1), (180, .invokestatic 56701353, 3), (183, .ifCond .eq 201, 3), (186, .aload 0, 1), (187, .getfield 2150113371, 3), (190, .iload 1, 1), (191, .iload 3, 1), (192, .iastore, 1), (193, .aload 0, 1), (194, .iload 1, 1), (195, .invokestatic 56754856, 3), (198, .iconst (-4), 2), (200, .ireturn, 1), (201, .aload 0, 1), (202, .getfield 2150637675, 3), (205, .iload 1, 1), (206, .iload 2, 1), (207, .iastore, 1), (208, .iconst 0, 1), (209, .istore 4, 2), (211, .iload 4, 2), (213, .aload 0, 1), (214, .getfield 395, 3), (217, .if_icmp .ge 333, 3), (220, .iconst 24, 2), (222, .iload 1, 1), (223, .imul, 1), (224, .iload 4, 2), (226, .iadd, 1), (227, .istore 5, 2), (229, .aload 0, 1), (230, .getfield 51543810187, 3), (233, .iload 5, 2), (235, .aload 0, 1), (236, .getfield 12893299099, 3), (239, .iload 4, 2), (241, .iaload, 1), (242, .iastore, 1), (243, .aload 0, 1), (244, .getfield 51544334491, 3), (247, .iload 5, 2), (249, .aload 0, 1), (250, .getfield 12893823403, 3), (253, .iload 4, 2), (255, .iaload, 1), (256, .iastore, 1), (257, .aload 0, 1), (258, .getfield 51544858795, 3), (261, .iload 5, 2), (263, .aload 0, 1), (264, .getfield 12894347707, 3), (267, .iload 4, 2), (269, .iaload, 1), (270, .iastore, 1), (271, .aload 0, 1), (272, .getfield 51545383099, 3), (275, .iload 5, 2), (277, .aload 0, 1), (278, .getfield 12894872011, 3), (281, .iload 4, 2), (283, .iaload, 1), (284, .iastore, 1), (285, .aload 0, 1), (286, .getfield 51545907403, 3), (289, .iload 5, 2), (291, .aload 0, 1), (292, .getfield 12895396315, 3), (295, .iload 4, 2), (297, .iaload, 1), (298, .iastore, 1), (299, .aload 0, 1), (300, .getfield 51546431707, 3), (303, .iload 5, 2), (305, .aload 0, 1), (306, .getfield 12895920619, 3), (309, .iload 4, 2), (311, .iaload, 1), (312, .iastore, 1), (313, .aload 0, 1), (314, .getfield 51546956011, 3), (317, .iload 5, 2), (319, .aload 0, 1), (320, .getfield 12896444923, 3), (323, .iload 4, 2), (325, .iaload, 1), (326, .iastore, 1), (327, .iinc 4 1, 3), (330, .goto 211, 3), (333, .aload 0, 1), (334, .getfield 395, 3), (337, .ireturn, 1)]
def jcX11_empty : List (Nat × Instr × Nat) := [(0, .iload 1, 1), (1, .i2l, 1), (2, .sipush 0, 1), (3, .sipush 3, 3), (6, .invokestatic 23278475, 3), (9, .ifCond .ne 15, 3), (12, .iconst (-2), 2), (14, .ireturn, 1), (15, .aload 0, 1), (16, .getfield 2150113371, 3), (19, .iload 1, 1), (20, .iaload, 1), (21, .istore 2, 1), (22, .aload 0, 1), (23, .getfield 2150113371, 3), (26, .iload 1, 1), (27, .iconst 0, 1), (28, .iastore, 1), (29, .iconst 0, 1), (30, .istore 3, 1), (31, .iload 3, 1), (32, .iconst 4, 1), (33, .if_icmp .ge 53, 3), (36, .aload 0, 1), (37, .getfield 8593612923, 3), (40, .iconst 4, 1), (41, .iload 1, 1), (42, .imul, 1), (43, .iload 3, 1), (44, .iadd, 1), (45, .iconst 0, 1), (46, .iastore, 1), (47, .iinc 3 1, 3), (50, .goto 31, 3), (53, .iload 2, 1), (54, .ireturn, 1)]
def jcX11_told : List (Nat × Instr × Nat) := [(0, .iload 1, 1), (1, .i2l, 1), (2, .sipush 0, 1), (3, .sipush 3, 3), (6, .invokestatic 23278475, 3), (9, .ifCond .eq 24, 3), (12, .iload 2, 1), (13, .i2l, 1), (14, .sipush 0, 1), (15, .sipush 4, 3), (18, .invokestatic 23278475, 3), (21, .ifCond .ne 27, 3), (24, .iconst (-2), 2), (26, .ireturn, 1), (27, .iload 2, 1), (28, .ifCond .ne 38, 3), (31, .aload 0, 1), (32, .getfield 2150113371, 3), (35, .iload 1, 1), (36, .iaload, 1), (37, .ireturn, 1), (38, .iload 2, 1), (39, .iconst 1, 1), (40, .if_icmp .ne 49, 3), (43, .aload 0, 1), (44, .iload 1, 1), (45, .invokestatic 56758951, 3), (48, .ireturn, 1), (49, .iload 2, 1), (50, .iconst 2, 1), (51, .if_icmp .ne 60, 3), (54, .aload 0, 1), (55, .iload 1, 1), (56, .invokestatic 56758949, 3), (59, .ireturn, 1), (60, .iload 2, 1), (61, .iconst 4, 1), (62, .if_icmp .ne 71, 3), (65, .aload 0, 1), (66, .iload 1, 1), (67, .invokestatic 56791718, 3), (70, .ireturn, 1), (71, .iconst 0, 1), (72, .istore 3, 1), (73, .iconst 0, 1), (74, .istore 4, 2), (76, .iload 4, 2), (78, .iconst 4, 1), (79, .if_icmp .ge 109, 3), (82, .aload 0, 1), (83, .getfield 8593612923, 3), (86, .iconst 4, 1), (87, .iload 4, 2), (89, .imul, 1), (90, .iload 1, 1), (91, .iadd, 1), (92, .iaload, 1), (93, .ifCond .le 103, 3), (96, .iload 3, 1), (97, .iconst 1, 1), (98, .iload 4, 2), (100, .ishl, 1), (101, .ior, 1), (102, .istore 3, 1), (103, .iinc 4 1, 3), (106, .goto 76, 3), (109, .iload 3, 1), (110, .ireturn, 1)]
def jcX11_fails : List (Nat × Instr × Nat) := [(0, .aload 0, 1), (1, .iload 1, 1), (2, .putfield 539, 3), (5, .aload 0, 1), (6, .aload 0, 1), (7, .getfield 51546956011, 3), (10, .iload 3, 1), (11, .iaload, 1), (12, .putfield 555, 3), (15, .aload 0, 1), (16, .iconst 1, 1), (17, .putfield 571, 3), (20, .aload 0, 1), (21, .iload 2, 1), (22, .putfield 587, 3), (25, .aload 0, 1), (26, .iconst (-1), 1), (27, .putfield 603, 3), (30, .sipush 0, 1), (31, .lreturn, 1)]
def jcX11_valueOf : List (Nat × Instr × Nat) := [(0, .aload 0, 1), (1, .getfield 2150113371, 3), (4, .iload 1, 1), (5, .iaload, 1), (6, .ifCond .ne 11, 3), (9, .sipush 0, 1), (10, .lreturn, 1), (11, .aload 0, 1), (12, .iload 1, 1), (13, .aload 0, 1), (14, .getfield 2150637675, 3), (17, .iload 1, 1), (18, .iaload, 1), (19, .invokestatic 56927153, 3), (22, .lreturn, 1)]
def jcX11_named : List (Nat × Instr × Nat) := [(0, .aload 0, 1), (1, .iload 2, 1), (2, .invokestatic 56697518, 3), (5, .lstore 3, 1), (6, .aload 0, 1), (7, .getfield 539, 3), (10, .ifCond .eq 36, 3), (13, .aload 0, 1), (14, .getfield 571, 3), (17, .iconst 1, 1), (18, .if_icmp .ne 26, 3), (21, .aload 0, 1), (22, .iload 1, 1), (23, .putfield 603, 3), (26, .aload 0, 1), (27, .dup, 1), (28, .getfield 571, 3), (31, .iconst 1, 1), (32, .iadd, 1), (33, .putfield 571, 3), (36, .lload 3, 1), (37, .lreturn, 1)]
def jcX11_limited : List (Nat × Instr × Nat) := [(0, .lload 1, 1), (1, .sipush (-1000000000), 3), (4, .sipush 1000000000, 3), (7, .invokestatic 23278475, 3), (10, .ifCond .eq 17, 3), (13, .lload 1, 1), (14, .goto 25, 3), (17, .aload 0, 1), (18, .iconst 2, 1), (19, .iload 3, 1), (20, .iload 4, 2), (22, .invokestatic 56763565, 3), (25, .lreturn, 1)]
def jcX11_valueOf_ : List (Nat × Instr × Nat) := [(0, .iconst 24, 2), (2, .iload 1, 1), (3, .imul, 1), (4, .iload 2, 1), (5, .iadd, 1), (6, .istore 3, 1), (7, .aload 0, 1), (8, .getfield 51543810187, 3), (11, .iload 3, 1), (12, .iaload, 1), (13, .istore 4, 2), (15, .iload 4, 2), (17, .ifCond .ne 28, 3), (20, .aload 0, 1), (21, .getfield 51544334491, 3), (24, .iload 3, 1), (25, .iaload, 1), (26, .i2l, 1), (27, .lreturn, 1), (28, .iload 4, 2), (30, .iconst 1, 1), (31, .if_icmp .ne 91, 3), (34, .aload 0, 1), (35, .getfield 51544334491, 3), (38, .iload 3, 1), (39, .iaload, 1), (40, .iconst 3, 1), (41, .if_icmp .ge 66, 3), (44, .aload 0, 1), (45, .getfield 25770860587, 3), (48, .iconst 3, 1), (49, .aload 0, 1), (50, .getfield 619, 3), (53, .imul, 1), (54, .aload 0, 1), (55, .getfield 51544334491, 3), (58, .iload 3, 1), (59, .iaload, 1), (60, .iadd, 1), (61, .iaload, 1), (62, .i2l, 1), (63, .goto 90, 3), (66, .aload 0, 1), (67, .getfield 25770860587, 3), (70, .iconst 3, 1), (71, .iconst 8, 2), (73, .aload 0, 1), (74, .getfield 635, 3), (77, .iadd, 1), (78, .imul, 1), (79, .aload 0, 1), (80, .getfield 51544334491, 3), (83, .iload 3, 1), (84, .iaload, 1), (85, .iadd, 1), (86, .iconst 3, 1), (87, .isub, 1), (88, .iaload, 1), (89, .i2l, 1), (90, .lreturn, 1), (91, .iload 4, 2), (93, .iconst 2, 1), (94, .if_icmp .ne 109, 3), (97, .aload 0, 1), (98, .iload 1, 1), (99, .aload 0, 1), (100, .getfield 51544334491, 3), (103, .iload 3, 1), (104, .iaload, 1), (105, .invokestatic 56796079, 3), (108, .lreturn, 1), (109, .aload 0, 1), (110, .iload 1, 1), (111, .aload 0, 1), (112, .getfield 51544858795, 3), (115, .iload 3, 1), (116, .iaload, 1), (117, .invokestatic 56927153, 3), (120, .lstore 5, 2), (122, .aload 0, 1), (123, .getfield 539, 3), (126, .ifCond .eq 131, 3), (129, .sipush 0, 1), (130, .lreturn, 1), (131, .iload 4, 2), (133, .iconst 6, 2), (135, .if_icmp .ne 148, 3), (138, .aload 0, 1), (139, .lload 5, 2), (141, .lneg, 1), (142, .iload 1, 1), (143, .iload 3, 1), (144, .invokestatic 56796336, 3), (147, .lreturn, 1), (148, .iload 4, 2), (150, .iconst 7, 2), (152, .if_icmp .ne 171, 3), (155, .lload 5, 2), (157, .sipush 0, 1), (158, .multianewarray 3 168, 4), (162, .lload 5, 2), (164, .lneg, 1), (165, .goto 170, 3), (168, .lload 5, 2), (170, .lreturn, 1), (171, .aload 0, 1), (172, .iload 1, 1), (173, .aload 0, 1), (174, .getfield 51545383099, 3), (177, .iload 3, 1), (178, .iaload, 1), (179, .invokestatic 56927153, 3), (182, .lstore 7, 2), (184, .aload 0, 1), (185, .getfield 539, 3), (188, .ifCond .eq 193, 3), (191, .sipush 0, 1), (192, .lreturn, 1), (193, .iload 4, 2), (195, .iconst 12, 2), (197, .if_icmp .ne 229, 3), (200, .aload 0, 1), (201, .iload 1, 1), (202, .lload 5, 2), (204, .lload 7, 2), (206, .multianewarray 3 219, 4), (210, .aload 0, 1), (211, .getfield 51545907403, 3), (214, .iload 3, 1), (215, .iaload, 1), (216, .goto 225, 3), (219, .aload 0, 1), (220, .getfield 51546431707, 3), (223, .iload 3, 1), (224, .iaload, 1), (225, .invokestatic 56927153, 3), (228, .lreturn, 1), (229, .iload 4, 2), (231, .iconst 3, 1), (232, .if_icmp .ne 247, 3), (235, .aload 0, 1), (236, .lload 5, 2), (238, .lload 7, 2), (240, .ladd, 1), (241, .iload 1, 1), (242, .iload 3, 1), (243, .invokestatic 56796336, 3), (246, .lreturn, 1), (247, .iload 4, 2), (249, .iconst 4, 1), (250, .if_icmp .ne 265, 3), (253, .aload 0, 1), (254, .lload 5, 2), (256, .lload 7, 2), (258, .lsub, 1), (259, .iload 1, 1), (260, .iload 3, 1), (261, .invokestatic 56796336, 3), (264, .lreturn, 1), (265, .iload 4, 2), (267, .iconst 5, 1), (268, .if_icmp .ne 283, 3), (271, .aload 0, 1), (272, .lload 5, 2), (274, .lload 7, 2), (276, .lmul, 1), (277, .iload 1, 1), (278, .iload 3, 1), (279, .invokestatic 56796336, 3), (282, .lreturn, 1), (283, .iload 4, 2), (285, .iconst 8, 2), (287, .if_icmp .ne 306, 3), (290, .lload 5, 2), (292, .lload 7, 2), (294, .multianewarray 3 303, 4), (298, .lload 5, 2), (300, .goto 305, 3), (303, .lload 7, 2), (305, .lreturn, 1), (306, .iload 4, 2), (308, .iconst 9, 2), (310, .if_icmp .ne 329, 3), (313, .lload 5, 2), (315, .lload 7, 2), (317, .multianewarray 3 326, 4), (321, .lload 7, 2), (323, .goto 328, 3), (326, .lload 5, 2), (328, .lreturn, 1), (329, .lload 7, 2), (331, .sipush 0, 1), (332, .multianewarray 1 344, 4), (336, .aload 0, 1), (337, .iconst 1, 1), (338, .iload 1, 1), (339, .iload 3, 1), (340, .invokestatic 56763565, 3), (343, .lreturn, 1), (344, .iload 4, 2), (346, .iconst 10, 2), (348, .if_icmp .ne 361, 3), (351, .lload 5, 2), (353, .lload 7, 2), (355, .invokestatic 298001138, 3), (358, .goto 368, 3), (361, .lload 5, 2), (363, .lload 7, 2), (365, .invokestatic 298001139, 3), (368, .lreturn, 1)]
def jcX11_asked : List (Nat × Instr × Nat) := [(0, .aload 0, 1), (1, .iconst 0, 1), (2, .putfield 539, 3), (5, .aload 0, 1), (6, .iload 2, 1), (7, .putfield 619, 3), (10, .aload 0, 1), (11, .iload 3, 1), (12, .putfield 635, 3), (15, .aload 0, 1), (16, .iload 1, 1), (17, .invokestatic 56697518, 3), (20, .lreturn, 1)]
def jcX11_value : List (Nat × Instr × Nat) := [(0, .iload 1, 1), (1, .i2l, 1), (2, .sipush 0, 1), (3, .sipush 3, 3), (6, .invokestatic 23278475, 3), (9, .ifCond .eq 20, 3), (12, .iload 2, 1), (13, .iload 3, 1), (14, .invokestatic 23147150, 3), (17, .ifCond .ne 24, 3), (20, .sipush (-4611686018427387904), 3), (23, .lreturn, 1), (24, .aload 0, 1), (25, .iload 1, 1), (26, .iload 2, 1), (27, .iload 3, 1), (28, .invokestatic 56763570, 3), (31, .lstore 4, 2), (33, .aload 0, 1), (34, .getfield 539, 3), (37, .ifCond .ne 45, 3), (40, .lload 4, 2), (42, .goto 48, 3), (45, .sipush (-4611686018427387904), 3), (48, .lreturn, 1)]
def jcX11_why : List (Nat × Instr × Nat) := [(0, .iload 1, 1), (1, .iload 2, 1), (2, .invokestatic 23147150, 3), (5, .ifCond .eq 20, 3), (8, .iload 3, 1), (9, .i2l, 1), (10, .sipush 0, 1), (11, .sipush 4, 3), (14, .invokestatic 23278475, 3), (17, .ifCond .ne 23, 3), (20, .iconst (-2), 2), (22, .ireturn, 1), (23, .aload 0, 1), (24, .iconst 0, 1), (25, .iload 1, 1), (26, .iload 2, 1), (27, .invokestatic 56763570, 3), (30, .pop2, 1), (31, .iload 3, 1), (32, .ifCond .ne 40, 3), (35, .aload 0, 1), (36, .getfield 539, 3), (39, .ireturn, 1), (40, .aload 0, 1), (41, .getfield 539, 3), (44, .ifCond .ne 49, 3), (47, .iconst (-1), 1), (48, .ireturn, 1), (49, .iload 3, 1), (50, .iconst 1, 1), (51, .if_icmp .ne 61, 3), (54, .aload 0, 1), (55, .getfield 555, 3), (58, .goto 89, 3), (61, .iload 3, 1), (62, .iconst 2, 1), (63, .if_icmp .ne 73, 3), (66, .aload 0, 1), (67, .getfield 571, 3), (70, .goto 89, 3), (73, .iload 3, 1), (74, .iconst 3, 1), (75, .if_icmp .ne 85, 3), (78, .aload 0, 1), (79, .getfield 587, 3), (82, .goto 89, 3), (85, .aload 0, 1), (86, .getfield 603, 3), (89, .ireturn, 1)]
def jcX11_burdenOf : List (Nat × Instr × Nat) := [(0, .aload 0, 1), (1, .getfield 34361335867, 3), (4, .iconst 8, 2), (6, .iload 1, 1), (7, .imul, 1), (8, .iload 2, 1), (9, .iadd, 1), (10, .laload, 1), (11, .lstore 3, 1), (12, .lload 3, 1), (13, .sipush (-1), 3), (16, .multianewarray 0 22, 4), (20, .lload 3, 1), (21, .lreturn, 1), (22, .aload 0, 1), (23, .iconst 0, 1), (24, .iload 1, 1), (25, .iload 2, 1), (26, .invokestatic 56763570, 3), (29, .lstore 3, 1), (30, .aload 0, 1), (31, .getfield 539, 3), (34, .ifCond .eq 43, 3), (37, .sipush (-1), 3), (40, .goto 54, 3), (43, .lload 3, 1), (44, .sipush 0, 1), (45, .multianewarray 3 53, 4), (49, .sipush 0, 1), (50, .goto 54, 3), (53, .lload 3, 1), (54, .lreturn, 1)]
def jcX11_forcedOf : List (Nat × Instr × Nat) := [(0, .iconst 0, 1), (1, .istore 3, 1), (2, .iconst 0, 1), (3, .istore 4, 2), (5, .iload 4, 2), (7, .iconst 8, 2), (9, .if_icmp .ge 62, 3), (12, .iload 4, 2), (14, .iload 2, 1), (15, .if_icmp .eq 34, 3), (18, .aload 0, 1), (19, .iconst 8, 2), (21, .iload 1, 1), (22, .imul, 1), (23, .iload 4, 2), (25, .iadd, 1), (26, .iaload, 1), (27, .iconst 2, 1), (28, .if_icmp .ne 34, 3), (31, .iinc 3 1, 3), (34, .iload 4, 2), (36, .iload 1, 1), (37, .if_icmp .eq 56, 3), (40, .aload 0, 1), (41, .iconst 8, 2), (43, .iload 4, 2), (45, .imul, 1), (46, .iload 2, 1), (47, .iadd, 1), (48, .iaload, 1), (49, .iconst 2, 1), (50, .if_icmp .ne 56, 3), (53, .iinc 3 1, 3), (56, .iinc 4 1, 3), (59, .goto 5, 3), (62, .iload 3, 1), (63, .ireturn, 1)]
def jcX11_isOpen : List (Nat × Instr × Nat) := [(0, .iconst 8, 2), (2, .iload 2, 1), (3, .imul, 1), (4, .iload 3, 1), (5, .iadd, 1), (6, .istore 4, 2), (8, .aload 0, 1), (9, .iload 2, 1), (10, .invokestatic 56701583, 3), (13, .ifCond .eq 59, 3), (16, .aload 0, 1), (17, .iload 3, 1), (18, .invokestatic 56701584, 3), (21, .ifCond .eq 59, 3), (24, .aload 0, 1), (25, .getfield 34372346507, 3), (28, .iload 4, 2), (30, .laload, 1), (31, .sipush (-1), 3), (34, .multianewarray 0 59, 4), (38, .aload 1, 1), (39, .iload 4, 2), (41, .iaload, 1), (42, .iconst 1, 1), (43, .if_icmp .eq 59, 3), (46, .aload 1, 1), (47, .iload 2, 1), (48, .iload 3, 1), (49, .invokestatic 23237558, 3), (52, .ifCond .ne 59, 3), (55, .iconst 1, 1), (56, .goto 60, 3), (59, .iconst 0, 1), (60, .ireturn, 1)]
def jcX11_tellsBurdens : List (Nat × Instr × Nat) := [(0, .iconst 0, 1), (1, .istore 1, 1), (2, .iload 1, 1), (3, .iconst 64, 2), (5, .if_icmp .ge 32, 3), (8, .aload 0, 1), (9, .getfield 34372346507, 3), (12, .iload 1, 1), (13, .aload 0, 1), (14, .iload 1, 1), (15, .iconst 8, 2), (17, .idiv, 1), (18, .iload 1, 1), (19, .iconst 8, 2), (21, .irem, 1), (22, .invokestatic 56796085, 3), (25, .lastore, 1), (26, .iinc 1 1, 3), (29, .goto 2, 3), (32, .return_, 1)]
def jcX11_opens_ : List (Nat × Instr × Nat) := [(0, .iconst 0, 1), (1, .istore 2, 1), (2, .iload 2, 1), (3, .iconst 64, 2), (5, .if_icmp .ge 48, 3), (8, .aload 0, 1), (9, .getfield 34372870811, 3), (12, .iload 2, 1), (13, .aload 0, 1), (14, .aload 1, 1), (15, .iload 2, 1), (16, .iconst 8, 2), (18, .idiv, 1), (19, .iload 2, 1), (20, .iconst 8, 2), (22, .irem, 1), (23, .invokestatic 56800439, 3), (26, .ifCond .eq 38, 3), (29, .aload 0, 1), (30, .getfield 34372346507, 3), (33, .iload 2, 1), (34, .laload, 1), (35, .goto 41, 3), (38, .sipush (-1), 3), (41, .lastore, 1), (42, .iinc 2 1, 3), (45, .goto 2, 3), (48, .return_, 1)]
def jcX11_costs : List (Nat × Instr × Nat) := [(0, .aload 0, 1), (1, .invokestatic 56689080, 3), (4, .aload 0, 1), (5, .aload 0, 1), (6, .getfield 34361843787, 3), (9, .invokestatic 56722105, 3), (12, .return_, 1)]
def jcX11_burden : List (Nat × Instr × Nat) := [(0, .iload 1, 1), (1, .iload 2, 1), (2, .invokestatic 23147150, 3), (5, .ifCond .ne 12, 3), (8, .sipush (-4611686018427387904), 3), (11, .lreturn, 1), (12, .aload 0, 1), (13, .iload 1, 1), (14, .iload 2, 1), (15, .invokestatic 56796085, 3), (18, .lstore 3, 1), (19, .lload 3, 1), (20, .sipush (-1), 3), (23, .multianewarray 1 33, 4), (27, .sipush (-4611686018427387904), 3), (30, .goto 34, 3), (33, .lload 3, 1), (34, .lreturn, 1)]
def jcX11_mark : List (Nat × Instr × Nat) := [(0, .iload 1, 1), (1, .iload 2, 1), (2, .invokestatic 23147150, 3), (5, .ifCond .eq 20, 3), (8, .iload 3, 1), (9, .i2l, 1), (10, .sipush 0, 1), (11, .sipush 2, 3), (14, .invokestatic 23278475, 3), (17, .ifCond .ne 23, 3), (20, .iconst (-2), 2), (22, .ireturn, 1), (23, .iload 3, 1), (24, .iconst 2, 1), (25, .if_icmp .ne 43, 3), (28, .aload 0, 1), (29, .getfield 34361843787, 3), (32, .iload 1, 1), (33, .iload 2, 1), (34, .invokestatic 23237558, 3), (37, .ifCond .le 43, 3), (40, .iconst (-3), 2), (42, .ireturn, 1), (43, .aload 0, 1), (44, .getfield 34361843787, 3), (47, .iconst 8, 2), (49, .iload 1, 1), (50, .imul, 1), (51, .iload 2, 1), (52, .iadd, 1), (53, .iaload, 1), (54, .istore 4, 2), (56, .aload 0, 1), (57, .getfield 34361843787, 3), (60, .iconst 8, 2), (62, .iload 1, 1), (63, .imul, 1), (64, .iload 2, 1), (65, .iadd, 1), (66, .iload 3, 1), (67, .iastore, 1), (68, .iload 4, 2), (70, .ireturn, 1)]
def jcX11_open : List (Nat × Instr × Nat) := [(0, .iload 1, 1), (1, .iload 2, 1), (2, .invokestatic 23147150, 3), (5, .ifCond .ne 11, 3), (8, .iconst (-2), 2), (10, .ireturn, 1), (11, .aload 0, 1), (12, .invokestatic 56656314, 3), (15, .aload 0, 1), (16, .getfield 34372870811, 3), (19, .iconst 8, 2), (21, .iload 1, 1), (22, .imul, 1), (23, .iload 2, 1), (24, .iadd, 1), (25, .laload, 1), (26, .sipush (-1), 3), (29, .multianewarray 1 37, 4), (33, .iconst 0, 1), (34, .goto 38, 3), (37, .iconst 1, 1), (38, .ireturn, 1)]
def jcX11_openMany : List (Nat × Instr × Nat) := [(0, .iconst 0, 1), (1, .istore 1, 1), (2, .iconst 0, 1), (3, .istore 2, 1), (4, .iload 2, 1), (5, .iconst 64, 2), (7, .if_icmp .ge 32, 3), (10, .aload 0, 1), (11, .getfield 34372870811, 3), (14, .iload 2, 1), (15, .laload, 1), (16, .sipush (-1), 3), (19, .multianewarray 0 26, 4), (23, .iinc 1 1, 3), (26, .iinc 2 1, 3), (29, .goto 4, 3), (32, .iload 1, 1), (33, .ireturn, 1)]
def jcX11_least : List (Nat × Instr × Nat) := [(0, .iconst 0, 1), (1, .istore 1, 1), (2, .iload 1, 1), (3, .iconst 256, 3), (6, .if_icmp .ge 37, 3), (9, .aload 0, 1), (10, .getfield 1236964237995, 3), (13, .iconst 2048, 3), (16, .iload 1, 1), (17, .iadd, 1), (18, .sipush 0, 1), (19, .lastore, 1), (20, .aload 0, 1), (21, .getfield 1236964745915, 3), (24, .iconst 2048, 3), (27, .iload 1, 1), (28, .iadd, 1), (29, .iconst 1, 1), (30, .iastore, 1), (31, .iinc 1 1, 3), (34, .goto 2, 3), (37, .iconst 7, 2), (39, .istore 1, 1), (40, .iload 1, 1), (41, .ifCond .lt 297, 3), (44, .iconst 0, 1), (45, .istore 2, 1), (46, .iload 2, 1), (47, .iconst 256, 3), (50, .if_icmp .ge 291, 3), (53, .iload 1, 1), (54, .iconst 256, 3), (57, .imul, 1), (58, .iload 2, 1), (59, .iadd, 1), (60, .istore 3, 1), (61, .aload 0, 1), (62, .getfield 1236964237995, 3), (65, .iload 3, 1), (66, .aload 0, 1), (67, .iload 1, 1), (68, .invokestatic 56701584, 3), (71, .ifCond .eq 80, 3), (74, .sipush 1125899906842624, 3), (77, .goto 90, 3), (80, .aload 0, 1), (81, .getfield 1236964237995, 3), (84, .iload 3, 1), (85, .iconst 256, 3), (88, .iadd, 1), (89, .laload, 1), (90, .lastore, 1), (91, .aload 0, 1), (92, .getfield 1236964745915, 3), (95, .iload 3, 1), (96, .aload 0, 1), (97, .iload 1, 1), (98, .invokestatic 56701584, 3), (101, .ifCond .eq 108, 3), (104, .iconst 0, 1), (105, .goto 118, 3), (108, .aload 0, 1), (109, .getfield 1236964745915, 3), (112, .iload 3, 1), (113, .iconst 256, 3), (116, .iadd, 1), (117, .iaload, 1), (118, .iastore, 1), (119, .iconst 0, 1), (120, .istore 4, 2), (122, .iload 4, 2), (124, .iconst 8, 2), (126, .if_icmp .ge 285, 3), (129, .aload 0, 1), (130, .iload 1, 1), (131, .invokestatic 56701584, 3), (134, .ifCond .eq 285, 3), (137, .iload 2, 1), (138, .iload 4, 2), (140, .ishr, 1), (141, .iconst 1, 1), (142, .iand, 1), (143, .iconst 1, 1), (144, .if_icmp .eq 279, 3), (147, .aload 0, 1), (148, .getfield 34372870811, 3), (151, .iconst 8, 2), (153, .iload 4, 2), (155, .imul, 1), (156, .iload 1, 1), (157, .iadd, 1), (158, .laload, 1), (159, .sipush (-1), 3), (162, .multianewarray 1 169, 4), (166, .goto 279, 3), (169, .iload 1, 1), (170, .iconst 1, 1), (171, .iadd, 1), (172, .iconst 256, 3), (175, .imul, 1), (176, .iload 2, 1), (177, .iconst 1, 1), (178, .iload 4, 2), (180, .ishl, 1), (181, .ior, 1), (182, .iadd, 1), (183, .istore 5, 2), (185, .aload 0, 1), (186, .getfield 1236964237995, 3), (189, .iload 5, 2), (191, .laload, 1), (192, .sipush 1125899906842624, 3), (195, .multianewarray 1 202, 4), (199, .goto 279, 3), (202, .aload 0, 1), (203, .getfield 34372870811, 3), (206, .iconst 8, 2), (208, .iload 4, 2), (210, .imul, 1), (211, .iload 1, 1), (212, .iadd, 1), (213, .laload, 1), (214, .aload 0, 1), (215, .getfield 1236964237995, 3), (218, .iload 5, 2), (220, .laload, 1), (221, .ladd, 1), (222, .lstore 6, 2), (224, .lload 6, 2), (226, .aload 0, 1), (227, .getfield 1236964237995, 3), (230, .iload 3, 1), (231, .laload, 1), (232, .multianewarray 3 251, 4), (236, .aload 0, 1), (237, .getfield 1236964237995, 3), (240, .iload 3, 1), (241, .lload 6, 2), (243, .lastore, 1), (244, .aload 0, 1), (245, .getfield 1236964745915, 3), (248, .iload 3, 1), (249, .iconst 0, 1), (250, .iastore, 1), (251, .lload 6, 2), (253, .aload 0, 1), (254, .getfield 1236964237995, 3), (257, .iload 3, 1), (258, .laload, 1), (259, .multianewarray 1 279, 4), (263, .aload 0, 1), (264, .getfield 1236964745915, 3), (267, .iload 3, 1), (268, .dup2, 1), (269, .iaload, 1), (270, .aload 0, 1), (271, .getfield 1236964745915, 3), (274, .iload 5, 2), (276, .iaload, 1), (277, .iadd, 1), (278, .iastore, 1), (279, .iinc 4 1, 3), (282, .goto 122, 3), (285, .iinc 2 1, 3), (288, .goto 46, 3), (291, .iinc 1 (-1), 3), (294, .goto 40, 3), (297, .aload 0, 1), (298, .getfield 1236964237995, 3), (301, .iconst 0, 1), (302, .laload, 1), (303, .lreturn, 1)]
def jcX11_toldOr : List (Nat × Instr × Nat) := [(0, .lload 0, 1), (1, .sipush 1125899906842624, 3), (4, .multianewarray 1 14, 4), (8, .sipush (-4611686018427387904), 3), (11, .goto 15, 3), (14, .lload 0, 1), (15, .lreturn, 1)]
def jcX11_picks : List (Nat × Instr × Nat) := [(0, .iload 1, 1), (1, .istore 2, 1), (2, .iconst 0, 1), (3, .istore 3, 1), (4, .iconst 0, 1), (5, .istore 4, 2), (7, .iload 4, 2), (9, .iconst 8, 2), (11, .if_icmp .ge 225, 3), (14, .aload 0, 1), (15, .getfield 4309656267, 3), (18, .iload 4, 2), (20, .iconst (-1), 1), (21, .iastore, 1), (22, .iconst 0, 1), (23, .istore 5, 2), (25, .iload 5, 2), (27, .iconst 8, 2), (29, .if_icmp .ge 196, 3), (32, .aload 0, 1), (33, .iload 4, 2), (35, .invokestatic 56701584, 3), (38, .ifCond .eq 196, 3), (41, .aload 0, 1), (42, .getfield 4309656267, 3), (45, .iload 4, 2), (47, .iaload, 1), (48, .iconst (-1), 1), (49, .if_icmp .ne 196, 3), (52, .iload 3, 1), (53, .iload 5, 2), (55, .ishr, 1), (56, .iconst 1, 1), (57, .iand, 1), (58, .iconst 1, 1), (59, .if_icmp .eq 190, 3), (62, .aload 0, 1), (63, .getfield 34372870811, 3), (66, .iconst 8, 2), (68, .iload 5, 2), (70, .imul, 1), (71, .iload 4, 2), (73, .iadd, 1), (74, .laload, 1), (75, .sipush (-1), 3), (78, .multianewarray 1 85, 4), (82, .goto 190, 3), (85, .iload 4, 2), (87, .iconst 1, 1), (88, .iadd, 1), (89, .iconst 256, 3), (92, .imul, 1), (93, .iload 3, 1), (94, .iconst 1, 1), (95, .iload 5, 2), (97, .ishl, 1), (98, .ior, 1), (99, .iadd, 1), (100, .istore 6, 2), (102, .aload 0, 1), (103, .getfield 1236964237995, 3), (106, .iload 6, 2), (108, .laload, 1), (109, .sipush 1125899906842624, 3), (112, .multianewarray 0 190, 4), (116, .aload 0, 1), (117, .getfield 34372870811, 3), (120, .iconst 8, 2), (122, .iload 5, 2), (124, .imul, 1), (125, .iload 4, 2), (127, .iadd, 1), (128, .laload, 1), (129, .aload 0, 1), (130, .getfield 1236964237995, 3), (133, .iload 6, 2), (135, .laload, 1), (136, .ladd, 1), (137, .aload 0, 1), (138, .getfield 1236964237995, 3), (141, .iload 4, 2), (143, .iconst 256, 3), (146, .imul, 1), (147, .iload 3, 1), (148, .iadd, 1), (149, .laload, 1), (150, .multianewarray 0 157, 4), (154, .goto 190, 3), (157, .iload 2, 1), (158, .aload 0, 1), (159, .getfield 1236964745915, 3), (162, .iload 6, 2), (164, .iaload, 1), (165, .if_icmp .lt 181, 3), (168, .iload 2, 1), (169, .aload 0, 1), (170, .getfield 1236964745915, 3), (173, .iload 6, 2), (175, .iaload, 1), (176, .isub, 1), (177, .istore 2, 1), (178, .goto 190, 3), (181, .aload 0, 1), (182, .getfield 4309656267, 3), (185, .iload 4, 2), (187, .iload 5, 2), (189, .iastore, 1), (190, .iinc 5 1, 3), (193, .goto 25, 3), (196, .aload 0, 1), (197, .getfield 4309656267, 3), (200, .iload 4, 2), (202, .iaload, 1), (203, .iconst (-1), 1), (204, .if_icmp .eq 219, 3), (207, .iload 3, 1), (208, .iconst 1, 1), (209, .aload 0, 1), (210, .getfield 4309656267, 3), (213, .iload 4, 2), (215, .iaload, 1), (216, .ishl, 1), (217, .ior, 1), (218, .istore 3, 1), (219, .iinc 4 1, 3), (222, .goto 7, 3), (225, .return_, 1)]
def jcX11_tell : List (Nat × Instr × Nat) := [(0, .iload 1, 1), (1, .iload 2, 1), (2, .invokestatic 23147150, 3), (5, .ifCond .eq 21, 3), (8, .lload 3, 1), (9, .sipush (-1), 3), (12, .sipush 1000000000, 3), (15, .invokestatic 23278475, 3), (18, .ifCond .ne 25, 3), (21, .sipush (-2), 3), (24, .lreturn, 1), (25, .aload 0, 1), (26, .getfield 34361335867, 3), (29, .iconst 8, 2), (31, .iload 1, 1), (32, .imul, 1), (33, .iload 2, 1), (34, .iadd, 1), (35, .lload 3, 1), (36, .lastore, 1), (37, .aload 0, 1), (38, .invokestatic 56664515, 3), (41, .lreturn, 1)]
def jcX11_total : List (Nat × Instr × Nat) := [(0, .aload 0, 1), (1, .invokestatic 56656314, 3), (4, .aload 0, 1), (5, .invokestatic 56893887, 3), (8, .invokestatic 23142848, 3), (11, .lreturn, 1)]
def jcX11_many : List (Nat × Instr × Nat) := [(0, .aload 0, 1), (1, .invokestatic 56656314, 3), (4, .aload 0, 1), (5, .invokestatic 56893887, 3), (8, .sipush 1125899906842624, 3), (11, .multianewarray 1 19, 4), (15, .iconst 0, 1), (16, .goto 25, 3), (19, .aload 0, 1), (20, .getfield 1236964745915, 3), (23, .iconst 0, 1), (24, .iaload, 1), (25, .ireturn, 1)]
def jcX11_best : List (Nat × Instr × Nat) := [(0, .iload 2, 1), (1, .i2l, 1), (2, .sipush 0, 1), (3, .sipush 7, 3), (6, .invokestatic 23278475, 3), (9, .ifCond .ne 15, 3), (12, .iconst (-2), 2), (14, .ireturn, 1), (15, .aload 0, 1), (16, .invokestatic 56656314, 3), (19, .aload 0, 1), (20, .invokestatic 56893887, 3), (23, .sipush 1125899906842624, 3), (26, .multianewarray 0 48, 4), (30, .iload 1, 1), (31, .i2l, 1), (32, .sipush 0, 1), (33, .aload 0, 1), (34, .getfield 1236964745915, 3), (37, .iconst 0, 1), (38, .iaload, 1), (39, .iconst 1, 1), (40, .isub, 1), (41, .i2l, 1), (42, .invokestatic 23278475, 3), (45, .ifCond .ne 51, 3), (48, .iconst (-3), 2), (50, .ireturn, 1), (51, .aload 0, 1), (52, .iload 1, 1), (53, .invokestatic 56853185, 3), (56, .aload 0, 1), (57, .getfield 4309656267, 3), (60, .iload 2, 1), (61, .iaload, 1), (62, .ireturn, 1)]
def jcX11_with : List (Nat × Instr × Nat) := [(0, .aload 0, 1), (1, .getfield 34372870811, 3), (4, .iconst 8, 2), (6, .iload 1, 1), (7, .imul, 1), (8, .iload 2, 1), (9, .iadd, 1), (10, .laload, 1), (11, .sipush (-1), 3), (14, .multianewarray 1 22, 4), (18, .sipush 1125899906842624, 3), (21, .lreturn, 1), (22, .iconst 0, 1), (23, .istore 3, 1), (24, .iload 3, 1), (25, .iconst 8, 2), (27, .if_icmp .ge 72, 3), (30, .aload 0, 1), (31, .getfield 4310196955, 3), (34, .iload 3, 1), (35, .aload 0, 1), (36, .getfield 34372870811, 3), (39, .iconst 8, 2), (41, .iload 3, 1), (42, .imul, 1), (43, .iload 2, 1), (44, .iadd, 1), (45, .laload, 1), (46, .lastore, 1), (47, .iload 3, 1), (48, .iload 1, 1), (49, .if_icmp .eq 66, 3), (52, .aload 0, 1), (53, .getfield 34372870811, 3), (56, .iconst 8, 2), (58, .iload 3, 1), (59, .imul, 1), (60, .iload 2, 1), (61, .iadd, 1), (62, .sipush (-1), 3), (65, .lastore, 1), (66, .iinc 3 1, 3), (69, .goto 24, 3), (72, .aload 0, 1), (73, .invokestatic 56893887, 3), (76, .lstore 3, 1), (77, .iconst 0, 1), (78, .istore 5, 2), (80, .iload 5, 2), (82, .iconst 8, 2), (84, .if_icmp .ge 112, 3), (87, .aload 0, 1), (88, .getfield 34372870811, 3), (91, .iconst 8, 2), (93, .iload 5, 2), (95, .imul, 1), (96, .iload 2, 1), (97, .iadd, 1), (98, .aload 0, 1), (99, .getfield 4310196955, 3), (102, .iload 5, 2), (104, .laload, 1), (105, .lastore, 1), (106, .iinc 5 1, 3), (109, .goto 80, 3), (112, .lload 3, 1), (113, .lreturn, 1)]
def jcX11_lacking : List (Nat × Instr × Nat) := [(0, .aload 0, 1), (1, .getfield 34372870811, 3), (4, .iconst 8, 2), (6, .iload 1, 1), (7, .imul, 1), (8, .iload 2, 1), (9, .iadd, 1), (10, .laload, 1), (11, .lstore 3, 1), (12, .aload 0, 1), (13, .getfield 34372870811, 3), (16, .iconst 8, 2), (18, .iload 1, 1), (19, .imul, 1), (20, .iload 2, 1), (21, .iadd, 1), (22, .sipush (-1), 3), (25, .lastore, 1), (26, .aload 0, 1), (27, .invokestatic 56893887, 3), (30, .lstore 5, 2), (32, .aload 0, 1), (33, .getfield 34372870811, 3), (36, .iconst 8, 2), (38, .iload 1, 1), (39, .imul, 1), (40, .iload 2, 1), (41, .iadd, 1), (42, .lload 3, 1), (43, .lastore, 1), (44, .lload 5, 2), (46, .lreturn, 1)]
def jcX11_kind : List (Nat × Instr × Nat) := [(0, .iload 1, 1), (1, .iload 2, 1), (2, .invokestatic 23147150, 3), (5, .ifCond .ne 11, 3), (8, .iconst (-2), 2), (10, .ireturn, 1), (11, .aload 0, 1), (12, .invokestatic 56656314, 3), (15, .aload 0, 1), (16, .invokestatic 56893887, 3), (19, .lstore 3, 1), (20, .lload 3, 1), (21, .sipush 1125899906842624, 3), (24, .multianewarray 1 31, 4), (28, .iconst (-3), 2), (30, .ireturn, 1), (31, .aload 0, 1), (32, .iload 1, 1), (33, .iload 2, 1), (34, .invokestatic 56828870, 3), (37, .lload 3, 1), (38, .multianewarray 0 46, 4), (42, .iconst 0, 1), (43, .goto 62, 3), (46, .aload 0, 1), (47, .iload 1, 1), (48, .iload 2, 1), (49, .invokestatic 56861639, 3), (52, .lload 3, 1), (53, .multianewarray 1 61, 4), (57, .iconst 1, 1), (58, .goto 62, 3), (61, .iconst 2, 1), (62, .ireturn, 1)]
def jcX11_room : List (Nat × Instr × Nat) := [(0, .iload 1, 1), (1, .iload 2, 1), (2, .invokestatic 23147150, 3), (5, .ifCond .eq 18, 3), (8, .iload 3, 1), (9, .i2l, 1), (10, .sipush 0, 1), (11, .sipush 1, 1), (12, .invokestatic 23278475, 3), (15, .ifCond .ne 22, 3), (18, .sipush (-4611686018427387904), 3), (21, .lreturn, 1), (22, .aload 0, 1), (23, .invokestatic 56656314, 3), (26, .iload 3, 1), (27, .ifCond .ne 39, 3), (30, .aload 0, 1), (31, .iload 1, 1), (32, .iload 2, 1), (33, .invokestatic 56828870, 3), (36, .goto 45, 3), (39, .aload 0, 1), (40, .iload 1, 1), (41, .iload 2, 1), (42, .invokestatic 56861639, 3), (45, .invokestatic 23142848, 3), (48, .lreturn, 1)]
def jcX11_enters : List (Nat × Instr × Nat) := [(0, .aload 0, 1), (1, .getfield 779, 3), (4, .istore 3, 1), (5, .iload 3, 1), (6, .ifCond .le 84, 3), (9, .aload 0, 1), (10, .getfield 6995075819, 3), (13, .iload 3, 1), (14, .iconst 1, 1), (15, .isub, 1), (16, .laload, 1), (17, .lload 1, 1), (18, .multianewarray 5 84, 4), (22, .aload 0, 1), (23, .getfield 6995075819, 3), (26, .iload 3, 1), (27, .aload 0, 1), (28, .getfield 6995075819, 3), (31, .iload 3, 1), (32, .iconst 1, 1), (33, .isub, 1), (34, .laload, 1), (35, .lastore, 1), (36, .iconst 0, 1), (37, .istore 4, 2), (39, .iload 4, 2), (41, .iconst 8, 2), (43, .if_icmp .ge 78, 3), (46, .aload 0, 1), (47, .getfield 55850836731, 3), (50, .iconst 8, 2), (52, .iload 3, 1), (53, .imul, 1), (54, .iload 4, 2), (56, .iadd, 1), (57, .aload 0, 1), (58, .getfield 55850836731, 3), (61, .iconst 8, 2), (63, .iload 3, 1), (64, .iconst 1, 1), (65, .isub, 1), (66, .imul, 1), (67, .iload 4, 2), (69, .iadd, 1), (70, .iaload, 1), (71, .iastore, 1), (72, .iinc 4 1, 3), (75, .goto 39, 3), (78, .iinc 3 (-1), 3), (81, .goto 5, 3), (84, .aload 0, 1), (85, .getfield 6995075819, 3), (88, .iload 3, 1), (89, .lload 1, 1), (90, .lastore, 1), (91, .iconst 0, 1), (92, .istore 4, 2), (94, .iload 4, 2), (96, .iconst 8, 2), (98, .if_icmp .ge 126, 3), (101, .aload 0, 1), (102, .getfield 55850836731, 3), (105, .iconst 8, 2), (107, .iload 3, 1), (108, .imul, 1), (109, .iload 4, 2), (111, .iadd, 1), (112, .aload 0, 1), (113, .getfield 4309656267, 3), (116, .iload 4, 2), (118, .iaload, 1), (119, .iastore, 1), (120, .iinc 4 1, 3), (123, .goto 94, 3), (126, .aload 0, 1), (127, .getfield 779, 3), (130, .iconst 12, 2), (132, .if_icmp .ge 145, 3), (135, .aload 0, 1), (136, .dup, 1), (137, .getfield 779, 3), (140, .iconst 1, 1), (141, .iadd, 1), (142, .putfield 779, 3), (145, .return_, 1)]
def jcX11_walks : List (Nat × Instr × Nat) := [(0, .iload 1, 1), (1, .iconst 8, 2), (3, .if_icmp .ne 12, 3), (6, .aload 0, 1), (7, .lload 3, 1), (8, .invokestatic 56787658, 3), (11, .return_, 1), (12, .aload 0, 1), (13, .getfield 4309656267, 3), (16, .iload 1, 1), (17, .iconst (-1), 1), (18, .iastore, 1), (19, .aload 0, 1), (20, .iload 1, 1), (21, .invokestatic 56701584, 3), (24, .ifCond .ne 37, 3), (27, .aload 0, 1), (28, .iload 1, 1), (29, .iconst 1, 1), (30, .iadd, 1), (31, .iload 2, 1), (32, .lload 3, 1), (33, .invokestatic 56952011, 3), (36, .return_, 1), (37, .iconst 0, 1), (38, .istore 5, 2), (40, .iload 5, 2), (42, .iconst 8, 2), (44, .if_icmp .ge 182, 3), (47, .iload 2, 1), (48, .iload 5, 2), (50, .ishr, 1), (51, .iconst 1, 1), (52, .iand, 1), (53, .iconst 1, 1), (54, .if_icmp .eq 176, 3), (57, .aload 0, 1), (58, .getfield 34372870811, 3), (61, .iconst 8, 2), (63, .iload 5, 2), (65, .imul, 1), (66, .iload 1, 1), (67, .iadd, 1), (68, .laload, 1), (69, .sipush (-1), 3), (72, .multianewarray 1 79, 4), (76, .goto 176, 3), (79, .aload 0, 1), (80, .getfield 1236964237995, 3), (83, .iload 1, 1), (84, .iconst 1, 1), (85, .iadd, 1), (86, .iconst 256, 3), (89, .imul, 1), (90, .iload 2, 1), (91, .iconst 1, 1), (92, .iload 5, 2), (94, .ishl, 1), (95, .ior, 1), (96, .iadd, 1), (97, .laload, 1), (98, .lstore 6, 2), (100, .lload 3, 1), (101, .aload 0, 1), (102, .getfield 34372870811, 3), (105, .iconst 8, 2), (107, .iload 5, 2), (109, .imul, 1), (110, .iload 1, 1), (111, .iadd, 1), (112, .laload, 1), (113, .ladd, 1), (114, .lstore 8, 2), (116, .lload 6, 2), (118, .sipush 1125899906842624, 3), (121, .multianewarray 0 176, 4), (125, .aload 0, 1), (126, .getfield 779, 3), (129, .iconst 12, 2), (131, .if_icmp .ne 153, 3), (134, .lload 8, 2), (136, .lload 6, 2), (138, .ladd, 1), (139, .aload 0, 1), (140, .getfield 6995075819, 3), (143, .iconst 11, 2), (145, .laload, 1), (146, .multianewarray 2 153, 4), (150, .goto 176, 3), (153, .aload 0, 1), (154, .getfield 4309656267, 3), (157, .iload 1, 1), (158, .iload 5, 2), (160, .iastore, 1), (161, .aload 0, 1), (162, .iload 1, 1), (163, .iconst 1, 1), (164, .iadd, 1), (165, .iload 2, 1), (166, .iconst 1, 1), (167, .iload 5, 2), (169, .ishl, 1), (170, .ior, 1), (171, .lload 8, 2), (173, .invokestatic 56952011, 3), (176, .iinc 5 1, 3), (179, .goto 40, 3), (182, .return_, 1)]
def jcX11_lists : List (Nat × Instr × Nat) := [(0, .aload 0, 1), (1, .iconst 0, 1), (2, .putfield 779, 3), (5, .aload 0, 1), (6, .invokestatic 56893887, 3), (9, .sipush 1125899906842624, 3), (12, .multianewarray 0 23, 4), (16, .aload 0, 1), (17, .iconst 0, 1), (18, .iconst 0, 1), (19, .sipush 0, 1), (20, .invokestatic 56952011, 3), (23, .return_, 1)]
def jcX11_next_ : List (Nat × Instr × Nat) := [(0, .iload 1, 1), (1, .i2l, 1), (2, .sipush 0, 1), (3, .sipush 11, 3), (6, .invokestatic 23278475, 3), (9, .ifCond .eq 26, 3), (12, .iload 2, 1), (13, .i2l, 1), (14, .sipush (-1), 3), (17, .sipush 7, 3), (20, .invokestatic 23278475, 3), (23, .ifCond .ne 30, 3), (26, .sipush (-4611686018427387904), 3), (29, .lreturn, 1), (30, .aload 0, 1), (31, .invokestatic 56656314, 3), (34, .aload 0, 1), (35, .invokestatic 56656332, 3), (38, .iload 1, 1), (39, .aload 0, 1), (40, .getfield 779, 3), (43, .if_icmp .lt 50, 3), (46, .sipush (-4611686018427387904), 3), (49, .lreturn, 1), (50, .iload 2, 1), (51, .iconst (-1), 1), (52, .if_icmp .ne 64, 3), (55, .aload 0, 1), (56, .getfield 6995075819, 3), (59, .iload 1, 1), (60, .laload, 1), (61, .goto 76, 3), (64, .aload 0, 1), (65, .getfield 55850836731, 3), (68, .iconst 8, 2), (70, .iload 1, 1), (71, .imul, 1), (72, .iload 2, 1), (73, .iadd, 1), (74, .iaload, 1), (75, .i2l, 1), (76, .lreturn, 1)]
def jcX11_heaviest : List (Nat × Instr × Nat) := [(0, .iconst 0, 1), (1, .istore 1, 1), (2, .iload 1, 1), (3, .iconst 256, 3), (6, .if_icmp .ge 26, 3), (9, .aload 0, 1), (10, .getfield 1236967383835, 3), (13, .iconst 2048, 3), (16, .iload 1, 1), (17, .iadd, 1), (18, .sipush 0, 1), (19, .lastore, 1), (20, .iinc 1 1, 3), (23, .goto 2, 3), (26, .iconst 7, 2), (28, .istore 1, 1), (29, .iload 1, 1), (30, .ifCond .lt 191, 3), (33, .iconst 0, 1), (34, .istore 2, 1), (35, .iload 2, 1), (36, .iconst 256, 3), (39, .if_icmp .ge 185, 3), (42, .aload 0, 1), (43, .iload 1, 1), (44, .invokestatic 56701584, 3), (47, .ifCond .eq 56, 3), (50, .sipush 1125899906842624, 3), (53, .goto 70, 3), (56, .aload 0, 1), (57, .getfield 1236967383835, 3), (60, .iload 1, 1), (61, .iconst 1, 1), (62, .iadd, 1), (63, .iconst 256, 3), (66, .imul, 1), (67, .iload 2, 1), (68, .iadd, 1), (69, .laload, 1), (70, .lstore 3, 1), (71, .iconst 0, 1), (72, .istore 5, 2), (74, .iload 5, 2), (76, .iconst 8, 2), (78, .if_icmp .ge 166, 3), (81, .aload 0, 1), (82, .iload 1, 1), (83, .invokestatic 56701584, 3), (86, .ifCond .eq 166, 3), (89, .iload 2, 1), (90, .iload 5, 2), (92, .ishr, 1), (93, .iconst 1, 1), (94, .iand, 1), (95, .iconst 1, 1), (96, .if_icmp .eq 160, 3), (99, .aload 0, 1), (100, .getfield 34372870811, 3), (103, .iconst 8, 2), (105, .iload 5, 2), (107, .imul, 1), (108, .iload 1, 1), (109, .iadd, 1), (110, .laload, 1), (111, .sipush (-1), 3), (114, .multianewarray 1 121, 4), (118, .goto 160, 3), (121, .lload 3, 1), (122, .aload 0, 1), (123, .getfield 34372870811, 3), (126, .iconst 8, 2), (128, .iload 5, 2), (130, .imul, 1), (131, .iload 1, 1), (132, .iadd, 1), (133, .laload, 1), (134, .aload 0, 1), (135, .getfield 1236967383835, 3), (138, .iload 1, 1), (139, .iconst 1, 1), (140, .iadd, 1), (141, .iconst 256, 3), (144, .imul, 1), (145, .iload 2, 1), (146, .iconst 1, 1), (147, .iload 5, 2), (149, .ishl, 1), (150, .ior, 1), (151, .iadd, 1), (152, .laload, 1), (153, .invokestatic 297935605, 3), (156, .invokestatic 297935606, 3), (159, .lstore 3, 1), (160, .iinc 5 1, 3), (163, .goto 74, 3), (166, .aload 0, 1), (167, .getfield 1236967383835, 3), (170, .iload 1, 1), (171, .iconst 256, 3), (174, .imul, 1), (175, .iload 2, 1), (176, .iadd, 1), (177, .lload 3, 1), (178, .lastore, 1), (179, .iinc 2 1, 3), (182, .goto 35, 3), (185, .iinc 1 (-1), 3), (188, .goto 29, 3), (191, .aload 0, 1), (192, .getfield 1236967383835, 3), (195, .iconst 0, 1), (196, .laload, 1), (197, .lreturn, 1)]
def jcX11_fair : List (Nat × Instr × Nat) := [(0, .iload 1, 1), (1, .i2l, 1), (2, .sipush 0, 1), (3, .sipush 2, 3), (6, .invokestatic 23278475, 3), (9, .ifCond .ne 16, 3), (12, .sipush (-4611686018427387904), 3), (15, .lreturn, 1), (16, .aload 0, 1), (17, .invokestatic 56656314, 3), (20, .aload 0, 1), (21, .invokestatic 56828366, 3), (24, .lstore 2, 1), (25, .lload 2, 1), (26, .sipush 1125899906842624, 3), (29, .multianewarray 1 37, 4), (33, .sipush (-4611686018427387904), 3), (36, .lreturn, 1), (37, .iload 1, 1), (38, .ifCond .ne 43, 3), (41, .lload 2, 1), (42, .lreturn, 1), (43, .iconst 0, 1), (44, .istore 4, 2), (46, .iconst 0, 1), (47, .istore 5, 2), (49, .iload 5, 2), (51, .iconst 64, 2), (53, .if_icmp .ge 104, 3), (56, .aload 0, 1), (57, .getfield 34372870811, 3), (60, .iload 5, 2), (62, .laload, 1), (63, .sipush (-1), 3), (66, .multianewarray 0 98, 4), (70, .aload 0, 1), (71, .getfield 34372870811, 3), (74, .iload 5, 2), (76, .laload, 1), (77, .lload 2, 1), (78, .multianewarray 4 85, 4), (82, .goto 98, 3), (85, .iinc 4 1, 3), (88, .aload 0, 1), (89, .getfield 34372870811, 3), (92, .iload 5, 2), (94, .sipush (-1), 3), (97, .lastore, 1), (98, .iinc 5 1, 3), (101, .goto 49, 3), (104, .iload 1, 1), (105, .iconst 2, 1), (106, .if_icmp .ne 115, 3), (109, .iload 4, 2), (111, .i2l, 1), (112, .goto 119, 3), (115, .aload 0, 1), (116, .invokestatic 56893887, 3), (119, .lreturn, 1)]
def jcX11_finds : List (Nat × Instr × Nat) := [(0, .iconst 0, 1), (1, .istore 2, 1), (2, .iload 2, 1), (3, .iconst 8, 2), (5, .if_icmp .ge 89, 3), (8, .aload 0, 1), (9, .getfield 4316472251, 3), (12, .iload 1, 1), (13, .iaload, 1), (14, .iload 2, 1), (15, .ishr, 1), (16, .iconst 1, 1), (17, .iand, 1), (18, .ifCond .eq 83, 3), (21, .aload 0, 1), (22, .getfield 987, 3), (25, .iload 2, 1), (26, .ishr, 1), (27, .iconst 1, 1), (28, .iand, 1), (29, .iconst 1, 1), (30, .if_icmp .ne 36, 3), (33, .goto 83, 3), (36, .aload 0, 1), (37, .dup, 1), (38, .getfield 987, 3), (41, .iconst 1, 1), (42, .iload 2, 1), (43, .ishl, 1), (44, .ior, 1), (45, .putfield 987, 3), (48, .aload 0, 1), (49, .getfield 4316996555, 3), (52, .iload 2, 1), (53, .iaload, 1), (54, .iconst (-1), 1), (55, .if_icmp .eq 74, 3), (58, .aload 0, 1), (59, .aload 0, 1), (60, .getfield 4316996555, 3), (63, .iload 2, 1), (64, .iaload, 1), (65, .invokestatic 56734416, 3), (68, .ifCond .ne 74, 3), (71, .goto 83, 3), (74, .aload 0, 1), (75, .getfield 4316996555, 3), (78, .iload 2, 1), (79, .iload 1, 1), (80, .iastore, 1), (81, .iconst 1, 1), (82, .ireturn, 1), (83, .iinc 2 1, 3), (86, .goto 2, 3), (89, .iconst 0, 1), (90, .ireturn, 1)]
def jcX11_greatest : List (Nat × Instr × Nat) := [(0, .iconst 0, 1), (1, .istore 2, 1), (2, .iload 2, 1), (3, .iconst 8, 2), (5, .if_icmp .ge 21, 3), (8, .aload 0, 1), (9, .getfield 4316996555, 3), (12, .iload 2, 1), (13, .iconst (-1), 1), (14, .iastore, 1), (15, .iinc 2 1, 3), (18, .goto 2, 3), (21, .iconst 0, 1), (22, .istore 2, 1), (23, .iconst 0, 1), (24, .istore 3, 1), (25, .iload 3, 1), (26, .iconst 8, 2), (28, .if_icmp .ge 66, 3), (31, .aload 0, 1), (32, .iconst 0, 1), (33, .putfield 987, 3), (36, .iload 3, 1), (37, .iload 1, 1), (38, .if_icmp .eq 60, 3), (41, .aload 0, 1), (42, .iload 3, 1), (43, .invokestatic 56701584, 3), (46, .ifCond .eq 60, 3), (49, .aload 0, 1), (50, .iload 3, 1), (51, .invokestatic 56734416, 3), (54, .ifCond .eq 60, 3), (57, .iinc 2 1, 3), (60, .iinc 3 1, 3), (63, .goto 25, 3), (66, .iload 2, 1), (67, .ireturn, 1)]
def jcX11_marking : List (Nat × Instr × Nat) := [(0, .aload 0, 1), (1, .iconst (-1), 1), (2, .invokestatic 56758993, 3), (5, .istore 1, 1), (6, .aload 0, 1), (7, .iconst 0, 1), (8, .putfield 1003, 3), (11, .aload 0, 1), (12, .iconst 0, 1), (13, .putfield 1019, 3), (16, .iconst 0, 1), (17, .istore 2, 1), (18, .iload 2, 1), (19, .iconst 8, 2), (21, .if_icmp .ge 77, 3), (24, .aload 0, 1), (25, .iload 2, 1), (26, .invokestatic 56701584, 3), (29, .ifCond .eq 71, 3), (32, .aload 0, 1), (33, .iload 2, 1), (34, .invokestatic 56758993, 3), (37, .iload 1, 1), (38, .if_icmp .ge 44, 3), (41, .goto 71, 3), (44, .aload 0, 1), (45, .dup, 1), (46, .getfield 1003, 3), (49, .iconst 1, 1), (50, .iload 2, 1), (51, .ishl, 1), (52, .ior, 1), (53, .putfield 1003, 3), (56, .aload 0, 1), (57, .dup, 1), (58, .getfield 1019, 3), (61, .aload 0, 1), (62, .getfield 4316472251, 3), (65, .iload 2, 1), (66, .iaload, 1), (67, .ior, 1), (68, .putfield 1019, 3), (71, .iinc 2 1, 3), (74, .goto 18, 3), (77, .iload 1, 1), (78, .ireturn, 1)]
def jcX11_casesIn : List (Nat × Instr × Nat) := [(0, .iconst 0, 1), (1, .istore 1, 1), (2, .iconst 0, 1), (3, .istore 2, 1), (4, .iload 2, 1), (5, .iconst 8, 2), (7, .if_icmp .ge 30, 3), (10, .aload 0, 1), (11, .iload 2, 1), (12, .invokestatic 56701584, 3), (15, .ifCond .eq 24, 3), (18, .iload 1, 1), (19, .iconst 1, 1), (20, .iload 2, 1), (21, .ishl, 1), (22, .ior, 1), (23, .istore 1, 1), (24, .iinc 2 1, 3), (27, .goto 4, 3), (30, .iload 1, 1), (31, .ireturn, 1)]
def jcX11_slack : List (Nat × Instr × Nat) := [(0, .aload 0, 1), (1, .getfield 34372870811, 3), (4, .iconst 8, 2), (6, .iload 1, 1), (7, .imul, 1), (8, .iload 2, 1), (9, .iadd, 1), (10, .laload, 1), (11, .aload 0, 1), (12, .getfield 4312294203, 3), (15, .iload 1, 1), (16, .laload, 1), (17, .ladd, 1), (18, .aload 0, 1), (19, .getfield 4312818507, 3), (22, .iload 2, 1), (23, .laload, 1), (24, .lsub, 1), (25, .lreturn, 1)]
def jcX11_rise : List (Nat × Instr × Nat) := [(0, .sipush (-1), 3), (3, .lstore 1, 1), (4, .iconst 0, 1), (5, .istore 3, 1), (6, .iload 3, 1), (7, .iconst 64, 2), (9, .if_icmp .ge 101, 3), (12, .iload 3, 1), (13, .iconst 8, 2), (15, .idiv, 1), (16, .istore 4, 2), (18, .iload 3, 1), (19, .iconst 8, 2), (21, .irem, 1), (22, .istore 5, 2), (24, .aload 0, 1), (25, .getfield 34372870811, 3), (28, .iload 3, 1), (29, .laload, 1), (30, .sipush (-1), 3), (33, .multianewarray 0 95, 4), (37, .aload 0, 1), (38, .getfield 1003, 3), (41, .iload 5, 2), (43, .ishr, 1), (44, .iconst 1, 1), (45, .iand, 1), (46, .ifCond .eq 95, 3), (49, .aload 0, 1), (50, .getfield 1019, 3), (53, .iload 4, 2), (55, .ishr, 1), (56, .iconst 1, 1), (57, .iand, 1), (58, .iconst 1, 1), (59, .if_icmp .ne 65, 3), (62, .goto 95, 3), (65, .lload 1, 1), (66, .sipush (-1), 3), (69, .multianewarray 0 86, 4), (73, .aload 0, 1), (74, .iload 4, 2), (76, .iload 5, 2), (78, .invokestatic 56730580, 3), (81, .lload 1, 1), (82, .multianewarray 3 95, 4), (86, .aload 0, 1), (87, .iload 4, 2), (89, .iload 5, 2), (91, .invokestatic 56730580, 3), (94, .lstore 1, 1), (95, .iinc 3 1, 3), (98, .goto 6, 3), (101, .lload 1, 1), (102, .lreturn, 1)]
def jcX11_begins : List (Nat × Instr × Nat) := [(0, .aload 0, 1), (1, .invokestatic 56656314, 3), (4, .aload 0, 1), (5, .iconst 0, 1), (6, .putfield 811, 3), (9, .iconst 0, 1), (10, .istore 1, 1), (11, .iload 1, 1), (12, .iconst 8, 2), (14, .if_icmp .ge 110, 3), (17, .aload 0, 1), (18, .getfield 4312294203, 3), (21, .iload 1, 1), (22, .sipush 0, 1), (23, .lastore, 1), (24, .sipush (-1), 3), (27, .lstore 2, 1), (28, .iconst 0, 1), (29, .istore 4, 2), (31, .iload 4, 2), (33, .iconst 8, 2), (35, .if_icmp .ge 85, 3), (38, .aload 0, 1), (39, .getfield 34372870811, 3), (42, .iconst 8, 2), (44, .iload 4, 2), (46, .imul, 1), (47, .iload 1, 1), (48, .iadd, 1), (49, .laload, 1), (50, .lstore 5, 2), (52, .lload 5, 2), (54, .sipush (-1), 3), (57, .multianewarray 0 79, 4), (61, .lload 2, 1), (62, .sipush (-1), 3), (65, .multianewarray 0 76, 4), (69, .lload 5, 2), (71, .lload 2, 1), (72, .multianewarray 3 79, 4), (76, .lload 5, 2), (78, .lstore 2, 1), (79, .iinc 4 1, 3), (82, .goto 31, 3), (85, .aload 0, 1), (86, .getfield 4312818507, 3), (89, .iload 1, 1), (90, .lload 2, 1), (91, .sipush (-1), 3), (94, .multianewarray 1 102, 4), (98, .sipush 0, 1), (99, .goto 103, 3), (102, .lload 2, 1), (103, .lastore, 1), (104, .iinc 1 1, 3), (107, .goto 11, 3), (110, .aload 0, 1), (111, .aload 0, 1), (112, .invokestatic 56725971, 3), (115, .putfield 1035, 3), (118, .return_, 1)]
def jcX11_isLast : List (Nat × Instr × Nat) := [(0, .iconst 0, 1), (1, .istore 1, 1), (2, .iconst 0, 1), (3, .istore 2, 1), (4, .iload 2, 1), (5, .iconst 8, 2), (7, .if_icmp .ge 84, 3), (10, .aload 0, 1), (11, .getfield 4316472251, 3), (14, .iload 2, 1), (15, .iconst 0, 1), (16, .iastore, 1), (17, .iconst 0, 1), (18, .istore 3, 1), (19, .iload 3, 1), (20, .iconst 8, 2), (22, .if_icmp .ge 78, 3), (25, .aload 0, 1), (26, .getfield 34372870811, 3), (29, .iconst 8, 2), (31, .iload 3, 1), (32, .imul, 1), (33, .iload 2, 1), (34, .iadd, 1), (35, .laload, 1), (36, .sipush (-1), 3), (39, .multianewarray 0 72, 4), (43, .aload 0, 1), (44, .iload 3, 1), (45, .iload 2, 1), (46, .invokestatic 56730580, 3), (49, .sipush 0, 1), (50, .multianewarray 0 57, 4), (54, .goto 72, 3), (57, .aload 0, 1), (58, .getfield 4316472251, 3), (61, .iload 2, 1), (62, .dup2, 1), (63, .iaload, 1), (64, .iconst 1, 1), (65, .iload 3, 1), (66, .ishl, 1), (67, .ior, 1), (68, .iastore, 1), (69, .iinc 1 1, 3), (72, .iinc 3 1, 3), (75, .goto 19, 3), (78, .iinc 2 1, 3), (81, .goto 4, 3), (84, .aload 0, 1), (85, .getfield 811, 3), (88, .istore 2, 1), (89, .aload 0, 1), (90, .dup, 1), (91, .getfield 811, 3), (94, .iconst 1, 1), (95, .iadd, 1), (96, .putfield 811, 3), (99, .aload 0, 1), (100, .getfield 64442868571, 3), (103, .iload 2, 1), (104, .aload 0, 1), (105, .invokestatic 56725970, 3), (108, .iastore, 1), (109, .aload 0, 1), (110, .getfield 64443392875, 3), (113, .iload 2, 1), (114, .aload 0, 1), (115, .getfield 1003, 3), (118, .iastore, 1), (119, .aload 0, 1), (120, .getfield 64443917179, 3), (123, .iload 2, 1), (124, .aload 0, 1), (125, .getfield 1019, 3), (128, .iastore, 1), (129, .aload 0, 1), (130, .getfield 64444441483, 3), (133, .iload 2, 1), (134, .iload 1, 1), (135, .iastore, 1), (136, .aload 0, 1), (137, .getfield 64447063067, 3), (140, .iload 2, 1), (141, .aload 0, 1), (142, .getfield 1035, 3), (145, .iastore, 1), (146, .iconst 0, 1), (147, .istore 3, 1), (148, .iload 3, 1), (149, .iconst 8, 2), (151, .if_icmp .ge 216, 3), (154, .aload 0, 1), (155, .getfield 1030813148075, 3), (158, .iconst 2, 1), (159, .iload 2, 1), (160, .imul, 1), (161, .iconst 8, 2), (163, .imul, 1), (164, .iload 3, 1), (165, .iadd, 1), (166, .aload 0, 1), (167, .getfield 4312294203, 3), (170, .iload 3, 1), (171, .laload, 1), (172, .lastore, 1), (173, .aload 0, 1), (174, .getfield 1030813148075, 3), (177, .iconst 2, 1), (178, .iload 2, 1), (179, .imul, 1), (180, .iconst 1, 1), (181, .iadd, 1), (182, .iconst 8, 2), (184, .imul, 1), (185, .iload 3, 1), (186, .iadd, 1), (187, .aload 0, 1), (188, .getfield 1035, 3), (191, .iload 3, 1), (192, .ishr, 1), (193, .iconst 1, 1), (194, .iand, 1), (195, .iconst 1, 1), (196, .if_icmp .ne 208, 3), (199, .aload 0, 1), (200, .getfield 4312818507, 3), (203, .iload 3, 1), (204, .laload, 1), (205, .goto 209, 3), (208, .sipush 0, 1), (209, .lastore, 1), (210, .iinc 3 1, 3), (213, .goto 148, 3), (216, .aload 0, 1), (217, .invokestatic 56828373, 3), (220, .lstore 3, 1), (221, .aload 0, 1), (222, .getfield 64444982171, 3), (225, .iload 2, 1), (226, .lload 3, 1), (227, .lastore, 1), (228, .iconst 0, 1), (229, .istore 5, 2), (231, .iload 5, 2), (233, .iconst 8, 2), (235, .if_icmp .ge 300, 3), (238, .lload 3, 1), (239, .sipush (-1), 3), (242, .multianewarray 0 300, 4), (246, .aload 0, 1), (247, .getfield 1003, 3), (250, .iload 5, 2), (252, .ishr, 1), (253, .iconst 1, 1), (254, .iand, 1), (255, .iconst 1, 1), (256, .if_icmp .ne 270, 3), (259, .aload 0, 1), (260, .getfield 4312818507, 3), (263, .iload 5, 2), (265, .dup2, 1), (266, .laload, 1), (267, .lload 3, 1), (268, .ladd, 1), (269, .lastore, 1), (270, .aload 0, 1), (271, .getfield 1019, 3), (274, .iload 5, 2), (276, .ishr, 1), (277, .iconst 1, 1), (278, .iand, 1), (279, .iconst 1, 1), (280, .if_icmp .ne 294, 3), (283, .aload 0, 1), (284, .getfield 4312294203, 3), (287, .iload 5, 2), (289, .dup2, 1), (290, .laload, 1), (291, .lload 3, 1), (292, .ladd, 1), (293, .lastore, 1), (294, .iinc 5 1, 3), (297, .goto 231, 3), (300, .lload 3, 1), (301, .sipush (-1), 3), (304, .multianewarray 1 312, 4), (308, .iconst 1, 1), (309, .goto 313, 3), (312, .iconst 0, 1), (313, .ireturn, 1)]
def jcX11_solve : List (Nat × Instr × Nat) := [(0, .aload 0, 1), (1, .invokestatic 56852950, 3), (4, .iconst 0, 1), (5, .istore 1, 1), (6, .iload 1, 1), (7, .ifCond .ne 27, 3), (10, .aload 0, 1), (11, .getfield 811, 3), (14, .iconst 120, 2), (16, .if_icmp .ge 27, 3), (19, .aload 0, 1), (20, .invokestatic 56832471, 3), (23, .istore 1, 1), (24, .goto 6, 3), (27, .aload 0, 1), (28, .getfield 811, 3), (31, .ireturn, 1)]
def jcX11_round : List (Nat × Instr × Nat) := [(0, .iload 1, 1), (1, .i2l, 1), (2, .sipush 0, 1), (3, .aload 0, 1), (4, .getfield 811, 3), (7, .iconst 1, 1), (8, .isub, 1), (9, .i2l, 1), (10, .invokestatic 23278475, 3), (13, .ifCond .eq 28, 3), (16, .iload 2, 1), (17, .i2l, 1), (18, .sipush 0, 1), (19, .sipush 5, 3), (22, .invokestatic 23278475, 3), (25, .ifCond .ne 32, 3), (28, .sipush (-4611686018427387904), 3), (31, .lreturn, 1), (32, .iload 2, 1), (33, .ifCond .ne 44, 3), (36, .aload 0, 1), (37, .getfield 64442868571, 3), (40, .iload 1, 1), (41, .iaload, 1), (42, .i2l, 1), (43, .lreturn, 1), (44, .iload 2, 1), (45, .iconst 1, 1), (46, .if_icmp .ne 57, 3), (49, .aload 0, 1), (50, .getfield 64443392875, 3), (53, .iload 1, 1), (54, .iaload, 1), (55, .i2l, 1), (56, .lreturn, 1), (57, .iload 2, 1), (58, .iconst 2, 1), (59, .if_icmp .ne 70, 3), (62, .aload 0, 1), (63, .getfield 64443917179, 3), (66, .iload 1, 1), (67, .iaload, 1), (68, .i2l, 1), (69, .lreturn, 1), (70, .iload 2, 1), (71, .iconst 3, 1), (72, .if_icmp .ne 102, 3), (75, .aload 0, 1), (76, .getfield 64443917179, 3), (79, .iload 1, 1), (80, .iaload, 1), (81, .aload 0, 1), (82, .getfield 64447063067, 3), (85, .iload 1, 1), (86, .iaload, 1), (87, .aload 0, 1), (88, .getfield 64443392875, 3), (91, .iload 1, 1), (92, .iaload, 1), (93, .iconst (-1), 1), (94, .ixor, 1), (95, .iand, 1), (96, .iconst 8, 2), (98, .ishl, 1), (99, .ior, 1), (100, .i2l, 1), (101, .lreturn, 1), (102, .iload 2, 1), (103, .iconst 4, 1), (104, .if_icmp .ne 116, 3), (107, .aload 0, 1), (108, .getfield 64444982171, 3), (111, .iload 1, 1), (112, .laload, 1), (113, .goto 123, 3), (116, .aload 0, 1), (117, .getfield 64444441483, 3), (120, .iload 1, 1), (121, .iaload, 1), (122, .i2l, 1), (123, .lreturn, 1)]
def jcX11_price : List (Nat × Instr × Nat) := [(0, .iload 1, 1), (1, .i2l, 1), (2, .sipush 0, 1), (3, .aload 0, 1), (4, .getfield 811, 3), (7, .iconst 1, 1), (8, .isub, 1), (9, .i2l, 1), (10, .invokestatic 23278475, 3), (13, .ifCond .eq 42, 3), (16, .iload 2, 1), (17, .iload 3, 1), (18, .invokestatic 23147149, 3), (21, .ifCond .eq 42, 3), (24, .aload 0, 1), (25, .getfield 1030813148075, 3), (28, .iconst 2, 1), (29, .iload 1, 1), (30, .imul, 1), (31, .iload 2, 1), (32, .iadd, 1), (33, .iconst 8, 2), (35, .imul, 1), (36, .iload 3, 1), (37, .iadd, 1), (38, .laload, 1), (39, .goto 45, 3), (42, .sipush (-4611686018427387904), 3), (45, .lreturn, 1)]
def jcX11_daysOf : List (Nat × Instr × Nat) := [(0, .aload 0, 1), (1, .invokestatic 56689080, 3), (4, .iconst 0, 1), (5, .istore 2, 1), (6, .iload 2, 1), (7, .iconst 64, 2), (9, .if_icmp .ge 30, 3), (12, .aload 0, 1), (13, .getfield 34382816299, 3), (16, .iload 2, 1), (17, .aload 0, 1), (18, .getfield 34361843787, 3), (21, .iload 2, 1), (22, .iaload, 1), (23, .iastore, 1), (24, .iinc 2 1, 3), (27, .goto 6, 3), (30, .sipush 0, 1), (31, .lstore 2, 1), (32, .iconst 0, 1), (33, .istore 4, 2), (35, .iload 4, 2), (37, .iload 1, 1), (38, .if_icmp .ge 130, 3), (41, .aload 0, 1), (42, .aload 0, 1), (43, .getfield 34382816299, 3), (46, .invokestatic 56722105, 3), (49, .aload 0, 1), (50, .invokestatic 56893887, 3), (53, .lstore 5, 2), (55, .lload 5, 2), (57, .sipush 1125899906842624, 3), (60, .multianewarray 1 68, 4), (64, .sipush 1125899906842624, 3), (67, .lreturn, 1), (68, .lload 2, 1), (69, .lload 5, 2), (71, .ladd, 1), (72, .lstore 2, 1), (73, .aload 0, 1), (74, .iconst 0, 1), (75, .invokestatic 56853185, 3), (78, .iconst 0, 1), (79, .istore 7, 2), (81, .iload 7, 2), (83, .iconst 8, 2), (85, .if_icmp .ge 124, 3), (88, .aload 0, 1), (89, .getfield 4309656267, 3), (92, .iload 7, 2), (94, .iaload, 1), (95, .iconst (-1), 1), (96, .if_icmp .eq 118, 3), (99, .aload 0, 1), (100, .getfield 34382816299, 3), (103, .iconst 8, 2), (105, .aload 0, 1), (106, .getfield 4309656267, 3), (109, .iload 7, 2), (111, .iaload, 1), (112, .imul, 1), (113, .iload 7, 2), (115, .iadd, 1), (116, .iconst 1, 1), (117, .iastore, 1), (118, .iinc 7 1, 3), (121, .goto 81, 3), (124, .iinc 4 1, 3), (127, .goto 35, 3), (130, .lload 2, 1), (131, .lreturn, 1)]
def jcX11_days : List (Nat × Instr × Nat) := [(0, .iload 1, 1), (1, .i2l, 1), (2, .sipush 1, 1), (3, .sipush 8, 3), (6, .invokestatic 23278475, 3), (9, .ifCond .eq 23, 3), (12, .aload 0, 1), (13, .iload 1, 1), (14, .invokestatic 56894171, 3), (17, .invokestatic 23142848, 3), (20, .goto 26, 3), (23, .sipush (-4611686018427387904), 3), (26, .lreturn, 1)]
def jcX11_day : List (Nat × Instr × Nat) := [(0, .iload 1, 1), (1, .i2l, 1), (2, .sipush 0, 1), (3, .sipush 7, 3), (6, .invokestatic 23278475, 3), (9, .ifCond .eq 24, 3), (12, .iload 2, 1), (13, .i2l, 1), (14, .sipush 0, 1), (15, .sipush 7, 3), (18, .invokestatic 23278475, 3), (21, .ifCond .ne 27, 3), (24, .iconst (-2), 2), (26, .ireturn, 1), (27, .aload 0, 1), (28, .iload 1, 1), (29, .iconst 1, 1), (30, .iadd, 1), (31, .invokestatic 56894171, 3), (34, .sipush 1125899906842624, 3), (37, .multianewarray 1 46, 4), (41, .iconst (-3), 2), (43, .goto 52, 3), (46, .aload 0, 1), (47, .getfield 4309656267, 3), (50, .iload 2, 1), (51, .iaload, 1), (52, .ireturn, 1)]
def jcX11_lack : List (Nat × Instr × Nat) := [(0, .iload 1, 1), (1, .i2l, 1), (2, .sipush 0, 1), (3, .sipush 2, 3), (6, .invokestatic 23278475, 3), (9, .ifCond .ne 15, 3), (12, .iconst (-2), 2), (14, .ireturn, 1), (15, .aload 0, 1), (16, .invokestatic 56656314, 3), (19, .iconst 0, 1), (20, .istore 2, 1), (21, .iload 2, 1), (22, .iconst 8, 2), (24, .if_icmp .ge 84, 3), (27, .aload 0, 1), (28, .getfield 4316472251, 3), (31, .iload 2, 1), (32, .iconst 0, 1), (33, .iastore, 1), (34, .iconst 0, 1), (35, .istore 3, 1), (36, .iload 3, 1), (37, .iconst 8, 2), (39, .if_icmp .ge 78, 3), (42, .aload 0, 1), (43, .getfield 34372870811, 3), (46, .iconst 8, 2), (48, .iload 3, 1), (49, .imul, 1), (50, .iload 2, 1), (51, .iadd, 1), (52, .laload, 1), (53, .sipush (-1), 3), (56, .multianewarray 0 72, 4), (60, .aload 0, 1), (61, .getfield 4316472251, 3), (64, .iload 2, 1), (65, .dup2, 1), (66, .iaload, 1), (67, .iconst 1, 1), (68, .iload 3, 1), (69, .ishl, 1), (70, .ior, 1), (71, .iastore, 1), (72, .iinc 3 1, 3), (75, .goto 36, 3), (78, .iinc 2 1, 3), (81, .goto 21, 3), (84, .aload 0, 1), (85, .invokestatic 56725970, 3), (88, .istore 2, 1), (89, .iload 1, 1), (90, .ifCond .ne 105, 3), (93, .aload 0, 1), (94, .invokestatic 56725971, 3), (97, .invokestatic 295735793, 3), (100, .iload 2, 1), (101, .isub, 1), (102, .goto 121, 3), (105, .iload 1, 1), (106, .iconst 1, 1), (107, .if_icmp .ne 117, 3), (110, .aload 0, 1), (111, .getfield 1003, 3), (114, .goto 121, 3), (117, .aload 0, 1), (118, .getfield 1019, 3), (121, .ireturn, 1)]
def jcX11_without : List (Nat × Instr × Nat) := [(0, .iload 1, 1), (1, .iload 2, 1), (2, .invokestatic 23147149, 3), (5, .ifCond .ne 12, 3), (8, .sipush (-4611686018427387904), 3), (11, .lreturn, 1), (12, .aload 0, 1), (13, .getfield 8590467099, 3), (16, .iconst 8, 2), (18, .iload 1, 1), (19, .imul, 1), (20, .iload 2, 1), (21, .iadd, 1), (22, .iaload, 1), (23, .istore 3, 1), (24, .aload 0, 1), (25, .getfield 8590467099, 3), (28, .iconst 8, 2), (30, .iload 1, 1), (31, .imul, 1), (32, .iload 2, 1), (33, .iadd, 1), (34, .iconst 0, 1), (35, .iastore, 1), (36, .aload 0, 1), (37, .invokestatic 56664515, 3), (40, .lstore 4, 2), (42, .aload 0, 1), (43, .getfield 8590467099, 3), (46, .iconst 8, 2), (48, .iload 1, 1), (49, .imul, 1), (50, .iload 2, 1), (51, .iadd, 1), (52, .iload 3, 1), (53, .iastore, 1), (54, .lload 4, 2), (56, .lreturn, 1)]
def jcX11_casesMany : List (Nat × Instr × Nat) := [(0, .aload 0, 1), (1, .invokestatic 56725971, 3), (4, .invokestatic 295735793, 3), (7, .ireturn, 1)]
def jcX11_reads : List (Nat × Instr × Nat) := [(0, .aload 0, 1), (1, .getfield 2176328939, 3), (4, .iload 1, 1), (5, .iaload, 1), (6, .aload 0, 1), (7, .invokestatic 56660448, 3), (10, .if_icmp .eq 15, 3), (13, .iconst 0, 1), (14, .ireturn, 1), (15, .iconst 0, 1), (16, .istore 2, 1), (17, .iconst 0, 1), (18, .istore 3, 1), (19, .iconst 0, 1), (20, .istore 4, 2), (22, .iload 4, 2), (24, .iconst 8, 2), (26, .if_icmp .ge 135, 3), (29, .aload 0, 1), (30, .getfield 4309656267, 3), (33, .iload 4, 2), (35, .iconst (-1), 1), (36, .iastore, 1), (37, .aload 0, 1), (38, .iload 4, 2), (40, .invokestatic 56701584, 3), (43, .ifCond .ne 49, 3), (46, .goto 129, 3), (49, .aload 0, 1), (50, .getfield 85928731899, 3), (53, .iconst 40, 2), (55, .iload 1, 1), (56, .imul, 1), (57, .iload 2, 1), (58, .iadd, 1), (59, .laload, 1), (60, .lstore 5, 2), (62, .iinc 2 1, 3), (65, .lload 5, 2), (67, .sipush 0, 1), (68, .sipush 7, 3), (71, .invokestatic 23278475, 3), (74, .ifCond .eq 109, 3), (77, .iload 3, 1), (78, .lload 5, 2), (80, .l2i, 1), (81, .ishr, 1), (82, .iconst 1, 1), (83, .iand, 1), (84, .iconst 1, 1), (85, .if_icmp .eq 109, 3), (88, .aload 0, 1), (89, .getfield 34372870811, 3), (92, .iconst 8, 2), (94, .lload 5, 2), (96, .l2i, 1), (97, .imul, 1), (98, .iload 4, 2), (100, .iadd, 1), (101, .laload, 1), (102, .sipush (-1), 3), (105, .multianewarray 1 111, 4), (109, .iconst 0, 1), (110, .ireturn, 1), (111, .iload 3, 1), (112, .iconst 1, 1), (113, .lload 5, 2), (115, .l2i, 1), (116, .ishl, 1), (117, .ior, 1), (118, .istore 3, 1), (119, .aload 0, 1), (120, .getfield 4309656267, 3), (123, .iload 4, 2), (125, .lload 5, 2), (127, .l2i, 1), (128, .iastore, 1), (129, .iinc 4 1, 3), (132, .goto 22, 3), (135, .iconst 1, 1), (136, .ireturn, 1)]
def jcX11_tells : List (Nat × Instr × Nat) := [(0, .iload 1, 1), (1, .invokestatic 23114219, 3), (4, .ifCond .eq 19, 3), (7, .iload 2, 1), (8, .i2l, 1), (9, .sipush 0, 1), (10, .sipush 2, 3), (13, .invokestatic 23278475, 3), (16, .ifCond .ne 23, 3), (19, .sipush (-2), 3), (22, .lreturn, 1), (23, .aload 0, 1), (24, .getfield 2175804635, 3), (27, .iload 1, 1), (28, .iaload, 1), (29, .iconst (-1), 1), (30, .if_icmp .ne 37, 3), (33, .sipush (-11), 3), (36, .lreturn, 1), (37, .aload 0, 1), (38, .invokestatic 56656314, 3), (41, .aload 0, 1), (42, .iload 1, 1), (43, .invokestatic 56865505, 3), (46, .ifCond .ne 53, 3), (49, .sipush (-3), 3), (52, .lreturn, 1), (53, .iconst 0, 1), (54, .istore 3, 1), (55, .iload 3, 1), (56, .iconst 8, 2), (58, .if_icmp .ge 79, 3), (61, .aload 0, 1), (62, .getfield 4318569531, 3), (65, .iload 3, 1), (66, .aload 0, 1), (67, .getfield 4309656267, 3), (70, .iload 3, 1), (71, .iaload, 1), (72, .iastore, 1), (73, .iinc 3 1, 3), (76, .goto 55, 3), (79, .iload 2, 1), (80, .ifCond .ne 135, 3), (83, .sipush 0, 1), (84, .lstore 3, 1), (85, .iconst 0, 1), (86, .istore 5, 2), (88, .iload 5, 2), (90, .iconst 8, 2), (92, .if_icmp .ge 133, 3), (95, .aload 0, 1), (96, .getfield 4318569531, 3), (99, .iload 5, 2), (101, .iaload, 1), (102, .iconst (-1), 1), (103, .if_icmp .eq 127, 3), (106, .lload 3, 1), (107, .aload 0, 1), (108, .getfield 34372870811, 3), (111, .iconst 8, 2), (113, .aload 0, 1), (114, .getfield 4318569531, 3), (117, .iload 5, 2), (119, .iaload, 1), (120, .imul, 1), (121, .iload 5, 2), (123, .iadd, 1), (124, .laload, 1), (125, .ladd, 1), (126, .lstore 3, 1), (127, .iinc 5 1, 3), (130, .goto 88, 3), (133, .lload 3, 1), (134, .lreturn, 1), (135, .iload 2, 1), (136, .iconst 1, 1), (137, .if_icmp .ne 150, 3), (140, .aload 0, 1), (141, .invokestatic 56656332, 3), (144, .aload 0, 1), (145, .invokestatic 56758755, 3), (148, .i2l, 1), (149, .lreturn, 1), (150, .aload 0, 1), (151, .invokestatic 56893887, 3), (154, .lstore 3, 1), (155, .iconst 0, 1), (156, .istore 5, 2), (158, .iconst 0, 1), (159, .istore 6, 2), (161, .iload 6, 2), (163, .iconst 8, 2), (165, .if_icmp .ge 206, 3), (168, .aload 0, 1), (169, .getfield 4318569531, 3), (172, .iload 6, 2), (174, .iaload, 1), (175, .iconst (-1), 1), (176, .if_icmp .eq 200, 3), (179, .aload 0, 1), (180, .aload 0, 1), (181, .getfield 4318569531, 3), (184, .iload 6, 2), (186, .iaload, 1), (187, .iload 6, 2), (189, .invokestatic 56828870, 3), (192, .lload 3, 1), (193, .multianewarray 1 200, 4), (197, .iinc 5 1, 3), (200, .iinc 6 1, 3), (203, .goto 161, 3), (206, .iload 5, 2), (208, .i2l, 1), (209, .lreturn, 1)]
def jcX11_placeOf : List (Nat × Instr × Nat) := [(0, .iconst 0, 1), (1, .istore 1, 1), (2, .iload 1, 1), (3, .aload 0, 1), (4, .getfield 779, 3), (7, .if_icmp .ge 63, 3), (10, .iconst 0, 1), (11, .istore 2, 1), (12, .iconst 0, 1), (13, .istore 3, 1), (14, .iload 3, 1), (15, .iconst 8, 2), (17, .if_icmp .ge 49, 3), (20, .aload 0, 1), (21, .getfield 55850836731, 3), (24, .iconst 8, 2), (26, .iload 1, 1), (27, .imul, 1), (28, .iload 3, 1), (29, .iadd, 1), (30, .iaload, 1), (31, .aload 0, 1), (32, .getfield 4318569531, 3), (35, .iload 3, 1), (36, .iaload, 1), (37, .if_icmp .ne 43, 3), (40, .iinc 2 1, 3), (43, .iinc 3 1, 3), (46, .goto 14, 3), (49, .iload 2, 1), (50, .iconst 8, 2), (52, .if_icmp .ne 57, 3), (55, .iload 1, 1), (56, .ireturn, 1), (57, .iinc 1 1, 3), (60, .goto 2, 3), (63, .iconst (-1), 1), (64, .ireturn, 1)]
def jcX11_film : List (Nat × Instr × Nat) := [(0, .iload 1, 1), (1, .invokestatic 23114219, 3), (4, .ifCond .ne 10, 3), (7, .iconst (-2), 2), (9, .ireturn, 1), (10, .aload 0, 1), (11, .invokestatic 56656314, 3), (14, .aload 0, 1), (15, .invokestatic 56893887, 3), (18, .sipush 1125899906842624, 3), (21, .multianewarray 0 43, 4), (25, .iload 2, 1), (26, .i2l, 1), (27, .sipush 0, 1), (28, .aload 0, 1), (29, .getfield 1236964745915, 3), (32, .iconst 0, 1), (33, .iaload, 1), (34, .iconst 1, 1), (35, .isub, 1), (36, .i2l, 1), (37, .invokestatic 23278475, 3), (40, .ifCond .ne 46, 3), (43, .iconst (-3), 2), (45, .ireturn, 1), (46, .aload 0, 1), (47, .iload 2, 1), (48, .invokestatic 56853185, 3), (51, .iconst 0, 1), (52, .istore 3, 1), (53, .iconst 0, 1), (54, .istore 4, 2), (56, .iload 4, 2), (58, .iconst 8, 2), (60, .if_icmp .ge 105, 3), (63, .aload 0, 1), (64, .getfield 4309656267, 3), (67, .iload 4, 2), (69, .iaload, 1), (70, .iconst (-1), 1), (71, .if_icmp .ne 77, 3), (74, .goto 99, 3), (77, .aload 0, 1), (78, .getfield 85928731899, 3), (81, .iconst 40, 2), (83, .iload 1, 1), (84, .imul, 1), (85, .iload 3, 1), (86, .iadd, 1), (87, .aload 0, 1), (88, .getfield 4309656267, 3), (91, .iload 4, 2), (93, .iaload, 1), (94, .i2l, 1), (95, .lastore, 1), (96, .iinc 3 1, 3), (99, .iinc 4 1, 3), (102, .goto 56, 3), (105, .aload 0, 1), (106, .getfield 2175804635, 3), (109, .iload 1, 1), (110, .iconst 0, 1), (111, .iastore, 1), (112, .aload 0, 1), (113, .getfield 2176328939, 3), (116, .iload 1, 1), (117, .iload 3, 1), (118, .iastore, 1), (119, .iload 3, 1), (120, .ireturn, 1)]
def jcX11_copies : List (Nat × Instr × Nat) := [(0, .iconst 0, 1), (1, .istore 5, 2), (3, .iload 5, 2), (5, .iload 3, 1), (6, .if_icmp .ge 43, 3), (9, .iload 4, 2), (11, .ifCond .eq 27, 3), (14, .aload 0, 1), (15, .iload 5, 2), (17, .aload 1, 1), (18, .iload 2, 1), (19, .iload 5, 2), (21, .iadd, 1), (22, .iaload, 1), (23, .iastore, 1), (24, .goto 37, 3), (27, .aload 1, 1), (28, .iload 2, 1), (29, .iload 5, 2), (31, .iadd, 1), (32, .aload 0, 1), (33, .iload 5, 2), (35, .iaload, 1), (36, .iastore, 1), (37, .iinc 5 1, 3), (40, .goto 3, 3), (43, .return_, 1)]
def jcX11_keeps : List (Nat × Instr × Nat) := [(0, .aload 0, 1), (1, .getfield 8590467099, 3), (4, .aload 0, 1), (5, .getfield 8614061147, 3), (8, .iconst 0, 1), (9, .iconst 16, 2), (11, .iload 1, 1), (12, .invokestatic 23266789, 3), (15, .aload 0, 1), (16, .getfield 25770860587, 3), (19, .aload 0, 1), (20, .getfield 25794454635, 3), (23, .iconst 0, 1), (24, .iconst 48, 2), (26, .iload 1, 1), (27, .invokestatic 23266789, 3), (30, .aload 0, 1), (31, .getfield 34361843787, 3), (34, .aload 0, 1), (35, .getfield 34385437835, 3), (38, .iconst 0, 1), (39, .iconst 64, 2), (41, .iload 1, 1), (42, .invokestatic 23266789, 3), (45, .aload 0, 1), (46, .getfield 2150113371, 3), (49, .aload 0, 1), (50, .getfield 2173707419, 3), (53, .iconst 0, 1), (54, .iconst 4, 1), (55, .iload 1, 1), (56, .invokestatic 23266789, 3), (59, .aload 0, 1), (60, .getfield 2150637675, 3), (63, .aload 0, 1), (64, .getfield 2174231723, 3), (67, .iconst 0, 1), (68, .iconst 4, 1), (69, .iload 1, 1), (70, .invokestatic 23266789, 3), (73, .aload 0, 1), (74, .getfield 8593612923, 3), (77, .aload 0, 1), (78, .getfield 8617206971, 3), (81, .iconst 0, 1), (82, .iconst 16, 2), (84, .iload 1, 1), (85, .invokestatic 23266789, 3), (88, .iconst 96, 2), (90, .istore 2, 1), (91, .aload 0, 1), (92, .getfield 51543810187, 3), (95, .aload 0, 1), (96, .getfield 360805049547, 3), (99, .iconst 0, 1), (100, .iload 2, 1), (101, .iload 1, 1), (102, .invokestatic 23266789, 3), (105, .aload 0, 1), (106, .getfield 51544334491, 3), (109, .aload 0, 1), (110, .getfield 360805049547, 3), (113, .iload 2, 1), (114, .iload 2, 1), (115, .iload 1, 1), (116, .invokestatic 23266789, 3), (119, .aload 0, 1), (120, .getfield 51544858795, 3), (123, .aload 0, 1), (124, .getfield 360805049547, 3), (127, .iconst 2, 1), (128, .iload 2, 1), (129, .imul, 1), (130, .iload 2, 1), (131, .iload 1, 1), (132, .invokestatic 23266789, 3), (135, .aload 0, 1), (136, .getfield 51545383099, 3), (139, .aload 0, 1), (140, .getfield 360805049547, 3), (143, .iconst 3, 1), (144, .iload 2, 1), (145, .imul, 1), (146, .iload 2, 1), (147, .iload 1, 1), (148, .invokestatic 23266789, 3), (151, .aload 0, 1), (152, .getfield 51545907403, 3), (155, .aload 0, 1), (156, .getfield 360805049547, 3), (159, .iconst 4, 1), (160, .iload 2, 1), (161, .imul, 1), (162, .iload 2, 1), (163, .iload 1, 1), (164, .invokestatic 23266789, 3), (167, .aload 0, 1), (168, .getfield 51546431707, 3), (171, .aload 0, 1), (172, .getfield 360805049547, 3), (175, .iconst 5, 1), (176, .iload 2, 1), (177, .imul, 1), (178, .iload 2, 1), (179, .iload 1, 1), (180, .invokestatic 23266789, 3), (183, .aload 0, 1), (184, .getfield 51546956011, 3), (187, .aload 0, 1), (188, .getfield 360805049547, 3), (191, .iconst 6, 2), (193, .iload 2, 1), (194, .imul, 1), (195, .iload 2, 1), (196, .iload 1, 1), (197, .invokestatic 23266789, 3), (200, .iconst 0, 1), (201, .istore 3, 1), (202, .iload 3, 1), (203, .iconst 64, 2), (205, .if_icmp .ge 245, 3), (208, .iload 1, 1), (209, .ifCond .eq 227, 3), (212, .aload 0, 1), (213, .getfield 34361335867, 3), (216, .iload 3, 1), (217, .aload 0, 1), (218, .getfield 34384929915, 3), (221, .iload 3, 1), (222, .laload, 1), (223, .lastore, 1), (224, .goto 239, 3), (227, .aload 0, 1), (228, .getfield 34384929915, 3), (231, .iload 3, 1), (232, .aload 0, 1), (233, .getfield 34361335867, 3), (236, .iload 3, 1), (237, .laload, 1), (238, .lastore, 1), (239, .iinc 3 1, 3), (242, .goto 202, 3), (245, .return_, 1)]
def jcX11_image : List (Nat × Instr × Nat) := [(0, .aload 0, 1), (1, .iconst 0, 1), (2, .invokestatic 56754918, 3), (5, .aload 0, 1), (6, .iconst 1, 1), (7, .putfield 5195, 3), (10, .aload 0, 1), (11, .invokestatic 56656314, 3), (14, .aload 0, 1), (15, .invokestatic 56725950, 3), (18, .ireturn, 1)]
def jcX11_back : List (Nat × Instr × Nat) := [(0, .aload 0, 1), (1, .getfield 5195, 3), (4, .ifCond .ne 10, 3), (7, .iconst (-3), 2), (9, .ireturn, 1), (10, .aload 0, 1), (11, .iconst 1, 1), (12, .invokestatic 56754918, 3), (15, .aload 0, 1), (16, .invokestatic 56656314, 3), (19, .aload 0, 1), (20, .invokestatic 56725950, 3), (23, .ireturn, 1)]
def jcX11_marksOf : List (Nat × Instr × Nat) := [(0, .iconst 0, 1), (1, .istore 2, 1), (2, .iconst 0, 1), (3, .istore 3, 1), (4, .iload 3, 1), (5, .iconst 64, 2), (7, .if_icmp .ge 29, 3), (10, .aload 0, 1), (11, .getfield 34361843787, 3), (14, .iload 3, 1), (15, .iaload, 1), (16, .iload 1, 1), (17, .if_icmp .ne 23, 3), (20, .iinc 2 1, 3), (23, .iinc 3 1, 3), (26, .goto 4, 3), (29, .iload 2, 1), (30, .ireturn, 1)]
def jcX11_count : List (Nat × Instr × Nat) := [(0, .iconst 0, 1), (1, .istore 2, 1), (2, .iload 1, 1), (3, .tableswitch 141 0 7 #[48, 73, 78, 87, 93, 99, 131, 136], 45), (48, .iconst 0, 1), (49, .istore 3, 1), (50, .iload 3, 1), (51, .iconst 8, 2), (53, .if_icmp .ge 71, 3), (56, .iload 2, 1), (57, .aload 0, 1), (58, .getfield 8590467099, 3), (61, .iload 3, 1), (62, .iaload, 1), (63, .iadd, 1), (64, .istore 2, 1), (65, .iinc 3 1, 3), (68, .goto 50, 3), (71, .iload 2, 1), (72, .ireturn, 1), (73, .aload 0, 1), (74, .invokestatic 56660448, 3), (77, .ireturn, 1), (78, .aload 0, 1), (79, .invokestatic 56656314, 3), (82, .aload 0, 1), (83, .invokestatic 56725950, 3), (86, .ireturn, 1), (87, .aload 0, 1), (88, .iconst 2, 1), (89, .invokestatic 56759017, 3), (92, .ireturn, 1), (93, .aload 0, 1), (94, .iconst 1, 1), (95, .invokestatic 56759017, 3), (98, .ireturn, 1), (99, .iconst 0, 1), (100, .istore 3, 1), (101, .iload 3, 1), (102, .iconst 64, 2), (104, .if_icmp .ge 129, 3), (107, .aload 0, 1), (108, .getfield 34361335867, 3), (111, .iload 3, 1), (112, .laload, 1), (113, .sipush (-1), 3), (116, .multianewarray 0 123, 4), (120, .iinc 2 1, 3), (123, .iinc 3 1, 3), (126, .goto 101, 3), (129, .iload 2, 1), (130, .ireturn, 1), (131, .aload 0, 1), (132, .getfield 811, 3), (135, .ireturn, 1), (136, .aload 0, 1), (137, .getfield 267, 3), (140, .ireturn, 1), (141, .iconst (-2), 2), (143, .ireturn, 1)]
def jcX11_isSheet : List (Nat × Instr × Nat) := [(0, .iload 0, 1), (1, .i2l, 1), (2, .sipush 0, 1), (3, .sipush 3, 3), (6, .invokestatic 23278475, 3), (9, .ireturn, 1)]
def jcX11_sheet : List (Nat × Instr × Nat) := [(0, .iload 1, 1), (1, .invokestatic 23114219, 3), (4, .ifCond .eq 32, 3), (7, .iload 2, 1), (8, .i2l, 1), (9, .sipush (-1), 3), (12, .sipush 2, 3), (15, .invokestatic 23278475, 3), (18, .ifCond .eq 32, 3), (21, .iload 2, 1), (22, .iconst (-1), 1), (23, .if_icmp .eq 35, 3), (26, .iload 3, 1), (27, .iconst 40, 2), (29, .if_icmp .le 35, 3), (32, .iconst (-2), 2), (34, .ireturn, 1), (35, .iload 2, 1), (36, .iconst (-1), 1), (37, .if_icmp .eq 47, 3), (40, .iload 3, 1), (41, .ifCond .ge 47, 3), (44, .iconst (-14), 2), (46, .ireturn, 1), (47, .aload 0, 1), (48, .getfield 2175804635, 3), (51, .iload 1, 1), (52, .iload 2, 1), (53, .iastore, 1), (54, .aload 0, 1), (55, .getfield 2176328939, 3), (58, .iload 1, 1), (59, .iload 2, 1), (60, .iconst (-1), 1), (61, .if_icmp .ne 68, 3), (64, .iconst 0, 1), (65, .goto 69, 3), (68, .iload 3, 1), (69, .iastore, 1), (70, .iconst 0, 1), (71, .istore 4, 2), (73, .iload 4, 2), (75, .iconst 40, 2), (77, .if_icmp .ge 99, 3), (80, .aload 0, 1), (81, .getfield 85928731899, 3), (84, .iconst 40, 2), (86, .iload 1, 1), (87, .imul, 1), (88, .iload 4, 2), (90, .iadd, 1), (91, .sipush 0, 1), (92, .lastore, 1), (93, .iinc 4 1, 3), (96, .goto 73, 3), (99, .iconst 1, 1), (100, .ireturn, 1)]
def jcX11_put : List (Nat × Instr × Nat) := [(0, .iload 1, 1), (1, .invokestatic 23114219, 3), (4, .ifCond .ne 10, 3), (7, .iconst (-2), 2), (9, .ireturn, 1), (10, .aload 0, 1), (11, .getfield 2175804635, 3), (14, .iload 1, 1), (15, .iaload, 1), (16, .iconst (-1), 1), (17, .if_icmp .ne 23, 3), (20, .iconst (-11), 2), (22, .ireturn, 1), (23, .iload 2, 1), (24, .i2l, 1), (25, .sipush 0, 1), (26, .aload 0, 1), (27, .getfield 2176328939, 3), (30, .iload 1, 1), (31, .iaload, 1), (32, .iconst 1, 1), (33, .isub, 1), (34, .i2l, 1), (35, .invokestatic 23278475, 3), (38, .ifCond .ne 44, 3), (41, .iconst (-12), 2), (43, .ireturn, 1), (44, .aload 0, 1), (45, .getfield 85928731899, 3), (48, .iconst 40, 2), (50, .iload 1, 1), (51, .imul, 1), (52, .iload 2, 1), (53, .iadd, 1), (54, .aload 0, 1), (55, .getfield 2175804635, 3), (58, .iload 1, 1), (59, .iaload, 1), (60, .ifCond .ne 67, 3), (63, .lload 3, 1), (64, .goto 87, 3), (67, .aload 0, 1), (68, .getfield 2175804635, 3), (71, .iload 1, 1), (72, .iaload, 1), (73, .iconst 1, 1), (74, .if_icmp .ne 83, 3), (77, .lload 3, 1), (78, .l2i, 1), (79, .i2l, 1), (80, .goto 87, 3), (83, .lload 3, 1), (84, .l2i, 1), (85, .i2b, 1), (86, .i2l, 1), (87, .lastore, 1), (88, .iconst 1, 1), (89, .ireturn, 1)]
def jcX11_item : List (Nat × Instr × Nat) := [(0, .iload 1, 1), (1, .invokestatic 23114219, 3), (4, .ifCond .eq 49, 3), (7, .aload 0, 1), (8, .getfield 2175804635, 3), (11, .iload 1, 1), (12, .iaload, 1), (13, .iconst (-1), 1), (14, .if_icmp .eq 49, 3), (17, .iload 2, 1), (18, .i2l, 1), (19, .sipush 0, 1), (20, .aload 0, 1), (21, .getfield 2176328939, 3), (24, .iload 1, 1), (25, .iaload, 1), (26, .iconst 1, 1), (27, .isub, 1), (28, .i2l, 1), (29, .invokestatic 23278475, 3), (32, .ifCond .eq 49, 3), (35, .aload 0, 1), (36, .getfield 85928731899, 3), (39, .iconst 40, 2), (41, .iload 1, 1), (42, .imul, 1), (43, .iload 2, 1), (44, .iadd, 1), (45, .laload, 1), (46, .goto 52, 3), (49, .sipush (-4611686018427387904), 3), (52, .lreturn, 1)]
def jcX11_copy : List (Nat × Instr × Nat) := [(0, .iload 1, 1), (1, .invokestatic 23114219, 3), (4, .ifCond .eq 14, 3), (7, .iload 3, 1), (8, .invokestatic 23114219, 3), (11, .ifCond .ne 17, 3), (14, .iconst (-2), 2), (16, .ireturn, 1), (17, .aload 0, 1), (18, .getfield 2175804635, 3), (21, .iload 1, 1), (22, .iaload, 1), (23, .iconst (-1), 1), (24, .if_icmp .eq 37, 3), (27, .aload 0, 1), (28, .getfield 2175804635, 3), (31, .iload 3, 1), (32, .iaload, 1), (33, .iconst (-1), 1), (34, .if_icmp .ne 40, 3), (37, .iconst (-11), 2), (39, .ireturn, 1), (40, .aload 0, 1), (41, .getfield 2175804635, 3), (44, .iload 1, 1), (45, .iaload, 1), (46, .aload 0, 1), (47, .getfield 2175804635, 3), (50, .iload 3, 1), (51, .iaload, 1), (52, .if_icmp .eq 58, 3), (55, .iconst (-13), 2), (57, .ireturn, 1), (58, .iload 5, 2), (60, .ifCond .lt 99, 3), (63, .iload 2, 1), (64, .ifCond .lt 99, 3), (67, .iload 4, 2), (69, .ifCond .lt 99, 3), (72, .iload 2, 1), (73, .aload 0, 1), (74, .getfield 2176328939, 3), (77, .iload 1, 1), (78, .iaload, 1), (79, .iload 5, 2), (81, .isub, 1), (82, .if_icmp .gt 99, 3), (85, .iload 4, 2), (87, .aload 0, 1), (88, .getfield 2176328939, 3), (91, .iload 3, 1), (92, .iaload, 1), (93, .iload 5, 2), (95, .isub, 1), (96, .if_icmp .le 102, 3), (99, .iconst (-12), 2), (101, .ireturn, 1), (102, .iload 1, 1), (103, .iload 3, 1), (104, .if_icmp .ne 117, 3), (107, .iload 2, 1), (108, .iload 4, 2), (110, .if_icmp .ge 117, 3), (113, .iconst 1, 1), (114, .goto 118, 3), (117, .iconst 0, 1), (118, .istore 6, 2), (120, .iconst 0, 1), (121, .istore 7, 2), (123, .iload 7, 2), (125, .iload 5, 2), (127, .if_icmp .ge 184, 3), (130, .iload 6, 2), (132, .ifCond .eq 145, 3), (135, .iload 5, 2), (137, .iconst 1, 1), (138, .isub, 1), (139, .iload 7, 2), (141, .isub, 1), (142, .goto 147, 3), (145, .iload 7, 2), (147, .istore 8, 2), (149, .aload 0, 1), (150, .getfield 85928731899, 3), (153, .iconst 40, 2), (155, .iload 3, 1), (156, .imul, 1), (157, .iload 4, 2), (159, .iadd, 1), (160, .iload 8, 2), (162, .iadd, 1), (163, .aload 0, 1), (164, .getfield 85928731899, 3), (167, .iconst 40, 2), (169, .iload 1, 1), (170, .imul, 1), (171, .iload 2, 1), (172, .iadd, 1), (173, .iload 8, 2), (175, .iadd, 1), (176, .laload, 1), (177, .lastore, 1), (178, .iinc 7 1, 3), (181, .goto 123, 3), (184, .iload 5, 2), (186, .ireturn, 1)]
def jcX11_lay : List (Nat × Instr × Nat) := [(0, .iload 1, 1), (1, .invokestatic 23114219, 3), (4, .ifCond .eq 44, 3), (7, .iload 2, 1), (8, .i2l, 1), (9, .sipush 0, 1), (10, .sipush 7, 3), (13, .invokestatic 23278475, 3), (16, .ifCond .eq 44, 3), (19, .iload 3, 1), (20, .i2l, 1), (21, .sipush 0, 1), (22, .sipush 2, 3), (25, .invokestatic 23278475, 3), (28, .ifCond .eq 44, 3), (31, .iload 5, 2), (33, .i2l, 1), (34, .sipush 1, 1), (35, .sipush 8, 3), (38, .invokestatic 23278475, 3), (41, .ifCond .ne 47, 3), (44, .iconst (-2), 2), (46, .ireturn, 1), (47, .aload 0, 1), (48, .getfield 2175804635, 3), (51, .iload 1, 1), (52, .iaload, 1), (53, .iconst (-1), 1), (54, .if_icmp .ne 60, 3), (57, .iconst (-11), 2), (59, .ireturn, 1), (60, .aload 0, 1), (61, .getfield 2175804635, 3), (64, .iload 1, 1), (65, .iaload, 1), (66, .iload 3, 1), (67, .if_icmp .eq 73, 3), (70, .iconst (-13), 2), (72, .ireturn, 1), (73, .iload 4, 2), (75, .ifCond .lt 92, 3), (78, .iload 4, 2), (80, .aload 0, 1), (81, .getfield 2176328939, 3), (84, .iload 1, 1), (85, .iaload, 1), (86, .iload 5, 2), (88, .isub, 1), (89, .if_icmp .le 95, 3), (92, .iconst (-12), 2), (94, .ireturn, 1), (95, .iconst 0, 1), (96, .istore 6, 2), (98, .iload 6, 2), (100, .iload 5, 2), (102, .if_icmp .ge 159, 3), (105, .aload 0, 1), (106, .getfield 85928731899, 3), (109, .iconst 40, 2), (111, .iload 1, 1), (112, .imul, 1), (113, .iload 4, 2), (115, .iadd, 1), (116, .iload 6, 2), (118, .iadd, 1), (119, .laload, 1), (120, .sipush 1000000000, 3), (123, .lrem, 1), (124, .lstore 7, 2), (126, .aload 0, 1), (127, .getfield 34361335867, 3), (130, .iconst 8, 2), (132, .iload 2, 1), (133, .imul, 1), (134, .iload 6, 2), (136, .iadd, 1), (137, .lload 7, 2), (139, .sipush 0, 1), (140, .multianewarray 3 150, 4), (144, .lload 7, 2), (146, .lneg, 1), (147, .goto 152, 3), (150, .lload 7, 2), (152, .lastore, 1), (153, .iinc 6 1, 3), (156, .goto 98, 3), (159, .iload 5, 2), (161, .ireturn, 1)]
def jcJ6_bitCount_0f7a4 : List (Nat × Instr × Nat) := [(0, .iload 0, 1), (1, .iload 0, 1), (2, .iconst 1, 1), (3, .iushr, 1), (4, .iconst 1431655765, 3), (7, .iand, 1), (8, .isub, 1), (9, .istore 0, 1), (10, .iload 0, 1), (11, .iconst 858993459, 3), (14, .iand, 1), (15, .iload 0, 1), (16, .iconst 2, 1), (17, .iushr, 1), (18, .iconst 858993459, 3), (21, .iand, 1), (22, .iadd, 1), (23, .istore 0, 1), (24, .iload 0, 1), (25, .iload 0, 1), (26, .iconst 4, 1), (27, .iushr, 1), (28, .iadd, 1), (29, .iconst 252645135, 3), (32, .iand, 1), (33, .istore 0, 1), (34, .iload 0, 1), (35, .iload 0, 1), (36, .iconst 8, 2), (38, .iushr, 1), (39, .iadd, 1), (40, .istore 0, 1), (41, .iload 0, 1), (42, .iload 0, 1), (43, .iconst 16, 2), (45, .iushr, 1), (46, .iadd, 1), (47, .istore 0, 1), (48, .iload 0, 1), (49, .iconst 63, 2), (51, .iand, 1), (52, .ireturn, 1)]
def jcJ9_floorDiv_f86c9 : List (Nat × Instr × Nat) := [(0, .lload 0, 1), (1, .lload 2, 1), (2, .ldiv, 1), (3, .lstore 4, 2), (5, .lload 0, 1), (6, .lload 2, 1), (7, .lxor, 1), (8, .sipush 0, 1), (9, .multianewarray 3 27, 4), (13, .lload 4, 2), (15, .lload 2, 1), (16, .lmul, 1), (17, .lload 0, 1), (18, .multianewarray 0 27, 4), (22, .lload 4, 2), (24, .sipush 1, 1), (25, .lsub, 1), (26, .lreturn, 1), (27, .lload 4, 2), (29, .lreturn, 1)]
def jcJ9_floorMod_f86c9 : List (Nat × Instr × Nat) := [(0, .lload 0, 1), (1, .lload 2, 1), (2, .lrem, 1), (3, .lstore 4, 2), (5, .lload 0, 1), (6, .lload 2, 1), (7, .lxor, 1), (8, .sipush 0, 1), (9, .multianewarray 3 25, 4), (13, .lload 4, 2), (15, .sipush 0, 1), (16, .multianewarray 0 25, 4), (20, .lload 4, 2), (22, .lload 2, 1), (23, .ladd, 1), (24, .lreturn, 1), (25, .lload 4, 2), (27, .lreturn, 1)]
def jcJ9_abs_067f4 : List (Nat × Instr × Nat) := [(0, .lload 0, 1), (1, .sipush 0, 1), (2, .multianewarray 3 11, 4), (6, .lload 0, 1), (7, .lneg, 1), (8, .goto 12, 3), (11, .lload 0, 1), (12, .lreturn, 1)]
def jcJ9_max_f86c9 : List (Nat × Instr × Nat) := [(0, .lload 0, 1), (1, .lload 2, 1), (2, .multianewarray 2 10, 4), (6, .lload 0, 1), (7, .goto 11, 3), (10, .lload 2, 1), (11, .lreturn, 1)]
def jcJ9_min_f86c9 : List (Nat × Instr × Nat) := [(0, .lload 0, 1), (1, .lload 2, 1), (2, .multianewarray 4 10, 4), (6, .lload 0, 1), (7, .goto 11, 3), (10, .lload 2, 1), (11, .lreturn, 1)]
def jcJ7_fill_d0a16 : List (Nat × Instr × Nat) := [(0, .iconst 0, 1), (1, .istore 3, 1), (2, .aload 0, 1), (3, .arraylength, 1), (4, .istore 4, 2), (6, .iload 3, 1), (7, .iload 4, 2), (9, .if_icmp .ge 22, 3), (12, .aload 0, 1), (13, .iload 3, 1), (14, .lload 1, 1), (15, .lastore, 1), (16, .iinc 3 1, 3), (19, .goto 6, 3), (22, .return_, 1)]
def jcJ7_fill_53178 : List (Nat × Instr × Nat) := [(0, .iconst 0, 1), (1, .istore 2, 1), (2, .aload 0, 1), (3, .arraylength, 1), (4, .istore 3, 1), (5, .iload 2, 1), (6, .iload 3, 1), (7, .if_icmp .ge 20, 3), (10, .aload 0, 1), (11, .iload 2, 1), (12, .iload 1, 1), (13, .iastore, 1), (14, .iinc 2 1, 3), (17, .goto 5, 3), (20, .return_, 1)]
def jcL_law : List (Nat × Instr × Nat) := [(0, .new 10, 3), (3, .dup, 1), (4, .invokestatic 55520067932, 3), (7, .astore 1, 1), (8, .new 11, 3), (11, .dup, 1), (12, .invokestatic 30289232268, 3), (15, .astore 2, 1), (16, .iconst 0, 1), (17, .istore 3, 1), (18, .iload 3, 1), (19, .aload 0, 1), (20, .arraylength, 1), (21, .iconst 6, 2), (23, .isub, 1), (24, .if_icmp .gt 1459, 3), (27, .aload 0, 1), (28, .iload 3, 1), (29, .iaload, 1), (30, .iconst 63, 2), (32, .iand, 1), (33, .tableswitch 1453 0 35 #[192, 235, 288, 362, 396, 439, 472, 495, 518, 541, 574, 618, 661, 674, 708, 752, 766, 779, 812, 845, 889, 923, 947, 971, 1004, 1027, 1061, 1095, 1128, 1141, 1154, 1177, 1220, 1293, 1327, 1390], 159), (192, .aload 1, 1), (193, .aload 0, 1), (194, .iload 3, 1), (195, .iconst 1, 1), (196, .iadd, 1), (197, .iaload, 1), (198, .aload 0, 1), (199, .iload 3, 1), (200, .iconst 2, 1), (201, .iadd, 1), (202, .iaload, 1), (203, .aload 0, 1), (204, .iload 3, 1), (205, .iconst 3, 1), (206, .iadd, 1), (207, .iaload, 1), (208, .invokestatic 54662237, 3), (211, .aload 2, 1), (212, .aload 0, 1), (213, .iload 3, 1), (214, .iconst 1, 1), (215, .iadd, 1), (216, .iaload, 1), (217, .aload 0, 1), (218, .iload 3, 1), (219, .iconst 2, 1), (220, .iadd, 1), (221, .iaload, 1), (222, .aload 0, 1), (223, .iload 3, 1), (224, .iconst 3, 1), (225, .iadd, 1), (226, .iaload, 1), (227, .invokestatic 56792209, 3), (230, .if_icmp .eq 1453, 3), (233, .iconst 0, 1), (234, .ireturn, 1), (235, .aload 1, 1), (236, .aload 0, 1), (237, .iload 3, 1), (238, .iconst 1, 1), (239, .iadd, 1), (240, .iaload, 1), (241, .aload 0, 1), (242, .iload 3, 1), (243, .iconst 2, 1), (244, .iadd, 1), (245, .iaload, 1), (246, .aload 0, 1), (247, .iload 3, 1), (248, .iconst 3, 1), (249, .iadd, 1), (250, .iaload, 1), (251, .aload 0, 1), (252, .iload 3, 1), (253, .iconst 4, 1), (254, .iadd, 1), (255, .iaload, 1), (256, .invokestatic 54760798, 3), (259, .aload 2, 1), (260, .aload 0, 1), (261, .iload 3, 1), (262, .iconst 1, 1), (263, .iadd, 1), (264, .iaload, 1), (265, .aload 0, 1), (266, .iload 3, 1), (267, .iconst 2, 1), (268, .iadd, 1), (269, .iaload, 1), (270, .aload 0, 1), (271, .iload 3, 1), (272, .iconst 3, 1), (273, .iadd, 1), (274, .iaload, 1), (275, .aload 0, 1), (276, .iload 3, 1), (277, .iconst 4, 1), (278, .iadd, 1), (279, .iaload, 1), (280, .invokestatic 56858002, 3), (283, .if_icmp .eq 1453, 3), (286, .iconst 0, 1), (287, .ireturn, 1), (288, .aload 1, 1), (289, .aload 0, 1), (290, .iload 3, 1), (291, .iconst 1, 1), (292, .iadd, 1), (293, .iaload, 1), (294, .aload 0, 1), (295, .iload 3, 1), (296, .iconst 2, 1), (297, .iadd, 1), (298, .iaload, 1), (299, .aload 0, 1), (300, .iload 3, 1), (301, .iconst 3, 1), (302, .iadd, 1), (303, .iaload, 1), (304, .i2l, 1), (305, .iconst 32, 2), (307, .lshl, 1), (308, .aload 0, 1), (309, .iload 3, 1), (310, .iconst 4, 1), (311, .iadd, 1), (312, .iaload, 1), (313, .i2l, 1), (314, .sipush 4294967295, 3), (317, .land, 1), (318, .lor, 1), (319, .invokestatic 54699103, 3), (322, .aload 2, 1), (323, .aload 0, 1), (324, .iload 3, 1), (325, .iconst 1, 1), (326, .iadd, 1), (327, .iaload, 1), (328, .aload 0, 1), (329, .iload 3, 1), (330, .iconst 2, 1), (331, .iadd, 1), (332, .iaload, 1), (333, .aload 0, 1), (334, .iload 3, 1), (335, .iconst 3, 1), (336, .iadd, 1), (337, .iaload, 1), (338, .i2l, 1), (339, .iconst 32, 2), (341, .lshl, 1), (342, .aload 0, 1), (343, .iload 3, 1), (344, .iconst 4, 1), (345, .iadd, 1), (346, .iaload, 1), (347, .i2l, 1), (348, .sipush 4294967295, 3), (351, .land, 1), (352, .lor, 1), (353, .invokestatic 56796354, 3), (356, .multianewarray 0 1453, 4), (360, .iconst 0, 1), (361, .ireturn, 1), (362, .aload 1, 1), (363, .aload 0, 1), (364, .iload 3, 1), (365, .iconst 1, 1), (366, .iadd, 1), (367, .iaload, 1), (368, .aload 0, 1), (369, .iload 3, 1), (370, .iconst 2, 1), (371, .iadd, 1), (372, .iaload, 1), (373, .invokestatic 54633312, 3), (376, .aload 2, 1), (377, .aload 0, 1), (378, .iload 3, 1), (379, .iconst 1, 1), (380, .iadd, 1), (381, .iaload, 1), (382, .aload 0, 1), (383, .iload 3, 1), (384, .iconst 2, 1), (385, .iadd, 1), (386, .iaload, 1), (387, .invokestatic 56796091, 3), (390, .multianewarray 0 1453, 4), (394, .iconst 0, 1), (395, .ireturn, 1), (396, .aload 1, 1), (397, .aload 0, 1), (398, .iload 3, 1), (399, .iconst 1, 1), (400, .iadd, 1), (401, .iaload, 1), (402, .aload 0, 1), (403, .iload 3, 1), (404, .iconst 2, 1), (405, .iadd, 1), (406, .iaload, 1), (407, .aload 0, 1), (408, .iload 3, 1), (409, .iconst 3, 1), (410, .iadd, 1), (411, .iaload, 1), (412, .invokestatic 54727777, 3), (415, .aload 2, 1), (416, .aload 0, 1), (417, .iload 3, 1), (418, .iconst 1, 1), (419, .iadd, 1), (420, .iaload, 1), (421, .aload 0, 1), (422, .iload 3, 1), (423, .iconst 2, 1), (424, .iadd, 1), (425, .iaload, 1), (426, .aload 0, 1), (427, .iload 3, 1), (428, .iconst 3, 1), (429, .iadd, 1), (430, .iaload, 1), (431, .invokestatic 56792252, 3), (434, .if_icmp .eq 1453, 3), (437, .iconst 0, 1), (438, .ireturn, 1), (439, .aload 1, 1), (440, .aload 0, 1), (441, .iload 3, 1), (442, .iconst 1, 1), (443, .iadd, 1), (444, .iaload, 1), (445, .aload 0, 1), (446, .iload 3, 1), (447, .iconst 2, 1), (448, .iadd, 1), (449, .iaload, 1), (450, .invokestatic 54629218, 3), (453, .aload 2, 1), (454, .aload 0, 1), (455, .iload 3, 1), (456, .iconst 1, 1), (457, .iadd, 1), (458, .iaload, 1), (459, .aload 0, 1), (460, .iload 3, 1), (461, .iconst 2, 1), (462, .iadd, 1), (463, .iaload, 1), (464, .invokestatic 56726461, 3), (467, .if_icmp .eq 1453, 3), (470, .iconst 0, 1), (471, .ireturn, 1), (472, .aload 1, 1), (473, .aload 0, 1), (474, .iload 3, 1), (475, .iconst 1, 1), (476, .iadd, 1), (477, .iaload, 1), (478, .invokestatic 54596195, 3), (481, .aload 2, 1), (482, .aload 0, 1), (483, .iload 3, 1), (484, .iconst 1, 1), (485, .iadd, 1), (486, .iaload, 1), (487, .invokestatic 56693395, 3), (490, .if_icmp .eq 1453, 3), (493, .iconst 0, 1), (494, .ireturn, 1), (495, .aload 1, 1), (496, .aload 0, 1), (497, .iload 3, 1), (498, .iconst 1, 1), (499, .iadd, 1), (500, .iaload, 1), (501, .invokestatic 54694500, 3), (504, .aload 2, 1), (505, .aload 0, 1), (506, .iload 3, 1), (507, .iconst 1, 1), (508, .iadd, 1), (509, .iaload, 1), (510, .invokestatic 56824490, 3), (513, .if_icmp .eq 1453, 3), (516, .iconst 0, 1), (517, .ireturn, 1), (518, .aload 1, 1), (519, .aload 0, 1), (520, .iload 3, 1), (521, .iconst 1, 1), (522, .iadd, 1), (523, .iaload, 1), (524, .invokestatic 54628965, 3), (527, .aload 2, 1), (528, .aload 0, 1), (529, .iload 3, 1), (530, .iconst 1, 1), (531, .iadd, 1), (532, .iaload, 1), (533, .invokestatic 56758955, 3), (536, .if_icmp .eq 1453, 3), (539, .iconst 0, 1), (540, .ireturn, 1), (541, .aload 1, 1), (542, .aload 0, 1), (543, .iload 3, 1), (544, .iconst 1, 1), (545, .iadd, 1), (546, .iaload, 1), (547, .aload 0, 1), (548, .iload 3, 1), (549, .iconst 2, 1), (550, .iadd, 1), (551, .iaload, 1), (552, .invokestatic 54629222, 3), (555, .aload 2, 1), (556, .aload 0, 1), (557, .iload 3, 1), (558, .iconst 1, 1), (559, .iadd, 1), (560, .iaload, 1), (561, .aload 0, 1), (562, .iload 3, 1), (563, .iconst 2, 1), (564, .iadd, 1), (565, .iaload, 1), (566, .invokestatic 56791980, 3), (569, .if_icmp .eq 1453, 3), (572, .iconst 0, 1), (573, .ireturn, 1), (574, .aload 1, 1), (575, .aload 0, 1), (576, .iload 3, 1), (577, .iconst 1, 1), (578, .iadd, 1), (579, .iaload, 1), (580, .aload 0, 1), (581, .iload 3, 1), (582, .iconst 2, 1), (583, .iadd, 1), (584, .iaload, 1), (585, .aload 0, 1), (586, .iload 3, 1), (587, .iconst 3, 1), (588, .iadd, 1), (589, .iaload, 1), (590, .invokestatic 54666343, 3), (593, .aload 2, 1), (594, .aload 0, 1), (595, .iload 3, 1), (596, .iconst 1, 1), (597, .iadd, 1), (598, .iaload, 1), (599, .aload 0, 1), (600, .iload 3, 1), (601, .iconst 2, 1), (602, .iadd, 1), (603, .iaload, 1), (604, .aload 0, 1), (605, .iload 3, 1), (606, .iconst 3, 1), (607, .iadd, 1), (608, .iaload, 1), (609, .invokestatic 56829107, 3), (612, .multianewarray 0 1453, 4), (616, .iconst 0, 1), (617, .ireturn, 1), (618, .aload 1, 1), (619, .aload 0, 1), (620, .iload 3, 1), (621, .iconst 1, 1), (622, .iadd, 1), (623, .iaload, 1), (624, .aload 0, 1), (625, .iload 3, 1), (626, .iconst 2, 1), (627, .iadd, 1), (628, .iaload, 1), (629, .aload 0, 1), (630, .iload 3, 1), (631, .iconst 3, 1), (632, .iadd, 1), (633, .iaload, 1), (634, .invokestatic 54695016, 3), (637, .aload 2, 1), (638, .aload 0, 1), (639, .iload 3, 1), (640, .iconst 1, 1), (641, .iadd, 1), (642, .iaload, 1), (643, .aload 0, 1), (644, .iload 3, 1), (645, .iconst 2, 1), (646, .iadd, 1), (647, .iaload, 1), (648, .aload 0, 1), (649, .iload 3, 1), (650, .iconst 3, 1), (651, .iadd, 1), (652, .iaload, 1), (653, .invokestatic 56759476, 3), (656, .if_icmp .eq 1453, 3), (659, .iconst 0, 1), (660, .ireturn, 1), (661, .aload 1, 1), (662, .invokestatic 54563177, 3), (665, .aload 2, 1), (666, .invokestatic 56693208, 3), (669, .if_icmp .eq 1453, 3), (672, .iconst 0, 1), (673, .ireturn, 1), (674, .aload 1, 1), (675, .aload 0, 1), (676, .iload 3, 1), (677, .iconst 1, 1), (678, .iadd, 1), (679, .iaload, 1), (680, .aload 0, 1), (681, .iload 3, 1), (682, .iconst 2, 1), (683, .iadd, 1), (684, .iaload, 1), (685, .invokestatic 54633322, 3), (688, .aload 2, 1), (689, .aload 0, 1), (690, .iload 3, 1), (691, .iconst 1, 1), (692, .iadd, 1), (693, .iaload, 1), (694, .aload 0, 1), (695, .iload 3, 1), (696, .iconst 2, 1), (697, .iadd, 1), (698, .iaload, 1), (699, .invokestatic 56730585, 3), (702, .multianewarray 0 1453, 4), (706, .iconst 0, 1), (707, .ireturn, 1), (708, .aload 1, 1), (709, .aload 0, 1), (710, .iload 3, 1), (711, .iconst 1, 1), (712, .iadd, 1), (713, .iaload, 1), (714, .aload 0, 1), (715, .iload 3, 1), (716, .iconst 2, 1), (717, .iadd, 1), (718, .iaload, 1), (719, .aload 0, 1), (720, .iload 3, 1), (721, .iconst 3, 1), (722, .iadd, 1), (723, .iaload, 1), (724, .invokestatic 54666347, 3), (727, .aload 2, 1), (728, .aload 0, 1), (729, .iload 3, 1), (730, .iconst 1, 1), (731, .iadd, 1), (732, .iaload, 1), (733, .aload 0, 1), (734, .iload 3, 1), (735, .iconst 2, 1), (736, .iadd, 1), (737, .iaload, 1), (738, .aload 0, 1), (739, .iload 3, 1), (740, .iconst 3, 1), (741, .iadd, 1), (742, .iaload, 1), (743, .invokestatic 56763610, 3), (746, .multianewarray 0 1453, 4), (750, .iconst 0, 1), (751, .ireturn, 1), (752, .aload 1, 1), (753, .invokestatic 54567276, 3), (756, .aload 2, 1), (757, .invokestatic 56664515, 3), (760, .multianewarray 0 1453, 4), (764, .iconst 0, 1), (765, .ireturn, 1), (766, .aload 1, 1), (767, .invokestatic 54563181, 3), (770, .aload 2, 1), (771, .invokestatic 56660420, 3), (774, .if_icmp .eq 1453, 3), (777, .iconst 0, 1), (778, .ireturn, 1), (779, .aload 1, 1), (780, .aload 0, 1), (781, .iload 3, 1), (782, .iconst 1, 1), (783, .iadd, 1), (784, .iaload, 1), (785, .aload 0, 1), (786, .iload 3, 1), (787, .iconst 2, 1), (788, .iadd, 1), (789, .iaload, 1), (790, .invokestatic 54629230, 3), (793, .aload 2, 1), (794, .aload 0, 1), (795, .iload 3, 1), (796, .iconst 1, 1), (797, .iadd, 1), (798, .iaload, 1), (799, .aload 0, 1), (800, .iload 3, 1), (801, .iconst 2, 1), (802, .iadd, 1), (803, .iaload, 1), (804, .invokestatic 56726469, 3), (807, .if_icmp .eq 1453, 3), (810, .iconst 0, 1), (811, .ireturn, 1), (812, .aload 1, 1), (813, .aload 0, 1), (814, .iload 3, 1), (815, .iconst 1, 1), (816, .iadd, 1), (817, .iaload, 1), (818, .aload 0, 1), (819, .iload 3, 1), (820, .iconst 2, 1), (821, .iadd, 1), (822, .iaload, 1), (823, .invokestatic 54694767, 3), (826, .aload 2, 1), (827, .aload 0, 1), (828, .iload 3, 1), (829, .iconst 1, 1), (830, .iadd, 1), (831, .iaload, 1), (832, .aload 0, 1), (833, .iload 3, 1), (834, .iconst 2, 1), (835, .iadd, 1), (836, .iaload, 1), (837, .invokestatic 56792008, 3), (840, .if_icmp .eq 1453, 3), (843, .iconst 0, 1), (844, .ireturn, 1), (845, .aload 1, 1), (846, .aload 0, 1), (847, .iload 3, 1), (848, .iconst 1, 1), (849, .iadd, 1), (850, .iaload, 1), (851, .aload 0, 1), (852, .iload 3, 1), (853, .iconst 2, 1), (854, .iadd, 1), (855, .iaload, 1), (856, .aload 0, 1), (857, .iload 3, 1), (858, .iconst 3, 1), (859, .iadd, 1), (860, .iaload, 1), (861, .invokestatic 54699120, 3), (864, .aload 2, 1), (865, .aload 0, 1), (866, .iload 3, 1), (867, .iconst 1, 1), (868, .iadd, 1), (869, .iaload, 1), (870, .aload 0, 1), (871, .iload 3, 1), (872, .iconst 2, 1), (873, .iadd, 1), (874, .iaload, 1), (875, .aload 0, 1), (876, .iload 3, 1), (877, .iconst 3, 1), (878, .iadd, 1), (879, .iaload, 1), (880, .invokestatic 56763593, 3), (883, .multianewarray 0 1453, 4), (887, .iconst 0, 1), (888, .ireturn, 1), (889, .aload 1, 1), (890, .aload 0, 1), (891, .iload 3, 1), (892, .iconst 1, 1), (893, .iadd, 1), (894, .iaload, 1), (895, .aload 0, 1), (896, .iload 3, 1), (897, .iconst 2, 1), (898, .iadd, 1), (899, .iaload, 1), (900, .invokestatic 54633329, 3), (903, .aload 2, 1), (904, .aload 0, 1), (905, .iload 3, 1), (906, .iconst 1, 1), (907, .iadd, 1), (908, .iaload, 1), (909, .aload 0, 1), (910, .iload 3, 1), (911, .iconst 2, 1), (912, .iadd, 1), (913, .iaload, 1), (914, .invokestatic 56730573, 3), (917, .multianewarray 0 1453, 4), (921, .iconst 0, 1), (922, .ireturn, 1), (923, .aload 1, 1), (924, .aload 0, 1), (925, .iload 3, 1), (926, .iconst 1, 1), (927, .iadd, 1), (928, .iaload, 1), (929, .invokestatic 54665842, 3), (932, .aload 2, 1), (933, .aload 0, 1), (934, .iload 3, 1), (935, .iconst 1, 1), (936, .iadd, 1), (937, .iaload, 1), (938, .invokestatic 56828623, 3), (941, .multianewarray 0 1453, 4), (945, .iconst 0, 1), (946, .ireturn, 1), (947, .aload 1, 1), (948, .aload 0, 1), (949, .iload 3, 1), (950, .iconst 1, 1), (951, .iadd, 1), (952, .iaload, 1), (953, .invokestatic 54698611, 3), (956, .aload 2, 1), (957, .aload 0, 1), (958, .iload 3, 1), (959, .iconst 1, 1), (960, .iadd, 1), (961, .iaload, 1), (962, .invokestatic 56697564, 3), (965, .multianewarray 0 1453, 4), (969, .iconst 0, 1), (970, .ireturn, 1), (971, .aload 1, 1), (972, .aload 0, 1), (973, .iload 3, 1), (974, .iconst 1, 1), (975, .iadd, 1), (976, .iaload, 1), (977, .aload 0, 1), (978, .iload 3, 1), (979, .iconst 2, 1), (980, .iadd, 1), (981, .iaload, 1), (982, .invokestatic 54629236, 3), (985, .aload 2, 1), (986, .aload 0, 1), (987, .iload 3, 1), (988, .iconst 1, 1), (989, .iadd, 1), (990, .iaload, 1), (991, .aload 0, 1), (992, .iload 3, 1), (993, .iconst 2, 1), (994, .iadd, 1), (995, .iaload, 1), (996, .invokestatic 56726493, 3), (999, .if_icmp .eq 1453, 3), (1002, .iconst 0, 1), (1003, .ireturn, 1), (1004, .aload 1, 1), (1005, .aload 0, 1), (1006, .iload 3, 1), (1007, .iconst 1, 1), (1008, .iadd, 1), (1009, .iaload, 1), (1010, .invokestatic 54596213, 3), (1013, .aload 2, 1), (1014, .aload 0, 1), (1015, .iload 3, 1), (1016, .iconst 1, 1), (1017, .iadd, 1), (1018, .iaload, 1), (1019, .invokestatic 56759006, 3), (1022, .if_icmp .eq 1453, 3), (1025, .iconst 0, 1), (1026, .ireturn, 1), (1027, .aload 1, 1), (1028, .aload 0, 1), (1029, .iload 3, 1), (1030, .iconst 1, 1), (1031, .iadd, 1), (1032, .iaload, 1), (1033, .aload 0, 1), (1034, .iload 3, 1), (1035, .iconst 2, 1), (1036, .iadd, 1), (1037, .iaload, 1), (1038, .invokestatic 54633334, 3), (1041, .aload 2, 1), (1042, .aload 0, 1), (1043, .iload 3, 1), (1044, .iconst 1, 1), (1045, .iadd, 1), (1046, .iaload, 1), (1047, .aload 0, 1), (1048, .iload 3, 1), (1049, .iconst 2, 1), (1050, .iadd, 1), (1051, .iaload, 1), (1052, .invokestatic 56828895, 3), (1055, .multianewarray 0 1453, 4), (1059, .iconst 0, 1), (1060, .ireturn, 1), (1061, .aload 1, 1), (1062, .aload 0, 1), (1063, .iload 3, 1), (1064, .iconst 1, 1), (1065, .iadd, 1), (1066, .iaload, 1), (1067, .aload 0, 1), (1068, .iload 3, 1), (1069, .iconst 2, 1), (1070, .iadd, 1), (1071, .iaload, 1), (1072, .invokestatic 54633335, 3), (1075, .aload 2, 1), (1076, .aload 0, 1), (1077, .iload 3, 1), (1078, .iconst 1, 1), (1079, .iadd, 1), (1080, .iaload, 1), (1081, .aload 0, 1), (1082, .iload 3, 1), (1083, .iconst 2, 1), (1084, .iadd, 1), (1085, .iaload, 1), (1086, .invokestatic 56861666, 3), (1089, .multianewarray 0 1453, 4), (1093, .iconst 0, 1), (1094, .ireturn, 1), (1095, .aload 1, 1), (1096, .aload 0, 1), (1097, .iload 3, 1), (1098, .iconst 1, 1), (1099, .iadd, 1), (1100, .iaload, 1), (1101, .aload 0, 1), (1102, .iload 3, 1), (1103, .iconst 2, 1), (1104, .iadd, 1), (1105, .iaload, 1), (1106, .invokestatic 54694776, 3), (1109, .aload 2, 1), (1110, .aload 0, 1), (1111, .iload 3, 1), (1112, .iconst 1, 1), (1113, .iadd, 1), (1114, .iaload, 1), (1115, .aload 0, 1), (1116, .iload 3, 1), (1117, .iconst 2, 1), (1118, .iadd, 1), (1119, .iaload, 1), (1120, .invokestatic 56792036, 3), (1123, .if_icmp .eq 1453, 3), (1126, .iconst 0, 1), (1127, .ireturn, 1), (1128, .aload 1, 1), (1129, .invokestatic 54563193, 3), (1132, .aload 2, 1), (1133, .invokestatic 56660455, 3), (1136, .if_icmp .eq 1453, 3), (1139, .iconst 0, 1), (1140, .ireturn, 1), (1141, .aload 1, 1), (1142, .invokestatic 54563194, 3), (1145, .aload 2, 1), (1146, .invokestatic 56660456, 3), (1149, .if_icmp .eq 1453, 3), (1152, .iconst 0, 1), (1153, .ireturn, 1), (1154, .aload 1, 1), (1155, .aload 0, 1), (1156, .iload 3, 1), (1157, .iconst 1, 1), (1158, .iadd, 1), (1159, .iaload, 1), (1160, .invokestatic 54596219, 3), (1163, .aload 2, 1), (1164, .aload 0, 1), (1165, .iload 3, 1), (1166, .iconst 1, 1), (1167, .iadd, 1), (1168, .iaload, 1), (1169, .invokestatic 56759018, 3), (1172, .if_icmp .eq 1453, 3), (1175, .iconst 0, 1), (1176, .ireturn, 1), (1177, .aload 1, 1), (1178, .aload 0, 1), (1179, .iload 3, 1), (1180, .iconst 1, 1), (1181, .iadd, 1), (1182, .iaload, 1), (1183, .aload 0, 1), (1184, .iload 3, 1), (1185, .iconst 2, 1), (1186, .iadd, 1), (1187, .iaload, 1), (1188, .aload 0, 1), (1189, .iload 3, 1), (1190, .iconst 3, 1), (1191, .iadd, 1), (1192, .iaload, 1), (1193, .invokestatic 54662268, 3), (1196, .aload 2, 1), (1197, .aload 0, 1), (1198, .iload 3, 1), (1199, .iconst 1, 1), (1200, .iadd, 1), (1201, .iaload, 1), (1202, .aload 0, 1), (1203, .iload 3, 1), (1204, .iconst 2, 1), (1205, .iadd, 1), (1206, .iaload, 1), (1207, .aload 0, 1), (1208, .iload 3, 1), (1209, .iconst 3, 1), (1210, .iadd, 1), (1211, .iaload, 1), (1212, .invokestatic 56792300, 3), (1215, .if_icmp .eq 1453, 3), (1218, .iconst 0, 1), (1219, .ireturn, 1), (1220, .aload 1, 1), (1221, .aload 0, 1), (1222, .iload 3, 1), (1223, .iconst 1, 1), (1224, .iadd, 1), (1225, .iaload, 1), (1226, .aload 0, 1), (1227, .iload 3, 1), (1228, .iconst 2, 1), (1229, .iadd, 1), (1230, .iaload, 1), (1231, .aload 0, 1), (1232, .iload 3, 1), (1233, .iconst 3, 1), (1234, .iadd, 1), (1235, .iaload, 1), (1236, .i2l, 1), (1237, .iconst 32, 2), (1239, .lshl, 1), (1240, .aload 0, 1), (1241, .iload 3, 1), (1242, .iconst 4, 1), (1243, .iadd, 1), (1244, .iaload, 1), (1245, .i2l, 1), (1246, .sipush 4294967295, 3), (1249, .land, 1), (1250, .lor, 1), (1251, .invokestatic 54727805, 3), (1254, .aload 2, 1), (1255, .aload 0, 1), (1256, .iload 3, 1), (1257, .iconst 1, 1), (1258, .iadd, 1), (1259, .iaload, 1), (1260, .aload 0, 1), (1261, .iload 3, 1), (1262, .iconst 2, 1), (1263, .iadd, 1), (1264, .iaload, 1), (1265, .aload 0, 1), (1266, .iload 3, 1), (1267, .iconst 3, 1), (1268, .iadd, 1), (1269, .iaload, 1), (1270, .i2l, 1), (1271, .iconst 32, 2), (1273, .lshl, 1), (1274, .aload 0, 1), (1275, .iload 3, 1), (1276, .iconst 4, 1), (1277, .iadd, 1), (1278, .iaload, 1), (1279, .i2l, 1), (1280, .sipush 4294967295, 3), (1283, .land, 1), (1284, .lor, 1), (1285, .invokestatic 56792301, 3), (1288, .if_icmp .eq 1453, 3), (1291, .iconst 0, 1), (1292, .ireturn, 1), (1293, .aload 1, 1), (1294, .aload 0, 1), (1295, .iload 3, 1), (1296, .iconst 1, 1), (1297, .iadd, 1), (1298, .iaload, 1), (1299, .aload 0, 1), (1300, .iload 3, 1), (1301, .iconst 2, 1), (1302, .iadd, 1), (1303, .iaload, 1), (1304, .invokestatic 54666110, 3), (1307, .aload 2, 1), (1308, .aload 0, 1), (1309, .iload 3, 1), (1310, .iconst 1, 1), (1311, .iadd, 1), (1312, .iaload, 1), (1313, .aload 0, 1), (1314, .iload 3, 1), (1315, .iconst 2, 1), (1316, .iadd, 1), (1317, .iaload, 1), (1318, .invokestatic 56730606, 3), (1321, .multianewarray 0 1453, 4), (1325, .iconst 0, 1), (1326, .ireturn, 1), (1327, .aload 1, 1), (1328, .aload 0, 1), (1329, .iload 3, 1), (1330, .iconst 1, 1), (1331, .iadd, 1), (1332, .iaload, 1), (1333, .aload 0, 1), (1334, .iload 3, 1), (1335, .iconst 2, 1), (1336, .iadd, 1), (1337, .iaload, 1), (1338, .aload 0, 1), (1339, .iload 3, 1), (1340, .iconst 3, 1), (1341, .iadd, 1), (1342, .iaload, 1), (1343, .aload 0, 1), (1344, .iload 3, 1), (1345, .iconst 4, 1), (1346, .iadd, 1), (1347, .iaload, 1), (1348, .aload 0, 1), (1349, .iload 3, 1), (1350, .iconst 5, 1), (1351, .iadd, 1), (1352, .iaload, 1), (1353, .invokestatic 54793855, 3), (1356, .aload 2, 1), (1357, .aload 0, 1), (1358, .iload 3, 1), (1359, .iconst 1, 1), (1360, .iadd, 1), (1361, .iaload, 1), (1362, .aload 0, 1), (1363, .iload 3, 1), (1364, .iconst 2, 1), (1365, .iadd, 1), (1366, .iaload, 1), (1367, .aload 0, 1), (1368, .iload 3, 1), (1369, .iconst 3, 1), (1370, .iadd, 1), (1371, .iaload, 1), (1372, .aload 0, 1), (1373, .iload 3, 1), (1374, .iconst 4, 1), (1375, .iadd, 1), (1376, .iaload, 1), (1377, .aload 0, 1), (1378, .iload 3, 1), (1379, .iconst 5, 1), (1380, .iadd, 1), (1381, .iaload, 1), (1382, .invokestatic 56923887, 3), (1385, .if_icmp .eq 1453, 3), (1388, .iconst 0, 1), (1389, .ireturn, 1), (1390, .aload 1, 1), (1391, .aload 0, 1), (1392, .iload 3, 1), (1393, .iconst 1, 1), (1394, .iadd, 1), (1395, .iaload, 1), (1396, .aload 0, 1), (1397, .iload 3, 1), (1398, .iconst 2, 1), (1399, .iadd, 1), (1400, .iaload, 1), (1401, .aload 0, 1), (1402, .iload 3, 1), (1403, .iconst 3, 1), (1404, .iadd, 1), (1405, .iaload, 1), (1406, .aload 0, 1), (1407, .iload 3, 1), (1408, .iconst 4, 1), (1409, .iadd, 1), (1410, .iaload, 1), (1411, .aload 0, 1), (1412, .iload 3, 1), (1413, .iconst 5, 1), (1414, .iadd, 1), (1415, .iaload, 1), (1416, .invokestatic 54793856, 3), (1419, .aload 2, 1), (1420, .aload 0, 1), (1421, .iload 3, 1), (1422, .iconst 1, 1), (1423, .iadd, 1), (1424, .iaload, 1), (1425, .aload 0, 1), (1426, .iload 3, 1), (1427, .iconst 2, 1), (1428, .iadd, 1), (1429, .iaload, 1), (1430, .aload 0, 1), (1431, .iload 3, 1), (1432, .iconst 3, 1), (1433, .iadd, 1), (1434, .iaload, 1), (1435, .aload 0, 1), (1436, .iload 3, 1), (1437, .iconst 4, 1), (1438, .iadd, 1), (1439, .iaload, 1), (1440, .aload 0, 1), (1441, .iload 3, 1), (1442, .iconst 5, 1), (1443, .iadd, 1), (1444, .iaload, 1), (1445, .invokestatic 56923888, 3), (1448, .if_icmp .eq 1453, 3), (1451, .iconst 0, 1), (1452, .ireturn, 1), (1453, .iinc 3 6, 3), (1456, .goto 18, 3), (1459, .iconst 1, 1), (1460, .ireturn, 1)]
def jCodes : List (List (Nat × Instr × Nat)) := [jcX0_init, jcX0_take, jcX0_seat, jcX0_isIn, jcX0_forcedBeside, jcX0_marked, jcX0_owned, jcX0_namersOf, jcX0_reachOf, jcX0_weighRules, jcX0_refusalOf, jcX1_init, jcX1_write, jcX1_hear, jcX2_init, jcX2_find, jcX2_grow, jcX2_turn, jcX2_spread, jcX3_init, jcX3_find, jcX3_merge, jcX3_headTotal, jcX3_firstJudge, jcX3_follow, jcX3_placeOf, jcX4_init, jcX4_load, jcX4_take, jcX4_openBy, jcX4_force, jcX4_isOpen, jcX4_openPairs, jcX4_closeJudge, jcX4_closeHeavier, jcX4_heavierThan, jcX4_weigh, jcX4_listCases, jcX4_canTake, jcX4_weighFrom, jcX4_leads, jcX4_pick, jcX4_share, jcX4_shareFrom, jcX4_follows, jcX4_sumOf, jcX4_sharedOf, jcX5_init, jcX5_make, jcX5_firstPay, jcX5_slack, jcX5_findTight, jcX5_leastSlack, jcX5_keep, jcX5_raise, jcX6_init, jcX6_clear, jcX6_take, jcX6_add, jcX6_landHere, jcX6_names, jcX6_weightBy, jcX7_init, jcX7_become, jcX7_holds, jcX7_set, jcX8_init, jcX8_add, jcX8_parse, jcX8_expr, jcX8_sum, jcX8_product, jcX8_factor, jcX8_atom, jcX8_function, jcX8_part, jcX8_enter, jcX8_leave, jcX8_step, jcX8_word, jcX8_nameOfOne, jcX8_nameOfThree, jcX8_digits, jcX8_isLetter, jcX8_isDigit, jcX8_isSign, jcX9_init, jcX9_burdenOf, jcX9_read, jcX9_leaf, jcX9_join, jcX9_fail, jcX10_init, jcX10_here, jcX10_trait, jcX10_tell, jcX10_burden, jcX10_mark, jcX10_open, jcX10_feed, jcX10_text, jcX10_empty, jcX10_told, jcX10_value, jcX10_why, jcX10_solve, jcX10_round, jcX10_price, jcX10_total, jcX10_many, jcX10_best, jcX10_kind, jcX10_room, jcX10_next, jcX10_fair, jcX10_days, jcX10_day, jcX10_lack, jcX10_without, jcX10_tells, jcX10_film, jcX10_image, jcX10_back, jcX10_count, jcX10_sheet, jcX10_put, jcX10_item, jcX10_copy, jcX10_lay, jcX10_isSide, jcX10_isSeat, jcX10_isPair, jcX10_isRule, jcX10_isSheet, jcX10_changed, jcX10_refreshPlan, jcX10_refreshShares, jcX10_refreshNextOnes, jcX10_refreshDiary, jcX11_in, jcX11_init, jcX11_isWho, jcX11_isPair, jcX11_isJudge, jcX11_isCase, jcX11_here, jcX11_trait, jcX11_feed, jcX11_byteAt, jcX11_isLetter, jcX11_isDigit, jcX11_isThree, jcX11_word, jcX11_isSignByte, jcX11_next, jcX11_fail, jcX11_isSign, jcX11_takes, jcX11_part, jcX11_opens, jcX11_expression, jcX11_sum, jcX11_product, jcX11_factor, jcX11_ofTwo, jcX11_names, jcX11_comesTo, jcX11_weight, jcX11_trades, jcX11_isHeavy, jcX11_text, jcX11_empty, jcX11_told, jcX11_fails, jcX11_valueOf, jcX11_named, jcX11_limited, jcX11_valueOf_, jcX11_asked, jcX11_value, jcX11_why, jcX11_burdenOf, jcX11_forcedOf, jcX11_isOpen, jcX11_tellsBurdens, jcX11_opens_, jcX11_costs, jcX11_burden, jcX11_mark, jcX11_open, jcX11_openMany, jcX11_least, jcX11_toldOr, jcX11_picks, jcX11_tell, jcX11_total, jcX11_many, jcX11_best, jcX11_with, jcX11_lacking, jcX11_kind, jcX11_room, jcX11_enters, jcX11_walks, jcX11_lists, jcX11_next_, jcX11_heaviest, jcX11_fair, jcX11_finds, jcX11_greatest, jcX11_marking, jcX11_casesIn, jcX11_slack, jcX11_rise, jcX11_begins, jcX11_isLast, jcX11_solve, jcX11_round, jcX11_price, jcX11_daysOf, jcX11_days, jcX11_day, jcX11_lack, jcX11_without, jcX11_casesMany, jcX11_reads, jcX11_tells, jcX11_placeOf, jcX11_film, jcX11_copies, jcX11_keeps, jcX11_image, jcX11_back, jcX11_marksOf, jcX11_count, jcX11_isSheet, jcX11_sheet, jcX11_put, jcX11_item, jcX11_copy, jcX11_lay, jcJ6_bitCount_0f7a4, jcJ9_floorDiv_f86c9, jcJ9_floorMod_f86c9, jcJ9_abs_067f4, jcJ9_max_f86c9, jcJ9_min_f86c9, jcJ7_fill_d0a16, jcJ7_fill_53178, jcL_law]
def jCode (i : Nat) : List (Nat × Instr × Nat) := jCodes.getD i []
def jIns (z pc : Nat) : Option (Instr × Nat) := (jCode (jIx z)).lookup pc
end
section
/-! what one instruction does; the run; the run piece by piece (jWp) -/
/-- a new cell: all its places at 0, references at none (-1) -/
def jNw (m : jM) : jM := fun k i => if k = m (-3) 0 then jDf k i else if k = -3 ∧ i = 0 then m (-3) 0 + 1 else m k i
def jLim (m : jM) (y : Nat) : jM := jUp m (-3) 1 (m (-3) 0 + (jMc y : Int))
/-- a field is read -/
def jGet (md f : Nat) (c : Nat) (a : Int) (m : jM) (k : jV → Option jE) (g : Prop → jV → Option jE) : Option jE :=
  if c = jFc f then
    (match jFg f with
    | 0 => k (jI (m a (jFj f)))
    | 1 => k (jL (m a (jFj f)))
    | 2 => k (jI (m a (jFj f)))
    | 3 => if md = 0 then k (jO (jFt f) (a + jFo f)) else if md = 1 then g (m a (jFj f) = a + jFo f) (jO (jFt f) (a + jFo f)) else none
    | 4 => if md = 0 then k (jY (jFt f) (jFl f) (a + jFo f)) else if md = 1 then g (m a (jFj f) = a + jFo f) (jY (jFt f) (jFl f) (a + jFo f)) else none
    | 5 => if md = 0 then k (jO (jFt f) (m a (jFj f))) else none
    | _ => none)
  else none
/-- a field is written -/
def jPut (md f : Nat) (c : Nat) (a : Int) (v : jV) (m : jM) (k : jM → Option jE) (g : Prop → jM → Option jE) : Option jE :=
  if c = jFc f then
    (match jFg f, v with
    | 0, .inl b => k (jUp m a (jFj f) b)
    | 1, .inr (.inl b) => k (jUp m a (jFj f) b)
    | 2, .inl b => if b = 0 ∨ b = 1 then k (jUp m a (jFj f) b) else none
    | 3, .inr (.inr (.inl (t, b))) => if md = 1 ∧ t = jFt f then g (b = a + jFo f) (jUp m a (jFj f) b) else none
    | 4, .inr (.inr (.inr (t, n, b))) => if md = 1 ∧ t = jFt f ∧ n = jFl f then g (b = a + jFo f) (jUp m a (jFj f) b) else none
    | 5, .inr (.inr (.inl (t, b))) => if md ≠ 2 ∧ t = jFt f then k (jUp m a (jFj f) b) else none
    | _, _ => none)
  else none
/-- what lies on the stack, else nothing -/
def jI1 (st : List jV) (k : Int → List jV → Option jE) : Option jE := match st with
  | .inl a :: r => k a r
  | _ => none
def jL1 (st : List jV) (k : Int → List jV → Option jE) : Option jE := match st with
  | .inr (.inl a) :: r => k a r
  | _ => none
def jR1 (st : List jV) (k : (Nat × Int) ⊕ (Nat × Int × Int) → List jV → Option jE) : Option jE := match st with
  | .inr (.inr a) :: r => k a r
  | _ => none
def jO1 (st : List jV) (k : Nat → Int → List jV → Option jE) : Option jE := match st with
  | .inr (.inr (.inl (c, a))) :: r => k c a r
  | _ => none
def jY1 (st : List jV) (k : Nat → Int → Int → List jV → Option jE) : Option jE := match st with
  | .inr (.inr (.inr (t, n, a))) :: r => k t n a r
  | _ => none
def jV1 (st : List jV) (k : jV → List jV → Option jE) : Option jE := match st with
  | v :: r => k v r
  | _ => none
def jLi (ls : jS) (i : Nat) (k : Int → Option jE) : Option jE := match ls[i]? with
  | some (some (.inl a)) => k a
  | _ => none
def jLl (ls : jS) (i : Nat) (k : Int → Option jE) : Option jE := match ls[i]? with
  | some (some (.inr (.inl a))) => k a
  | _ => none
def jLa (ls : jS) (i : Nat) (k : (Nat × Int) ⊕ (Nat × Int × Int) → Option jE) : Option jE := match ls[i]? with
  | some (some (.inr (.inr a))) => k a
  | _ => none
def jIf (c : Prop) [Decidable c] (e : Option jE) : Option jE := if c then e else none
def jNc (c : Nat) : Jvm.ClassFile.Cond := match c with
  | 0 => .eq
  | 1 => .ne
  | 2 => .lt
  | 3 => .ge
  | 4 => .gt
  | _ => .le
/-- the first argument is an object of class c -/
def jHd (c : Nat) (args : List jV) : Bool := match args with
  | .inr (.inr (.inl (d, _))) :: _ => Nat.beq d c
  | _ => false
def jEff (z : Nat) (ai : Instr) (len pc : Nat) (ls : jS) (st : List jV) (m : jM) : Option jE := match ai with
  | .iload k => jLi ls k (fun a => jN (pc + len) ls (.inl a :: st) m)
  | .lload k => jLl ls k (fun a => jN (pc + len) ls (.inr (.inl a) :: st) m)
  | .aload k => jLa ls k (fun a => jN (pc + len) ls (.inr (.inr a) :: st) m)
  | .istore k => jI1 st (fun a r => jLs (jSt1 ls k (.inl a)) (pc + len) r m)
  | .lstore k => jL1 st (fun a r => jLs (jSt2 ls k (.inr (.inl a))) (pc + len) r m)
  | .astore k => jR1 st (fun a r => jLs (jSt1 ls k (.inr (.inr a))) (pc + len) r m)
  | .iinc k n => jLi ls k (fun a => jLs (jSt1 ls k (.inl (w32 (a + n)))) (pc + len) st m)
  | .iconst v => jN (pc + len) ls (.inl v :: st) m
  | .sipush v => jN (pc + len) ls (.inr (.inl v) :: st) m
  | .dup => jR1 st (fun a r => jN (pc + len) ls (.inr (.inr a) :: .inr (.inr a) :: r) m)
  | .dup2 => jI1 st (fun a r => jR1 r (fun b r => jN (pc + len) ls (.inl a :: .inr (.inr b) :: .inl a :: .inr (.inr b) :: r) m))
  | .pop2 => jL1 st (fun _ r => jN (pc + len) ls r m)
  | .pop => jO1 st (fun _ _ r => jIf (jCats r ≤ 8) (jN (pc + len) ls r m))
  | .iadd => jI1 st (fun b r => jI1 r (fun a r => jN (pc + len) ls (.inl (w32 (a + b)) :: r) m))
  | .isub => jI1 st (fun b r => jI1 r (fun a r => jN (pc + len) ls (.inl (w32 (a - b)) :: r) m))
  | .imul => jI1 st (fun b r => jI1 r (fun a r => jN (pc + len) ls (.inl (w32 (a * b)) :: r) m))
  | .iand => jI1 st (fun b r => jI1 r (fun a r => jN (pc + len) ls (.inl (iAnd a b) :: r) m))
  | .ior => jI1 st (fun b r => jI1 r (fun a r => jN (pc + len) ls (.inl (iOr a b) :: r) m))
  | .ixor => jI1 st (fun b r => jI1 r (fun a r => jN (pc + len) ls (.inl (iXor a b) :: r) m))
  | .ishl => jI1 st (fun b r => jI1 r (fun a r => jN (pc + len) ls (.inl (iShl a b) :: r) m))
  | .ishr => jI1 st (fun b r => jI1 r (fun a r => jN (pc + len) ls (.inl (iShr a b) :: r) m))
  | .iushr => jI1 st (fun b r => jI1 r (fun a r => jN (pc + len) ls (.inl (iUshr a b) :: r) m))
  | .idiv => jI1 st (fun b r => jI1 r (fun a r => jG (b ≠ 0) (pc + len) ls (.inl (iDiv a b) :: r) m))
  | .irem => jI1 st (fun b r => jI1 r (fun a r => jG (b ≠ 0) (pc + len) ls (.inl (iRem a b) :: r) m))
  | .i2l => jI1 st (fun a r => jN (pc + len) ls (.inr (.inl a) :: r) m)
  | .l2i => jL1 st (fun a r => jN (pc + len) ls (.inl (w32 a) :: r) m)
  | .i2b => jI1 st (fun a r => jN (pc + len) ls (.inl (i2b a) :: r) m)
  | .lneg => jL1 st (fun a r => jN (pc + len) ls (.inr (.inl (w64 (-a))) :: r) m)
  | .ladd => jL1 st (fun b r => jL1 r (fun a r => jN (pc + len) ls (.inr (.inl (w64 (a + b))) :: r) m))
  | .lsub => jL1 st (fun b r => jL1 r (fun a r => jN (pc + len) ls (.inr (.inl (w64 (a - b))) :: r) m))
  | .lmul => jL1 st (fun b r => jL1 r (fun a r => jN (pc + len) ls (.inr (.inl (w64 (a * b))) :: r) m))
  | .land => jL1 st (fun b r => jL1 r (fun a r => jN (pc + len) ls (.inr (.inl (lAnd a b)) :: r) m))
  | .lor => jL1 st (fun b r => jL1 r (fun a r => jN (pc + len) ls (.inr (.inl (lOr a b)) :: r) m))
  | .lxor => jL1 st (fun b r => jL1 r (fun a r => jN (pc + len) ls (.inr (.inl (lXor a b)) :: r) m))
  | .lshl => jI1 st (fun b r => jL1 r (fun a r => jN (pc + len) ls (.inr (.inl (lShl a b)) :: r) m))
  | .ldiv => jL1 st (fun b r => jL1 r (fun a r => jG (b ≠ 0) (pc + len) ls (.inr (.inl (lDiv a b)) :: r) m))
  | .lrem => jL1 st (fun b r => jL1 r (fun a r => jG (b ≠ 0) (pc + len) ls (.inr (.inl (lRem a b)) :: r) m))
  | .goto t => jN t.toNat ls st m
  | .ifCond c t => jI1 st (fun a r => jBr c a 0 t.toNat (pc + len) r)
  | .if_icmp c t => jI1 st (fun b r => jI1 r (fun a r => jBr c a b t.toNat (pc + len) r))
  | .lookupswitch d ps => jI1 st (fun a r => jW (ps.toList.map (fun q => (a = q.1, q.2.toNat)) ++ [(∀ q ∈ ps.toList, a ≠ q.1, d.toNat)]) r)
  | .tableswitch d lo hi os => jI1 st (fun a r => jIf (os.size = (hi + 1 - lo).toNat) (jW (os.toList.zipIdx.map (fun q => (a = lo + (q.2 : Int), q.1.toNat)) ++ [(a < lo ∨ hi < a, d.toNat)]) r))
  /- lcmp, and the branch behind it: the condition, the target -/
  | .multianewarray c t => jL1 st (fun b r => jL1 r (fun a r => jBr (jNc c) a b t (pc + len) r))
  | .getfield f => jO1 st (fun c a r => jGet (jMd z) f c a m (fun v => jN (pc + len) ls (v :: r) m) (fun g v => jG g (pc + len) ls (v :: r) m))
  | .putfield f => jV1 st (fun v r => jO1 r (fun c a r => jPut (jMd z) f c a v m (fun m => jN (pc + len) ls r m) (fun g m => jG g (pc + len) ls r m)))
  | .arraylength => jY1 st (fun _ n _ r => jN (pc + len) ls (.inl n :: r) m)
  | .iaload => jI1 st (fun i r => jY1 r (fun t n a r => jIf (t = 0 ∨ t = 4) (jG (0 ≤ i ∧ i < n) (pc + len) ls (.inl (m a i) :: r) m)))
  | .laload => jI1 st (fun i r => jY1 r (fun t n a r => jIf (t = 1) (jG (0 ≤ i ∧ i < n) (pc + len) ls (.inr (.inl (m a i)) :: r) m)))
  | .aaload => jI1 st (fun i r => jY1 r (fun t n a r => jIf (jMd z = 0 ∧ (t = 2 ∨ t = 3)) (jG (0 ≤ i ∧ i < n) (pc + len) ls (.inr (.inr (.inl (t + 4, m a i))) :: r) m)))
  | .iastore => jI1 st (fun v r => jI1 r (fun i r => jY1 r (fun t n a r => jIf (t = 0) (jG (0 ≤ i ∧ i < n) (pc + len) ls r (jUp m a i v)))))
  | .lastore => jL1 st (fun v r => jI1 r (fun i r => jY1 r (fun t n a r => jIf (t = 1) (jG (0 ≤ i ∧ i < n) (pc + len) ls r (jUp m a i v)))))
  | .aastore => jO1 st (fun c b r => jI1 r (fun i r => jY1 r (fun t n a r => jIf (jMd z ≠ 2 ∧ (t = 2 ∨ t = 3) ∧ c = t + 4) (jG (0 ≤ i ∧ i < n) (pc + len) ls r (jUp m a i b)))))
  | .new c => jIf (jMd z = 1) (jG (m (-3) 0 < m (-3) 1 ∧ jKd (m (-3) 0) = c) (pc + len) ls (.inr (.inr (.inl (c, m (-3) 0))) :: st) (jNw m))
  | .newarray .int => jI1 st (fun n r => jIf (jMd z = 1) (jG (m (-3) 0 < m (-3) 1 ∧ jKd (m (-3) 0) = 20 ∧ jLn (m (-3) 0) = n) (pc + len) ls (.inr (.inr (.inr (0, n, m (-3) 0))) :: r) (jNw m)))
  | .newarray .long => jI1 st (fun n r => jIf (jMd z = 1) (jG (m (-3) 0 < m (-3) 1 ∧ jKd (m (-3) 0) = 21 ∧ jLn (m (-3) 0) = n) (pc + len) ls (.inr (.inr (.inr (1, n, m (-3) 0))) :: r) (jNw m)))
  | .anewarray t => jI1 st (fun n r => jIf (jMd z = 1 ∧ (t = 2 ∨ t = 3)) (jG (m (-3) 0 < m (-3) 1 ∧ jKd (m (-3) 0) = 20 + t ∧ jLn (m (-3) 0) = n) (pc + len) ls (.inr (.inr (.inr (t, n, m (-3) 0))) :: r) (jNw m)))
  /- System.arraycopy -/
  | .swap => jI1 st (fun n r => jI1 r (fun dp r => jY1 r (fun t1 n1 a1 r => jI1 r (fun sp r => jY1 r (fun t0 n0 a0 r => jIf (t0 = t1 ∧ (t1 = 0 ∨ t1 = 1) ∧ jCats r ≤ 8) (jG (0 ≤ sp ∧ 0 ≤ dp ∧ 0 ≤ n ∧ sp + n ≤ n0 ∧ dp + n ≤ n1) (pc + len) ls r (jCp m a0 sp a1 dp n)))))))
  | .invokestatic y => jIf (jNa y ≤ st.length ∧ jCats (st.drop (jNa y)) ≤ 8 ∧ (jLay (st.take (jNa y)).reverse).length ≤ jMx y ∧ (jKi y = 0 ∨ jHd (jCl y) (st.take (jNa y)).reverse = true)) (jC y (st.take (jNa y)).reverse (st.drop (jNa y)))
  | .ireturn => jI1 st (fun a r => jIf (r.isEmpty = true ∧ (jRt z = 1 ∨ jRt z = 3)) (jR a))
  | .lreturn => jL1 st (fun a r => jIf (r.isEmpty = true ∧ jRt z = 2) (jR a))
  | .return_ => jIf (st.isEmpty = true ∧ jRt z = 0) (jR 0)
  | _ => none
/-- a call, by the modes of caller and callee -/
def jCal (z y : Nat) (C : Nat → List jV → jM → (Int → jM → Prop) → Prop) (args : List jV) (m : jM) (K : Int → jM → Prop) : Prop := match jMd z, jMd y with
  | 0, 0 => C y args m K
  | 0, 2 => C y args m K
  | 1, 2 => C y args m K
  | 1, 0 => jFull m ∧ C y args m (fun v m' => jFull m' → K v m')
  | 1, 1 => C y args (jLim m y) (fun v m' => K v (jUp m' (-3) 1 (m (-3) 1)))
  | _, _ => False
def jRet (z : Nat) (v : Int) (m : jM) (Q : Int → jM → Prop) : Prop := match jMd z with
  | 1 => m (-3) 0 = m (-3) 1 ∧ Q v m
  | _ => if jRt z = 3 then (if v = 0 ∨ v = 1 then Q v m else False) else Q v m
def jStp (z : Nat) (C : Nat → List jV → jM → (Int → jM → Prop) → Prop) (X : Nat → jS → List jV → jM → Prop) (Q : Int → jM → Prop) (pc len : Nat) (ls : jS) (m : jM) (e : Option jE) : Prop := match e with
  | none => False
  | some (.inl (p, l, s, m')) => X p l s m'
  | some (.inr (.inl (c, p, l, s, m'))) => c ∧ X p l s m'
  | some (.inr (.inr (.inl (c, p1, p2, s)))) => (c → X p1 ls s m) ∧ (¬ c → X p2 ls s m)
  | some (.inr (.inr (.inr (.inl (l, s))))) => l.foldr (fun q r => (q.1 → X q.2 ls s m) ∧ r) True
  | some (.inr (.inr (.inr (.inr (.inl (y, args, s)))))) => jCal z y C args m (fun v m' => X (pc + len) ls (jPush (jRt y) v s) m')
  | some (.inr (.inr (.inr (.inr (.inr v))))) => jRet z v m Q
def jLe (l0 l : jS) : Prop := l0.length = l.length ∧ ∀ (i : Nat) (v : jV), l0[i]? = some (some v) → l[i]? = some (some v)
def jAt (z : Nat) (C : Nat → List jV → jM → (Int → jM → Prop) → Prop) (X : Nat → jS → List jV → jM → Prop) (Q : Int → jM → Prop) (pc : Nat) (ls : jS) (st : List jV) (m : jM) : Prop := match jIns z pc with
  | none => False
  | some (ai, len) => jStp z C X Q pc len ls m (jEff z ai len pc ls st m)
/-- closed under steps, and under knowing more of the locals -/
def jClo (z : Nat) (C : Nat → List jV → jM → (Int → jM → Prop) → Prop) (Q : Int → jM → Prop) (P : Nat → jS → List jV → jM → Prop) : Prop :=
  (∀ pc ls st m, jAt z C P Q pc ls st m → P pc ls st m) ∧ ∀ pc l0 ls st m, jLe l0 ls → P pc l0 st m → P pc ls st m
/-- from here it ends, with Q, at most d calls deep: the least of what is closed -/
def jA : Nat → Nat → Nat → jS → List jV → jM → (Int → jM → Prop) → Prop
  | 0, z, pc, ls, st, m, Q => ∀ P : Nat → jS → List jV → jM → Prop, jClo z (fun _ _ _ _ => False) Q P → P pc ls st m
  | d + 1, z, pc, ls, st, m, Q => ∀ P : Nat → jS → List jV → jM → Prop, jClo z (fun y args m K => jA d y 0 (jEnt y args) [] m K) Q P → P pc ls st m
/-- the call ends, with Q -/
def jK (d z : Nat) (args : List jV) (m : jM) (Q : Int → jM → Prop) : Prop := jA d z 0 (jEnt z args) [] m Q
def jCa (d y : Nat) (args : List jV) (m : jM) (K : Int → jM → Prop) : Prop := match d with
  | 0 => False
  | d' + 1 => jK d' y args m K
def jMask : List Bool → jS → jS
  | [], l => l
  | _, [] => []
  | true :: b, v :: l => v :: jMask b l
  | false :: b, _ :: l => none :: jMask b l
/-- the code from an instruction on -/
def jGo (p : Nat) : List (Nat × Instr × Nat) → Option (List (Nat × Instr × Nat))
  | [] => none
  | q :: r => bif Nat.beq q.1 p then some (q :: r) else jGo p r
/-- a piece of a method, up to the cuts -/
def jWp (cs : List (Nat × List Bool)) (d z : Nat) (Q : Int → jM → Prop) : Nat → List (Nat × Instr × Nat) → Nat → jS → List jV → jM → Prop
  | 0, _, pc, ls, st, m => jA d z pc ls st m Q
  | n + 1, code, pc, ls, st, m => (match jGo pc code with
    | none => jA d z pc ls st m Q
    | some [] => jA d z pc ls st m Q
    | some ((pc, ai, len) :: r) => jStp z (jCa d) (fun pc ls st m => match cs.lookup pc with
      | some b => jA d z pc (jMask b ls) st m Q
      | none => jWp cs d z Q n r pc ls st m) Q pc len ls m (jEff z ai len pc ls st m))
end
section
/-! the abstract run: its laws, and that a piece (jWp) gives a run -/
theorem jCal_mono {z y : Nat} {C C' : Nat → List jV → jM → (Int → jM → Prop) → Prop} {args : List jV} {m : jM} {K K' : Int → jM → Prop} (hC : ∀ y a m K K', (∀ v m, K v m → K' v m) → C y a m K → C' y a m K') (hK : ∀ v m, K v m → K' v m) (h : jCal z y C args m K) : jCal z y C' args m K' := by
  unfold jCal at h ⊢
  split at h
  · exact hC _ _ _ _ _ hK h
  · exact hC _ _ _ _ _ hK h
  · exact hC _ _ _ _ _ hK h
  · exact ⟨h.1, hC _ _ _ _ _ (fun v m' g f => hK _ _ (g f)) h.2⟩
  · exact hC _ _ _ _ _ (fun v m' g => hK _ _ g) h
  · exact h
theorem jRet_mono {z : Nat} {v : Int} {m : jM} {Q Q' : Int → jM → Prop} (hQ : ∀ v m, Q v m → Q' v m) (h : jRet z v m Q) : jRet z v m Q' := by
  unfold jRet at h ⊢
  split
  · rename_i e
    rw [e] at h
    exact ⟨h.1, hQ _ _ h.2⟩
  · rename_i e
    split at h
    · exact absurd ‹_› e
    · split
      · rename_i e3
        rw [if_pos e3] at h
        split
        · rename_i e4
          rw [if_pos e4] at h
          exact hQ _ _ h
        · rename_i e4
          rw [if_neg e4] at h
          exact h
      · rename_i e3
        rw [if_neg e3] at h
        exact hQ _ _ h
theorem jStp_mono {z : Nat} {C C' : Nat → List jV → jM → (Int → jM → Prop) → Prop} {X X' : Nat → jS → List jV → jM → Prop} {Q Q' : Int → jM → Prop} {pc len : Nat} {ls : jS} {m : jM} {e : Option jE}
    (hC : ∀ y a m K K', (∀ v m, K v m → K' v m) → C y a m K → C' y a m K') (hX : ∀ p l s m, X p l s m → X' p l s m) (hQ : ∀ v m, Q v m → Q' v m) (h : jStp z C X Q pc len ls m e) : jStp z C' X' Q' pc len ls m e := by
  match e, h with
  | some (.inl (p, l, s, m')), h => exact hX _ _ _ _ h
  | some (.inr (.inl (c, p, l, s, m'))), h => exact ⟨h.1, hX _ _ _ _ h.2⟩
  | some (.inr (.inr (.inl (c, p1, p2, s)))), h => exact ⟨fun g => hX _ _ _ _ (h.1 g), fun g => hX _ _ _ _ (h.2 g)⟩
  | some (.inr (.inr (.inr (.inl (l, s))))), h =>
    simp only [jStp] at h ⊢
    induction l with
    | nil => trivial
    | cons a l ih => exact ⟨fun g => hX _ _ _ _ (h.1 g), ih h.2⟩
  | some (.inr (.inr (.inr (.inr (.inl (y, args, s)))))), h => exact jCal_mono hC (fun v m' g => hX _ _ _ _ g) h
  | some (.inr (.inr (.inr (.inr (.inr v))))), h => exact jRet_mono hQ h
theorem jAt_mono {z : Nat} {C C' : Nat → List jV → jM → (Int → jM → Prop) → Prop} {X X' : Nat → jS → List jV → jM → Prop} {Q Q' : Int → jM → Prop} {pc : Nat} {ls : jS} {st : List jV} {m : jM}
    (hC : ∀ y a m K K', (∀ v m, K v m → K' v m) → C y a m K → C' y a m K') (hX : ∀ p l s m, X p l s m → X' p l s m) (hQ : ∀ v m, Q v m → Q' v m) (h : jAt z C X Q pc ls st m) : jAt z C' X' Q' pc ls st m := by
  unfold jAt at h ⊢
  cases hi : jIns z pc with
  | none => rw [hi] at h; exact h
  | some q =>
    obtain ⟨ai, len⟩ := q
    rw [hi] at h
    exact jStp_mono hC hX hQ h
theorem jA_eq (d z pc : Nat) (ls : jS) (st : List jV) (m : jM) (Q : Int → jM → Prop) : jA d z pc ls st m Q = ∀ P : Nat → jS → List jV → jM → Prop, jClo z (jCa d) Q P → P pc ls st m := by
  cases d with
  | zero => rfl
  | succ d => rfl
/-- steps, where the callees' ends may be widened -/
theorem jA_step' {d : Nat} (hm : ∀ y a m K K', (∀ v m, K v m → K' v m) → jCa d y a m K → jCa d y a m K') {z pc : Nat} {ls : jS} {st : List jV} {m : jM} {Q : Int → jM → Prop} (h : jAt z (jCa d) (fun pc ls st m => jA d z pc ls st m Q) Q pc ls st m) : jA d z pc ls st m Q := by
  rw [jA_eq]
  intro P hP
  refine hP.1 _ _ _ _ (jAt_mono hm (fun p l s m g => ?_) (fun _ _ g => g) h)
  rw [jA_eq] at g
  exact g P hP
theorem jA_weak {d z pc : Nat} {l0 ls : jS} {st : List jV} {m : jM} {Q : Int → jM → Prop} (hl : jLe l0 ls) (h : jA d z pc l0 st m Q) : jA d z pc ls st m Q := by
  rw [jA_eq] at h ⊢
  intro P hP
  exact hP.2 _ _ _ _ _ hl (h P hP)
theorem jA_mono' {d : Nat} (hm : ∀ y a m K K', (∀ v m, K v m → K' v m) → jCa d y a m K → jCa d y a m K') {z pc : Nat} {ls : jS} {st : List jV} {m : jM} {Q Q' : Int → jM → Prop} (hQ : ∀ v m, Q v m → Q' v m) (h : jA d z pc ls st m Q) : jA d z pc ls st m Q' := by
  rw [jA_eq] at h
  refine h (fun pc ls st m => jA d z pc ls st m Q') ⟨fun pc ls st m g => jA_step' hm (jAt_mono hm (fun _ _ _ _ g => g) hQ g), fun pc l0 ls st m hl g => jA_weak hl g⟩
theorem jCa_mono (d : Nat) : ∀ y a m K K', (∀ v m, K v m → K' v m) → jCa d y a m K → jCa d y a m K' := by
  induction d with
  | zero => intro y a m K K' _ h; exact h
  | succ d ih => intro y a m K K' hK h; exact jA_mono' ih hK h
theorem jA_mono {d z pc : Nat} {ls : jS} {st : List jV} {m : jM} {Q Q' : Int → jM → Prop} (hQ : ∀ v m, Q v m → Q' v m) (h : jA d z pc ls st m Q) : jA d z pc ls st m Q' := jA_mono' (jCa_mono d) hQ h
theorem jK_mono {d z : Nat} {args : List jV} {m : jM} {Q Q' : Int → jM → Prop} (hQ : ∀ v m, Q v m → Q' v m) (h : jK d z args m Q) : jK d z args m Q' := jA_mono hQ h
theorem jA_step {d z pc : Nat} {ls : jS} {st : List jV} {m : jM} {Q : Int → jM → Prop} (h : jAt z (jCa d) (fun pc ls st m => jA d z pc ls st m Q) Q pc ls st m) : jA d z pc ls st m Q := jA_step' (jCa_mono d) h
/-- more depth does no harm -/
theorem jA_deep (d : Nat) : ∀ {z pc : Nat} {ls : jS} {st : List jV} {m : jM} {Q : Int → jM → Prop}, jA d z pc ls st m Q → jA (d + 1) z pc ls st m Q := by
  induction d with
  | zero =>
    intro z pc ls st m Q h
    rw [jA_eq] at h
    refine h (fun pc ls st m => jA 1 z pc ls st m Q) ⟨fun pc ls st m g => jA_step (jAt_mono (fun y a m K K' _ f => absurd f id) (fun _ _ _ _ g => g) (fun _ _ g => g) g), fun pc l0 ls st m hl g => jA_weak hl g⟩
  | succ d ih =>
    intro z pc ls st m Q h
    rw [jA_eq] at h
    refine h (fun pc ls st m => jA (d + 2) z pc ls st m Q) ⟨fun pc ls st m g => jA_step (jAt_mono (fun y a m K K' hK f => jK_mono hK (ih f)) (fun _ _ _ _ g => g) (fun _ _ g => g) g), fun pc l0 ls st m hl g => jA_weak hl g⟩
theorem jK_deep {d e z : Nat} {args : List jV} {m : jM} {Q : Int → jM → Prop} (he : d ≤ e) (h : jK d z args m Q) : jK e z args m Q := by
  induction he with
  | refl => exact h
  | step _ ih => exact jA_deep _ ih
theorem jMask_le (b : List Bool) (l : jS) : jLe (jMask b l) l := by
  induction b generalizing l with
  | nil => exact ⟨by cases l <;> rfl, fun i v h => by cases l <;> exact h⟩
  | cons a b ih =>
    cases l with
    | nil => cases a <;> exact ⟨rfl, fun i v h => h⟩
    | cons x l =>
      obtain ⟨h1, h2⟩ := ih l
      cases a with
      | true =>
        refine ⟨by simp [jMask, h1], fun i v h => ?_⟩
        cases i with
        | zero => exact h
        | succ i => exact h2 i v h
      | false =>
        refine ⟨by simp [jMask, h1], fun i v h => ?_⟩
        cases i with
        | zero => simp [jMask] at h
        | succ i => exact h2 i v h
theorem jFor_eq {β : Type} (l : jS) : ∀ (k : jS → β), jFor l k = k l := by
  induction l with
  | nil => intro k; rfl
  | cons a l ih => intro k; exact ih _
theorem jForP_eq (l : jS) : ∀ (k : jS → Prop), jForP l k = k l := by
  induction l with
  | nil => intro k; rfl
  | cons a l ih => intro k; exact ih _
def jSorted : List (Nat × Instr × Nat) → Bool
  | [] => true
  | [_] => true
  | a :: b :: l => Nat.blt a.1 b.1 && jSorted (b :: l)
theorem jSorted_all : jCodes.all jSorted = true := by decide +kernel
theorem jSorted_code (i : Nat) : jSorted (jCode i) = true := by
  unfold jCode
  rw [List.getD_eq_getElem?_getD]
  cases h : jCodes[i]? with
  | none => rfl
  | some c => exact List.all_eq_true.mp jSorted_all c (List.mem_of_getElem? h)
theorem jSorted_lt {a : Nat × Instr × Nat} {l : List (Nat × Instr × Nat)} (h : jSorted (a :: l) = true) : jSorted l = true ∧ ∀ q ∈ l, a.1 < q.1 := by
  induction l generalizing a with
  | nil => exact ⟨rfl, fun q hq => by cases hq⟩
  | cons b l ih =>
    simp only [jSorted, Bool.and_eq_true] at h
    have hab : a.1 < b.1 := by
      have := h.1
      simp only [Nat.blt, Nat.ble_eq] at this
      omega
    refine ⟨h.2, fun q hq => ?_⟩
    rcases List.mem_cons.mp hq with rfl | hq
    · exact hab
    · exact Nat.lt_trans hab ((ih h.2).2 q hq)
theorem jLook {code : List (Nat × Instr × Nat)} (h : jSorted code = true) {q : Nat × Instr × Nat} (hq : q ∈ code) : code.lookup q.1 = some q.2 := by
  induction code with
  | nil => cases hq
  | cons a l ih =>
    obtain ⟨h1, h2⟩ := jSorted_lt h
    rcases List.mem_cons.mp hq with rfl | hq2
    · simp [List.lookup]
    · have hne : ¬ q.1 = a.1 := by have := h2 q hq2; omega
      obtain ⟨a1, a2⟩ := a
      rw [List.lookup_cons]
      rw [show (q.1 == a1) = false from by simpa using hne]
      exact ih h1 hq2
theorem jGo_some {p : Nat} {code : List (Nat × Instr × Nat)} {c : List (Nat × Instr × Nat)} (h : jGo p code = some c) : ∃ q r, c = q :: r ∧ q.1 = p ∧ (∀ x ∈ c, x ∈ code) := by
  induction code with
  | nil => simp [jGo] at h
  | cons a l ih =>
    simp only [jGo] at h
    cases hb : Nat.beq a.1 p with
    | true =>
      rw [hb] at h
      cases h
      exact ⟨a, l, rfl, Nat.eq_of_beq_eq_true hb, fun x hx => hx⟩
    | false =>
      rw [hb] at h
      obtain ⟨q, r, h1, h2, h3⟩ := ih h
      exact ⟨q, r, h1, h2, fun x hx => List.mem_cons_of_mem _ (h3 x hx)⟩
theorem jWp_snd' (cs : List (Nat × List Bool)) (d z : Nat) (Q : Int → jM → Prop) (n : Nat) : ∀ (code : List (Nat × Instr × Nat)) (pc : Nat) (ls : jS) (st : List jV) (m : jM), (∀ x ∈ code, x ∈ jCode (jIx z)) → jWp cs d z Q n code pc ls st m → jA d z pc ls st m Q := by
  induction n with
  | zero => intro code pc ls st m _ h; exact h
  | succ n ih =>
    intro code pc ls st m hc h
    simp only [jWp] at h
    cases hg : jGo pc code with
    | none => rw [hg] at h; exact h
    | some c =>
      obtain ⟨q, r, rfl, hq, hm⟩ := jGo_some hg
      obtain ⟨q1, ai, len⟩ := q
      rw [hg] at h
      dsimp only at hq h
      subst hq
      refine jA_step ?_
      have hi : jIns z q1 = some (ai, len) := jLook (jSorted_code _) (hc _ (hm _ List.mem_cons_self))
      unfold jAt
      rw [hi]
      refine jStp_mono (jCa_mono d) (fun p l s m' g => ?_) (fun _ _ g => g) h
      cases hl : cs.lookup p with
      | some b =>
        rw [hl] at g
        exact jA_weak (jMask_le b l) g
      | none =>
        rw [hl] at g
        exact ih r p l s m' (fun x hx => hc _ (hm _ (List.mem_cons_of_mem _ hx))) g
theorem jWp_snd (cs : List (Nat × List Bool)) (code : List (Nat × Instr × Nat)) (n : Nat) {d z pc : Nat} {ls : jS} {st : List jV} {m : jM} {Q : Int → jM → Prop} (hc : jCode (jIx z) = code) (h : jWp cs d z Q n code pc ls st m) : jA d z pc ls st m Q :=
  jWp_snd' cs d z Q n code pc ls st m (fun x hx => by rw [hc]; exact hx) h
theorem jWp_sn0 (cs : List (Nat × List Bool)) (code : List (Nat × Instr × Nat)) (n : Nat) {d z : Nat} {args : List jV} {m : jM} {Q : Int → jM → Prop} (hc : jCode (jIx z) = code) (h : jForP (jEnt z args) (fun ls => jWp cs d z Q n code 0 ls [] m)) : jK d z args m Q := by
  rw [jForP_eq] at h
  exact jWp_snd cs code n hc h
theorem jWp_c0 (b : List Bool) {d z : Nat} {args : List jV} {m : jM} {Q : Int → jM → Prop} (h : jA d z 0 (jMask b (jEnt z args)) [] m Q) : jK d z args m Q := jA_weak (jMask_le b _) h
end
section
def aX0_init_4 (d : Nat) (p0 : Int) (m : jM) (Q : Int → jM → Prop) : Prop := jA (d + 1) zX0_init 4 [some (jO 0 p0), none] [] m Q
def aX0_init_9 (d : Nat) (p0 : Int) (m : jM) (Q : Int → jM → Prop) : Prop := jA (d + 1) zX0_init 9 [some (jO 0 p0), none] [] m Q
def aX0_init_14 (d : Nat) (p0 : Int) (m : jM) (Q : Int → jM → Prop) : Prop := jA (d + 1) zX0_init 14 [some (jO 0 p0), none] [] m Q
def aX0_init_22 (d : Nat) (p0 : Int) (m : jM) (Q : Int → jM → Prop) : Prop := jA (d + 1) zX0_init 22 [some (jO 0 p0), none] [] m Q
def aX0_init_30 (d : Nat) (p0 : Int) (m : jM) (Q : Int → jM → Prop) : Prop := jA (d + 1) zX0_init 30 [some (jO 0 p0), none] [] m Q
def aX0_init_38 (d : Nat) (p0 : Int) (m : jM) (Q : Int → jM → Prop) : Prop := jA (d + 1) zX0_init 38 [some (jO 0 p0), none] [] m Q
def aX0_init_46 (d : Nat) (p0 : Int) (m : jM) (Q : Int → jM → Prop) : Prop := jA (d + 1) zX0_init 46 [some (jO 0 p0), none] [] m Q
def aX0_init_53 (d : Nat) (p0 : Int) (m : jM) (Q : Int → jM → Prop) : Prop := jA (d + 1) zX0_init 53 [some (jO 0 p0), none] [] m Q
def aX0_init_63 (d : Nat) (p0 : Int) (m : jM) (Q : Int → jM → Prop) : Prop := jA (d + 1) zX0_init 63 [some (jO 0 p0), none] [] m Q
def aX0_init_65 (d : Nat) (p0 x1 : Int) (m : jM) (Q : Int → jM → Prop) : Prop := jA (d + 1) zX0_init 65 [some (jO 0 p0), some (jI x1)] [] m Q
def aX0_init_70 (d : Nat) (p0 x1 : Int) (m : jM) (Q : Int → jM → Prop) : Prop := jA (d + 1) zX0_init 70 [some (jO 0 p0), some (jI x1)] [] m Q
def aX0_init_83 (d : Nat) (p0 x1 : Int) (m : jM) (Q : Int → jM → Prop) : Prop := jA (d + 1) zX0_init 83 [some (jO 0 p0), some (jI x1)] [] m Q
def aX0_init_86 (d : Nat) (p0 x1 : Int) (m : jM) (Q : Int → jM → Prop) : Prop := jA (d + 1) zX0_init 86 [some (jO 0 p0), some (jI x1)] [] m Q
def aX0_init_89 (d : Nat) (m : jM) (Q : Int → jM → Prop) : Prop := jA (d + 1) zX0_init 89 [none, none] [] m Q
set_option maxRecDepth 100000 in
theorem gX0_init (d : Nat) (p0 : Int) (m : jM) (Q : Int → jM → Prop)
    (h : aX0_init_4 d p0 m Q) :
    jK (d + 1) zX0_init [jO 0 p0] m Q := jWp_sn0 [(4, [true, false]), (9, [true, false]), (14, [true, false]), (22, [true, false]), (30, [true, false]), (38, [true, false]), (46, [true, false]), (53, [true, false]), (63, [true, false]), (65, [true, true]), (70, [true, true]), (83, [true, true]), (86, [true, true]), (89, [false, false])] jcX0_init 3 rfl h
set_option maxRecDepth 100000 in
theorem gX0_init_4 (d : Nat) (p0 : Int) (m : jM) (Q : Int → jM → Prop)
    (h : aX0_init_9 d p0 (jUp m p0 0 0) Q) :
    aX0_init_4 d p0 m Q := jWp_snd [(4, [true, false]), (9, [true, false]), (14, [true, false]), (22, [true, false]), (30, [true, false]), (38, [true, false]), (46, [true, false]), (53, [true, false]), (63, [true, false]), (65, [true, true]), (70, [true, true]), (83, [true, true]), (86, [true, true]), (89, [false, false])] jcX0_init 4 rfl h
set_option maxRecDepth 100000 in
theorem gX0_init_9 (d : Nat) (p0 : Int) (m : jM) (Q : Int → jM → Prop)
    (h : aX0_init_14 d p0 (jUp m p0 1 0) Q) :
    aX0_init_9 d p0 m Q := jWp_snd [(4, [true, false]), (9, [true, false]), (14, [true, false]), (22, [true, false]), (30, [true, false]), (38, [true, false]), (46, [true, false]), (53, [true, false]), (63, [true, false]), (65, [true, true]), (70, [true, true]), (83, [true, true]), (86, [true, true]), (89, [false, false])] jcX0_init 4 rfl h
set_option maxRecDepth 100000 in
theorem gX0_init_14 (d : Nat) (p0 : Int) (m : jM) (Q : Int → jM → Prop)
    (h : (m (-3) 0 < m (-3) 1 ∧ jKd (m (-3) 0) = 20 ∧ jLn (m (-3) 0) = 48) ∧ (m (-3) 0) = (p0 + 1) ∧ aX0_init_22 d p0 (jUp (jNw m) p0 2 (m (-3) 0)) Q) :
    aX0_init_14 d p0 m Q := jWp_snd [(4, [true, false]), (9, [true, false]), (14, [true, false]), (22, [true, false]), (30, [true, false]), (38, [true, false]), (46, [true, false]), (53, [true, false]), (63, [true, false]), (65, [true, true]), (70, [true, true]), (83, [true, true]), (86, [true, true]), (89, [false, false])] jcX0_init 5 rfl h
set_option maxRecDepth 100000 in
theorem gX0_init_22 (d : Nat) (p0 : Int) (m : jM) (Q : Int → jM → Prop)
    (h : (m (-3) 0 < m (-3) 1 ∧ jKd (m (-3) 0) = 21 ∧ jLn (m (-3) 0) = 64) ∧ (m (-3) 0) = (p0 + 2) ∧ aX0_init_30 d p0 (jUp (jNw m) p0 3 (m (-3) 0)) Q) :
    aX0_init_22 d p0 m Q := jWp_snd [(4, [true, false]), (9, [true, false]), (14, [true, false]), (22, [true, false]), (30, [true, false]), (38, [true, false]), (46, [true, false]), (53, [true, false]), (63, [true, false]), (65, [true, true]), (70, [true, true]), (83, [true, true]), (86, [true, true]), (89, [false, false])] jcX0_init 5 rfl h
set_option maxRecDepth 100000 in
theorem gX0_init_30 (d : Nat) (p0 : Int) (m : jM) (Q : Int → jM → Prop)
    (h : (m (-3) 0 < m (-3) 1 ∧ jKd (m (-3) 0) = 20 ∧ jLn (m (-3) 0) = 64) ∧ (m (-3) 0) = (p0 + 3) ∧ aX0_init_38 d p0 (jUp (jNw m) p0 4 (m (-3) 0)) Q) :
    aX0_init_30 d p0 m Q := jWp_snd [(4, [true, false]), (9, [true, false]), (14, [true, false]), (22, [true, false]), (30, [true, false]), (38, [true, false]), (46, [true, false]), (53, [true, false]), (63, [true, false]), (65, [true, true]), (70, [true, true]), (83, [true, true]), (86, [true, true]), (89, [false, false])] jcX0_init 5 rfl h
set_option maxRecDepth 100000 in
theorem gX0_init_38 (d : Nat) (p0 : Int) (m : jM) (Q : Int → jM → Prop)
    (h : (m (-3) 0 < m (-3) 1 ∧ jKd (m (-3) 0) = 22 ∧ jLn (m (-3) 0) = 4) ∧ (m (-3) 0) = (p0 + 4) ∧ aX0_init_46 d p0 (jUp (jNw m) p0 5 (m (-3) 0)) Q) :
    aX0_init_38 d p0 m Q := jWp_snd [(4, [true, false]), (9, [true, false]), (14, [true, false]), (22, [true, false]), (30, [true, false]), (38, [true, false]), (46, [true, false]), (53, [true, false]), (63, [true, false]), (65, [true, true]), (70, [true, true]), (83, [true, true]), (86, [true, true]), (89, [false, false])] jcX0_init 5 rfl h
set_option maxRecDepth 100000 in
theorem gX0_init_46 (d : Nat) (p0 : Int) (m : jM) (Q : Int → jM → Prop)
    (h : (m (-3) 0 < m (-3) 1 ∧ jKd (m (-3) 0) = 20 ∧ jLn (m (-3) 0) = 4) ∧ (m (-3) 0) = (p0 + 5) ∧ aX0_init_53 d p0 (jUp (jNw m) p0 6 (m (-3) 0)) Q) :
    aX0_init_46 d p0 m Q := jWp_snd [(4, [true, false]), (9, [true, false]), (14, [true, false]), (22, [true, false]), (30, [true, false]), (38, [true, false]), (46, [true, false]), (53, [true, false]), (63, [true, false]), (65, [true, true]), (70, [true, true]), (83, [true, true]), (86, [true, true]), (89, [false, false])] jcX0_init 5 rfl h
set_option maxRecDepth 100000 in
theorem gX0_init_53 (d : Nat) (p0 : Int) (m : jM) (Q : Int → jM → Prop)
    (h : m p0 3 = (p0 + 2) ∧ jK d zJ7_fill_d0a16 [jY 1 64 (p0 + 2), jL (-1)] m (fun v1 m1 => aX0_init_63 d p0 m1 Q)) :
    aX0_init_53 d p0 m Q := jWp_snd [(4, [true, false]), (9, [true, false]), (14, [true, false]), (22, [true, false]), (30, [true, false]), (38, [true, false]), (46, [true, false]), (53, [true, false]), (63, [true, false]), (65, [true, true]), (70, [true, true]), (83, [true, true]), (86, [true, true]), (89, [false, false])] jcX0_init 5 rfl h
set_option maxRecDepth 100000 in
theorem gX0_init_63 (d : Nat) (p0 : Int) (m : jM) (Q : Int → jM → Prop)
    (h : aX0_init_65 d p0 0 m Q) :
    aX0_init_63 d p0 m Q := jWp_snd [(4, [true, false]), (9, [true, false]), (14, [true, false]), (22, [true, false]), (30, [true, false]), (38, [true, false]), (46, [true, false]), (53, [true, false]), (63, [true, false]), (65, [true, true]), (70, [true, true]), (83, [true, true]), (86, [true, true]), (89, [false, false])] jcX0_init 3 rfl h
set_option maxRecDepth 100000 in
theorem gX0_init_65 (d : Nat) (p0 x1 : Int) (m : jM) (Q : Int → jM → Prop)
    (h : (x1 < 4 → aX0_init_70 d p0 x1 m Q) ∧ (¬ x1 < 4 → aX0_init_89 d  m Q)) :
    aX0_init_65 d p0 x1 m Q := jWp_snd [(4, [true, false]), (9, [true, false]), (14, [true, false]), (22, [true, false]), (30, [true, false]), (38, [true, false]), (46, [true, false]), (53, [true, false]), (63, [true, false]), (65, [true, true]), (70, [true, true]), (83, [true, true]), (86, [true, true]), (89, [false, false])] jcX0_init 4 rfl h
set_option maxRecDepth 100000 in
theorem gX0_init_70 (d : Nat) (p0 x1 : Int) (m : jM) (Q : Int → jM → Prop)
    (h : m p0 5 = (p0 + 4) ∧ (m (-3) 0 < m (-3) 1 ∧ jKd (m (-3) 0) = 6) ∧ jK d zX6_init [jO 6 (m (-3) 0)] (jLim (jNw m) zX6_init) (fun v1 m1 => ((0 : Int) ≤ x1 ∧ (x1 : Int) < 4) ∧ aX0_init_83 d p0 x1 (jUp (jUp m1 (-3) 1 ((jNw m) (-3) 1)) (p0 + 4) x1 (m (-3) 0)) Q)) :
    aX0_init_70 d p0 x1 m Q := jWp_snd [(4, [true, false]), (9, [true, false]), (14, [true, false]), (22, [true, false]), (30, [true, false]), (38, [true, false]), (46, [true, false]), (53, [true, false]), (63, [true, false]), (65, [true, true]), (70, [true, true]), (83, [true, true]), (86, [true, true]), (89, [false, false])] jcX0_init 8 rfl h
set_option maxRecDepth 100000 in
theorem gX0_init_83 (d : Nat) (p0 x1 : Int) (m : jM) (Q : Int → jM → Prop)
    (h : aX0_init_86 d p0 (w32 (x1 + 1)) m Q) :
    aX0_init_83 d p0 x1 m Q := jWp_snd [(4, [true, false]), (9, [true, false]), (14, [true, false]), (22, [true, false]), (30, [true, false]), (38, [true, false]), (46, [true, false]), (53, [true, false]), (63, [true, false]), (65, [true, true]), (70, [true, true]), (83, [true, true]), (86, [true, true]), (89, [false, false])] jcX0_init 2 rfl h
set_option maxRecDepth 100000 in
theorem gX0_init_86 (d : Nat) (p0 x1 : Int) (m : jM) (Q : Int → jM → Prop)
    (h : aX0_init_65 d p0 x1 m Q) :
    aX0_init_86 d p0 x1 m Q := jWp_snd [(4, [true, false]), (9, [true, false]), (14, [true, false]), (22, [true, false]), (30, [true, false]), (38, [true, false]), (46, [true, false]), (53, [true, false]), (63, [true, false]), (65, [true, true]), (70, [true, true]), (83, [true, true]), (86, [true, true]), (89, [false, false])] jcX0_init 2 rfl h
set_option maxRecDepth 100000 in
theorem gX0_init_89 (d : Nat) (m : jM) (Q : Int → jM → Prop)
    (h : m (-3) 0 = m (-3) 1 ∧ Q 0 m) :
    aX0_init_89 d  m Q := jWp_snd [(4, [true, false]), (9, [true, false]), (14, [true, false]), (22, [true, false]), (30, [true, false]), (38, [true, false]), (46, [true, false]), (53, [true, false]), (63, [true, false]), (65, [true, true]), (70, [true, true]), (83, [true, true]), (86, [true, true]), (89, [false, false])] jcX0_init 2 rfl h
def aX0_take_66 (d : Nat) (p0 p1 x2 : Int) (m : jM) (Q : Int → jM → Prop) : Prop := jA (d + 1) zX0_take 66 [some (jO 0 p0), some (jO 0 p1), some (jI x2)] [] m Q
set_option maxRecDepth 100000 in
theorem gX0_take (d : Nat) (p0 p1 : Int) (m : jM) (Q : Int → jM → Prop)
    (h : ((0 : Int) ≤ 0 ∧ (0 : Int) ≤ 0 ∧ (0 : Int) ≤ 48 ∧ (0 : Int) + 48 ≤ 48 ∧ (0 : Int) + 48 ≤ 48) ∧ ((0 : Int) ≤ 0 ∧ (0 : Int) ≤ 0 ∧ (0 : Int) ≤ 64 ∧ (0 : Int) + 64 ≤ 64 ∧ (0 : Int) + 64 ≤ 64) ∧ ((0 : Int) ≤ 0 ∧ (0 : Int) ≤ 0 ∧ (0 : Int) ≤ 64 ∧ (0 : Int) + 64 ≤ 64 ∧ (0 : Int) + 64 ≤ 64) ∧ aX0_take_66 d p0 p1 0 (jCp (jCp (jCp (jUp (jUp m p0 0 (m p1 0)) p0 1 ((jUp m p0 0 (m p1 0)) p1 1)) (p1 + 1) 0 (p0 + 1) 0 48) (p1 + 2) 0 (p0 + 2) 0 64) (p1 + 3) 0 (p0 + 3) 0 64) Q) :
    jK (d + 1) zX0_take [jO 0 p0, jO 0 p1] m Q := jWp_sn0 [(66, [true, true, true])] jcX0_take 37 rfl h
set_option maxRecDepth 100000 in
theorem gX0_take_66 (d : Nat) (p0 p1 x2 : Int) (m : jM) (Q : Int → jM → Prop)
    (h : (x2 < 4 → ((0 : Int) ≤ x2 ∧ (x2 : Int) < 4) ∧ ((0 : Int) ≤ x2 ∧ (x2 : Int) < 4) ∧ jK d zX6_take [jO 6 (m (p0 + 4) x2), jO 6 (m (p1 + 4) x2)] m (fun v1 m1 => aX0_take_66 d p0 p1 (w32 (x2 + 1)) m1 Q)) ∧ (¬ x2 < 4 → Q 0 m)) :
    aX0_take_66 d p0 p1 x2 m Q := jWp_snd [(66, [true, true, true])] jcX0_take 15 rfl h
set_option maxRecDepth 100000 in
theorem gX0_seat (d : Nat) (x1 x2 x3 : Int) (m : jM) (Q : Int → jM → Prop)
    (h : (x1 = 0 → (x1 = 0 → Q (iAnd (iShr (m 1 0) x2) 1) (jUp m 1 0 (iOr (iAnd (m 1 0) (iXor (iShl 1 x2) (-1))) (iShl x3 x2)))) ∧ (¬ x1 = 0 → Q (iAnd (iShr (m 1 0) x2) 1) (jUp m 1 1 (iOr (iAnd (m 1 0) (iXor (iShl 1 x2) (-1))) (iShl x3 x2))))) ∧ (¬ x1 = 0 → (x1 = 0 → Q (iAnd (iShr (m 1 1) x2) 1) (jUp m 1 0 (iOr (iAnd (m 1 1) (iXor (iShl 1 x2) (-1))) (iShl x3 x2)))) ∧ (¬ x1 = 0 → Q (iAnd (iShr (m 1 1) x2) 1) (jUp m 1 1 (iOr (iAnd (m 1 1) (iXor (iShl 1 x2) (-1))) (iShl x3 x2)))))) :
    jK (d + 1) zX0_seat [jO 0 1, jI x1, jI x2, jI x3] m Q := jWp_sn0 [] jcX0_seat 33 rfl h
set_option maxRecDepth 100000 in
theorem gX0_isIn (d : Nat) (x1 : Int) (m : jM) (Q : Int → jM → Prop)
    (h : (8 : Int) ≠ 0 ∧ (8 : Int) ≠ 0 ∧ ((iAnd (iAnd (iShr (m 1 0) (iDiv x1 8)) (iShr (m 1 1) (iRem x1 8))) 1) = 1 → Q 1 m) ∧ (¬ (iAnd (iAnd (iShr (m 1 0) (iDiv x1 8)) (iShr (m 1 1) (iRem x1 8))) 1) = 1 → Q 0 m)) :
    jK (d + 1) zX0_isIn [jO 0 1, jI x1] m Q := jWp_sn0 [] jcX0_isIn 21 rfl h
def aX0_forcedBeside_2 (d : Nat) (x1 x2 : Int) (m : jM) (Q : Int → jM → Prop) : Prop := jA (d + 1) zX0_forcedBeside 2 [some (jO 0 1), some (jI x1), some (jI x2), none] [] m Q
def aX0_forcedBeside_30 (d : Nat) (x1 x2 : Int) (m : jM) (Q : Int → jM → Prop) : Prop := jA (d + 1) zX0_forcedBeside 30 [some (jO 0 1), some (jI x1), some (jI x2), none] [] m Q
set_option maxRecDepth 100000 in
theorem gX0_forcedBeside (d : Nat) (x1 : Int) (m : jM) (Q : Int → jM → Prop)
    (h : aX0_forcedBeside_2 d x1 0 m Q) :
    jK (d + 1) zX0_forcedBeside [jO 0 1, jI x1] m Q := jWp_sn0 [(2, [true, true, true, false]), (30, [true, true, true, false])] jcX0_forcedBeside 3 rfl h
set_option maxRecDepth 100000 in
theorem gX0_forcedBeside_2 (d : Nat) (x1 x2 : Int) (m : jM) (Q : Int → jM → Prop)
    (h : (x2 < 64 → (8 : Int) ≠ 0 ∧ (8 : Int) ≠ 0 ∧ ((iDiv x2 8) = (iDiv x1 8) → aX0_forcedBeside_30 d x1 x2 m Q) ∧ (¬ (iDiv x2 8) = (iDiv x1 8) → (8 : Int) ≠ 0 ∧ (8 : Int) ≠ 0 ∧ ((iRem x2 8) = (iRem x1 8) → aX0_forcedBeside_30 d x1 x2 m Q) ∧ (¬ (iRem x2 8) = (iRem x1 8) → (x2 = x1 → aX0_forcedBeside_2 d x1 (w32 (x2 + 1)) m Q) ∧ (¬ x2 = x1 → ((0 : Int) = 0 → aX0_forcedBeside_2 d x1 (w32 (x2 + 1)) m Q) ∧ (¬ (0 : Int) = 0 → ((0 : Int) ≤ x2 ∧ (x2 : Int) < 64) ∧ ((m 4 x2) = 2 → Q 1 m) ∧ (¬ (m 4 x2) = 2 → aX0_forcedBeside_2 d x1 (w32 (x2 + 1)) m Q)))))) ∧ (¬ x2 < 64 → Q 0 m)) :
    aX0_forcedBeside_2 d x1 x2 m Q := jWp_snd [(2, [true, true, true, false]), (30, [true, true, true, false])] jcX0_forcedBeside 33 rfl h
set_option maxRecDepth 100000 in
theorem gX0_forcedBeside_30 (d : Nat) (x1 x2 : Int) (m : jM) (Q : Int → jM → Prop)
    (h : (x2 = x1 → aX0_forcedBeside_2 d x1 (w32 (x2 + 1)) m Q) ∧ (¬ x2 = x1 → ((1 : Int) = 0 → aX0_forcedBeside_2 d x1 (w32 (x2 + 1)) m Q) ∧ (¬ (1 : Int) = 0 → ((0 : Int) ≤ x2 ∧ (x2 : Int) < 64) ∧ ((m 4 x2) = 2 → Q 1 m) ∧ (¬ (m 4 x2) = 2 → aX0_forcedBeside_2 d x1 (w32 (x2 + 1)) m Q)))) :
    aX0_forcedBeside_30 d x1 x2 m Q := jWp_snd [(2, [true, true, true, false]), (30, [true, true, true, false])] jcX0_forcedBeside 17 rfl h
def aX0_marked_4 (d : Nat) (x1 x2 x3 : Int) (m : jM) (Q : Int → jM → Prop) : Prop := jA (d + 1) zX0_marked 4 [some (jO 0 1), some (jI x1), some (jI x2), some (jI x3)] [] m Q
set_option maxRecDepth 100000 in
theorem gX0_marked (d : Nat) (x1 : Int) (m : jM) (Q : Int → jM → Prop)
    (h : aX0_marked_4 d x1 0 0 m Q) :
    jK (d + 1) zX0_marked [jO 0 1, jI x1] m Q := jWp_sn0 [(4, [true, true, true, true])] jcX0_marked 5 rfl h
set_option maxRecDepth 100000 in
theorem gX0_marked_4 (d : Nat) (x1 x2 x3 : Int) (m : jM) (Q : Int → jM → Prop)
    (h : (x3 < 64 → ((0 : Int) ≤ x3 ∧ (x3 : Int) < 64) ∧ ((m 4 x3) = x1 → aX0_marked_4 d x1 (w32 (x2 + 1)) (w32 (x3 + 1)) m Q) ∧ (¬ (m 4 x3) = x1 → aX0_marked_4 d x1 (w32 (x2 + 0)) (w32 (x3 + 1)) m Q)) ∧ (¬ x3 < 64 → Q x2 m)) :
    aX0_marked_4 d x1 x2 x3 m Q := jWp_snd [(4, [true, true, true, true])] jcX0_marked 17 rfl h
def aX0_owned_4 (d : Nat) (x1 x2 : Int) (m : jM) (Q : Int → jM → Prop) : Prop := jA (d + 1) zX0_owned 4 [some (jO 0 1), some (jI x1), some (jI x2)] [] m Q
set_option maxRecDepth 100000 in
theorem gX0_owned (d : Nat) (m : jM) (Q : Int → jM → Prop)
    (h : aX0_owned_4 d 0 0 m Q) :
    jK (d + 1) zX0_owned [jO 0 1] m Q := jWp_sn0 [(4, [true, true, true])] jcX0_owned 5 rfl h
set_option maxRecDepth 100000 in
theorem gX0_owned_4 (d : Nat) (x1 x2 : Int) (m : jM) (Q : Int → jM → Prop)
    (h : (x2 < 64 → ((0 : Int) ≤ x2 ∧ (x2 : Int) < 64) ∧ ((m 3 x2) = (-1) → aX0_owned_4 d (w32 (x1 + 0)) (w32 (x2 + 1)) m Q) ∧ (¬ (m 3 x2) = (-1) → aX0_owned_4 d (w32 (x1 + 1)) (w32 (x2 + 1)) m Q)) ∧ (¬ x2 < 64 → Q x1 m)) :
    aX0_owned_4 d x1 x2 m Q := jWp_snd [(4, [true, true, true])] jcX0_owned 17 rfl h
def aX0_namersOf_4 (d : Nat) (x1 x2 x3 : Int) (m : jM) (Q : Int → jM → Prop) : Prop := jA (d + 1) zX0_namersOf 4 [some (jO 0 1), some (jI x1), some (jI x2), some (jI x3)] [] m Q
set_option maxRecDepth 100000 in
theorem gX0_namersOf (d : Nat) (x1 : Int) (m : jM) (Q : Int → jM → Prop)
    (h : aX0_namersOf_4 d x1 0 0 m Q) :
    jK (d + 1) zX0_namersOf [jO 0 1, jI x1] m Q := jWp_sn0 [(4, [true, true, true, true])] jcX0_namersOf 5 rfl h
set_option maxRecDepth 100000 in
theorem gX0_namersOf_4 (d : Nat) (x1 x2 x3 : Int) (m : jM) (Q : Int → jM → Prop)
    (h : (x3 < 4 → ((0 : Int) ≤ x3 ∧ (x3 : Int) < 4) ∧ jK d zX6_names [jO 6 (m 5 x3)] m (fun v1 m1 => aX0_namersOf_4 d x1 (iOr x2 (iShl (iAnd (iShr v1 x1) 1) x3)) (w32 (x3 + 1)) m1 Q)) ∧ (¬ x3 < 4 → Q x2 m)) :
    aX0_namersOf_4 d x1 x2 x3 m Q := jWp_snd [(4, [true, true, true, true])] jcX0_namersOf 20 rfl h
def aX0_reachOf_12 (d : Nat) (x2 x3 : Int) (m : jM) (Q : Int → jM → Prop) : Prop := jA (d + 1) zX0_reachOf 12 [some (jO 0 1), none, some (jI x2), some (jI x3), none] [] m Q
def aX0_reachOf_20 (d : Nat) (x2 x3 x4 : Int) (m : jM) (Q : Int → jM → Prop) : Prop := jA (d + 1) zX0_reachOf 20 [some (jO 0 1), none, some (jI x2), some (jI x3), some (jI x4)] [] m Q
set_option maxRecDepth 100000 in
theorem gX0_reachOf (d : Nat) (x1 : Int) (m : jM) (Q : Int → jM → Prop)
    (h : ((0 : Int) ≤ x1 ∧ (x1 : Int) < 4) ∧ jK d zX6_names [jO 6 (m 5 x1)] m (fun v1 m1 => aX0_reachOf_12 d v1 0 m1 Q)) :
    jK (d + 1) zX0_reachOf [jO 0 1, jI x1] m Q := jWp_sn0 [(12, [true, false, true, true, false]), (20, [true, false, true, true, true])] jcX0_reachOf 9 rfl h
set_option maxRecDepth 100000 in
theorem gX0_reachOf_12 (d : Nat) (x2 x3 : Int) (m : jM) (Q : Int → jM → Prop)
    (h : (x3 < 4 → aX0_reachOf_20 d x2 x3 0 m Q) ∧ (¬ x3 < 4 → Q x2 m)) :
    aX0_reachOf_12 d x2 x3 m Q := jWp_snd [(12, [true, false, true, true, false]), (20, [true, false, true, true, true])] jcX0_reachOf 6 rfl h
set_option maxRecDepth 100000 in
theorem gX0_reachOf_20 (d : Nat) (x2 x3 x4 : Int) (m : jM) (Q : Int → jM → Prop)
    (h : (x4 < 4 → ((iAnd (iShr x2 x4) 1) = 1 → ((0 : Int) ≤ x4 ∧ (x4 : Int) < 4) ∧ jK d zX6_names [jO 6 (m 5 x4)] m (fun v1 m1 => aX0_reachOf_20 d (iOr x2 v1) x3 (w32 (x4 + 1)) m1 Q)) ∧ (¬ (iAnd (iShr x2 x4) 1) = 1 → aX0_reachOf_20 d x2 x3 (w32 (x4 + 1)) m Q)) ∧ (¬ x4 < 4 → aX0_reachOf_12 d x2 (w32 (x3 + 1)) m Q)) :
    aX0_reachOf_20 d x2 x3 x4 m Q := jWp_snd [(12, [true, false, true, true, false]), (20, [true, false, true, true, true])] jcX0_reachOf 21 rfl h
def aX0_weighRules_10 (d : Nat) (x1 : Int) (m : jM) (Q : Int → jM → Prop) : Prop := jA (d + 1) zX0_weighRules 10 [some (jO 0 1), some (jI x1), none] [] m Q
def aX0_weighRules_17 (d : Nat) (x1 x2 : Int) (m : jM) (Q : Int → jM → Prop) : Prop := jA (d + 1) zX0_weighRules 17 [some (jO 0 1), some (jI x1), some (jI x2)] [] m Q
set_option maxRecDepth 100000 in
theorem gX0_weighRules (d : Nat) (m : jM) (Q : Int → jM → Prop)
    (h : jK d zJ7_fill_53178 [jY 0 4 6, jI 0] m (fun v1 m1 => aX0_weighRules_10 d 0 m1 Q)) :
    jK (d + 1) zX0_weighRules [jO 0 1] m Q := jWp_sn0 [(10, [true, true, false]), (17, [true, true, true])] jcX0_weighRules 7 rfl h
set_option maxRecDepth 100000 in
theorem gX0_weighRules_10 (d : Nat) (x1 : Int) (m : jM) (Q : Int → jM → Prop)
    (h : (x1 < 4 → aX0_weighRules_17 d x1 0 m Q) ∧ (¬ x1 < 4 → Q 0 m)) :
    aX0_weighRules_10 d x1 m Q := jWp_snd [(10, [true, true, false]), (17, [true, true, true])] jcX0_weighRules 6 rfl h
set_option maxRecDepth 100000 in
theorem gX0_weighRules_17 (d : Nat) (x1 x2 : Int) (m : jM) (Q : Int → jM → Prop)
    (h : (x2 < 4 → ((0 : Int) ≤ x2 ∧ (x2 : Int) < 4) ∧ jK d zX6_weightBy [jO 6 (m 5 x2), jY 0 4 6] m (fun v1 m1 => ((0 : Int) ≤ x2 ∧ (x2 : Int) < 4) ∧ aX0_weighRules_17 d x1 (w32 (x2 + 1)) (jUp m1 6 x2 v1) Q)) ∧ (¬ x2 < 4 → aX0_weighRules_10 d (w32 (x1 + 1)) m Q)) :
    aX0_weighRules_17 d x1 x2 m Q := jWp_snd [(10, [true, true, false]), (17, [true, true, true])] jcX0_weighRules 17 rfl h
def aX0_refusalOf_22 (d : Nat) (x2 : Int) (m : jM) (Q : Int → jM → Prop) : Prop := jA (d + 1) zX0_refusalOf 22 [some (jO 0 1), none, some (jI x2)] [] m Q
set_option maxRecDepth 100000 in
theorem gX0_refusalOf (d : Nat) (x1 : Int) (m : jM) (Q : Int → jM → Prop)
    (h : jK d zX0_reachOf [jO 0 1, jI x1] m (fun v1 m1 => ((iAnd (iShr v1 x1) 1) = 1 → Q (-5) m1) ∧ (¬ (iAnd (iShr v1 x1) 1) = 1 → jK d zX0_weighRules [jO 0 1] m1 (fun v2 m2 => aX0_refusalOf_22 d 0 m2 Q)))) :
    jK (d + 1) zX0_refusalOf [jO 0 1, jI x1] m Q := jWp_sn0 [(22, [true, false, true])] jcX0_refusalOf 14 rfl h
set_option maxRecDepth 100000 in
theorem gX0_refusalOf_22 (d : Nat) (x2 : Int) (m : jM) (Q : Int → jM → Prop)
    (h : (x2 < 4 → ((0 : Int) ≤ x2 ∧ (x2 : Int) < 4) ∧ (60 < (m 6 x2) → Q (-4) m) ∧ (¬ 60 < (m 6 x2) → aX0_refusalOf_22 d (w32 (x2 + 1)) m Q)) ∧ (¬ x2 < 4 → Q 0 m)) :
    aX0_refusalOf_22 d x2 m Q := jWp_snd [(22, [true, false, true])] jcX0_refusalOf 12 rfl h
def aX1_init_4 (d : Nat) (p0 : Int) (m : jM) (Q : Int → jM → Prop) : Prop := jA (d + 1) zX1_init 4 [some (jO 1 p0)] [] m Q
def aX1_init_9 (d : Nat) (p0 : Int) (m : jM) (Q : Int → jM → Prop) : Prop := jA (d + 1) zX1_init 9 [some (jO 1 p0)] [] m Q
def aX1_init_17 (d : Nat) (p0 : Int) (m : jM) (Q : Int → jM → Prop) : Prop := jA (d + 1) zX1_init 17 [some (jO 1 p0)] [] m Q
def aX1_init_25 (d : Nat) (p0 : Int) (m : jM) (Q : Int → jM → Prop) : Prop := jA (d + 1) zX1_init 25 [some (jO 1 p0)] [] m Q
def aX1_init_33 (d : Nat) (p0 : Int) (m : jM) (Q : Int → jM → Prop) : Prop := jA (d + 1) zX1_init 33 [some (jO 1 p0)] [] m Q
def aX1_init_41 (d : Nat) (m : jM) (Q : Int → jM → Prop) : Prop := jA (d + 1) zX1_init 41 [none] [] m Q
set_option maxRecDepth 100000 in
theorem gX1_init (d : Nat) (p0 : Int) (m : jM) (Q : Int → jM → Prop)
    (h : aX1_init_4 d p0 m Q) :
    jK (d + 1) zX1_init [jO 1 p0] m Q := jWp_sn0 [(4, [true]), (9, [true]), (17, [true]), (25, [true]), (33, [true]), (41, [false])] jcX1_init 3 rfl h
set_option maxRecDepth 100000 in
theorem gX1_init_4 (d : Nat) (p0 : Int) (m : jM) (Q : Int → jM → Prop)
    (h : aX1_init_9 d p0 (jUp m p0 0 0) Q) :
    aX1_init_4 d p0 m Q := jWp_snd [(4, [true]), (9, [true]), (17, [true]), (25, [true]), (33, [true]), (41, [false])] jcX1_init 4 rfl h
set_option maxRecDepth 100000 in
theorem gX1_init_9 (d : Nat) (p0 : Int) (m : jM) (Q : Int → jM → Prop)
    (h : (m (-3) 0 < m (-3) 1 ∧ jKd (m (-3) 0) = 21 ∧ jLn (m (-3) 0) = 8) ∧ (m (-3) 0) = (p0 + 1) ∧ aX1_init_17 d p0 (jUp (jNw m) p0 1 (m (-3) 0)) Q) :
    aX1_init_9 d p0 m Q := jWp_snd [(4, [true]), (9, [true]), (17, [true]), (25, [true]), (33, [true]), (41, [false])] jcX1_init 5 rfl h
set_option maxRecDepth 100000 in
theorem gX1_init_17 (d : Nat) (p0 : Int) (m : jM) (Q : Int → jM → Prop)
    (h : (m (-3) 0 < m (-3) 1 ∧ jKd (m (-3) 0) = 20 ∧ jLn (m (-3) 0) = 64) ∧ (m (-3) 0) = (p0 + 2) ∧ aX1_init_25 d p0 (jUp (jNw m) p0 2 (m (-3) 0)) Q) :
    aX1_init_17 d p0 m Q := jWp_snd [(4, [true]), (9, [true]), (17, [true]), (25, [true]), (33, [true]), (41, [false])] jcX1_init 5 rfl h
set_option maxRecDepth 100000 in
theorem gX1_init_25 (d : Nat) (p0 : Int) (m : jM) (Q : Int → jM → Prop)
    (h : (m (-3) 0 < m (-3) 1 ∧ jKd (m (-3) 0) = 20 ∧ jLn (m (-3) 0) = 8) ∧ (m (-3) 0) = (p0 + 3) ∧ aX1_init_33 d p0 (jUp (jNw m) p0 3 (m (-3) 0)) Q) :
    aX1_init_25 d p0 m Q := jWp_snd [(4, [true]), (9, [true]), (17, [true]), (25, [true]), (33, [true]), (41, [false])] jcX1_init 5 rfl h
set_option maxRecDepth 100000 in
theorem gX1_init_33 (d : Nat) (p0 : Int) (m : jM) (Q : Int → jM → Prop)
    (h : (m (-3) 0 < m (-3) 1 ∧ jKd (m (-3) 0) = 20 ∧ jLn (m (-3) 0) = 64) ∧ (m (-3) 0) = (p0 + 4) ∧ aX1_init_41 d  (jUp (jNw m) p0 4 (m (-3) 0)) Q) :
    aX1_init_33 d p0 m Q := jWp_snd [(4, [true]), (9, [true]), (17, [true]), (25, [true]), (33, [true]), (41, [false])] jcX1_init 5 rfl h
set_option maxRecDepth 100000 in
theorem gX1_init_41 (d : Nat) (m : jM) (Q : Int → jM → Prop)
    (h : m (-3) 0 = m (-3) 1 ∧ Q 0 m) :
    aX1_init_41 d  m Q := jWp_snd [(4, [true]), (9, [true]), (17, [true]), (25, [true]), (33, [true]), (41, [false])] jcX1_init 2 rfl h
def aX1_write_28 (d : Nat) (x4 x5 : Int) (m : jM) (Q : Int → jM → Prop) : Prop := jA (d + 1) zX1_write 28 [some (jO 1 89), none, some (jO 4 62), none, some (jI x4), some (jI x5)] [] m Q
set_option maxRecDepth 100000 in
theorem gX1_write (d : Nat) (n3 y3 : Int) (m : jM) (Q : Int → jM → Prop)
    (h : ((0 : Int) ≤ 0 ∧ (0 : Int) ≤ 0 ∧ (0 : Int) ≤ 64 ∧ (0 : Int) + 64 ≤ n3 ∧ (0 : Int) + 64 ≤ 64) ∧ jK d zX4_take [jO 4 62, jO 4 54] (jCp m y3 0 93 0 64) (fun v1 m1 => aX1_write_28 d 0 0 (jUp m1 89 0 0) Q)) :
    jK (d + 1) zX1_write [jO 1 89, jO 4 54, jO 4 62, jY 0 n3 y3] m Q := jWp_sn0 [(28, [true, false, true, false, true, true])] jcX1_write 18 rfl h
set_option maxRecDepth 100000 in
theorem gX1_write_28 (d : Nat) (x4 x5 : Int) (m : jM) (Q : Int → jM → Prop)
    (h : (x5 < 8 → (x4 = 0 → jK d zX4_openBy [jO 4 62, jY 0 64 93] m (fun v1 m1 => jK d zX4_weigh [jO 4 62, jI 0] m1 (fun v2 m2 => ((0 : Int) ≤ 0 ∧ (0 : Int) < 256) ∧ ((m2 66 0) = (-4611686018427387904) → ((1 : Int) = 0 → jK d zX1_hear [jO 1 89, jO 4 62, jI x5] m2 (fun v3 m3 => aX1_write_28 d 1 (w32 (x5 + 1)) m3 Q)) ∧ (¬ (1 : Int) = 0 → aX1_write_28 d 1 (w32 (x5 + 1)) m2 Q)) ∧ (¬ (m2 66 0) = (-4611686018427387904) → ((0 : Int) = 0 → jK d zX1_hear [jO 1 89, jO 4 62, jI x5] m2 (fun v4 m4 => aX1_write_28 d 0 (w32 (x5 + 1)) m4 Q)) ∧ (¬ (0 : Int) = 0 → aX1_write_28 d 0 (w32 (x5 + 1)) m2 Q))))) ∧ (¬ x4 = 0 → Q 0 m)) ∧ (¬ x5 < 8 → Q 0 m)) :
    aX1_write_28 d x4 x5 m Q := jWp_snd [(28, [true, false, true, false, true, true])] jcX1_write 30 rfl h
def aX1_hear_30 (d : Nat) (x2 x3 : Int) (m : jM) (Q : Int → jM → Prop) : Prop := jA (d + 1) zX1_hear 30 [some (jO 1 89), none, some (jI x2), some (jI x3), none] [] m Q
set_option maxRecDepth 100000 in
theorem gX1_hear (d : Nat) (x2 : Int) (m : jM) (Q : Int → jM → Prop)
    (h : jK d zX4_pick [jO 4 54, jI 0, jY 0 8 92] m (fun v1 m1 => ((0 : Int) ≤ 0 ∧ (0 : Int) < 256) ∧ ((0 : Int) ≤ x2 ∧ (x2 : Int) < 8) ∧ aX1_hear_30 d x2 0 (jUp (jUp m1 90 x2 (m1 58 0)) 89 0 (w32 (x2 + 1))) Q)) :
    jK (d + 1) zX1_hear [jO 1 89, jO 4 54, jI x2] m Q := jWp_sn0 [(30, [true, false, true, true, false])] jcX1_hear 21 rfl h
set_option maxRecDepth 100000 in
theorem gX1_hear_30 (d : Nat) (x2 x3 : Int) (m : jM) (Q : Int → jM → Prop)
    (h : (x3 < 8 → ((0 : Int) ≤ x3 ∧ (x3 : Int) < 8) ∧ ((0 : Int) ≤ (w32 ((w32 (x2 * 8)) + x3)) ∧ ((w32 ((w32 (x2 * 8)) + x3)) : Int) < 64) ∧ ((m 92 x3) = (-1) → aX1_hear_30 d x2 (w32 (x3 + 1)) (jUp m 91 (w32 ((w32 (x2 * 8)) + x3)) (m 92 x3)) Q) ∧ (¬ (m 92 x3) = (-1) → ((0 : Int) ≤ (w32 ((w32 ((m 92 x3) * 8)) + x3)) ∧ ((w32 ((w32 ((m 92 x3) * 8)) + x3)) : Int) < 64) ∧ aX1_hear_30 d x2 (w32 (x3 + 1)) (jUp (jUp m 91 (w32 ((w32 (x2 * 8)) + x3)) (m 92 x3)) 93 (w32 ((w32 ((m 92 x3) * 8)) + x3)) 1) Q)) ∧ (¬ x3 < 8 → Q 0 m)) :
    aX1_hear_30 d x2 x3 m Q := jWp_snd [(30, [true, false, true, true, false])] jcX1_hear 32 rfl h
def aX2_init_4 (d : Nat) (p0 : Int) (m : jM) (Q : Int → jM → Prop) : Prop := jA (d + 1) zX2_init 4 [some (jO 2 p0)] [] m Q
def aX2_init_9 (d : Nat) (p0 : Int) (m : jM) (Q : Int → jM → Prop) : Prop := jA (d + 1) zX2_init 9 [some (jO 2 p0)] [] m Q
def aX2_init_14 (d : Nat) (p0 : Int) (m : jM) (Q : Int → jM → Prop) : Prop := jA (d + 1) zX2_init 14 [some (jO 2 p0)] [] m Q
def aX2_init_19 (d : Nat) (p0 : Int) (m : jM) (Q : Int → jM → Prop) : Prop := jA (d + 1) zX2_init 19 [some (jO 2 p0)] [] m Q
def aX2_init_27 (d : Nat) (p0 : Int) (m : jM) (Q : Int → jM → Prop) : Prop := jA (d + 1) zX2_init 27 [some (jO 2 p0)] [] m Q
def aX2_init_35 (d : Nat) (p0 : Int) (m : jM) (Q : Int → jM → Prop) : Prop := jA (d + 1) zX2_init 35 [some (jO 2 p0)] [] m Q
def aX2_init_43 (d : Nat) (p0 : Int) (m : jM) (Q : Int → jM → Prop) : Prop := jA (d + 1) zX2_init 43 [some (jO 2 p0)] [] m Q
def aX2_init_51 (d : Nat) (m : jM) (Q : Int → jM → Prop) : Prop := jA (d + 1) zX2_init 51 [none] [] m Q
set_option maxRecDepth 100000 in
theorem gX2_init (d : Nat) (p0 : Int) (m : jM) (Q : Int → jM → Prop)
    (h : aX2_init_4 d p0 m Q) :
    jK (d + 1) zX2_init [jO 2 p0] m Q := jWp_sn0 [(4, [true]), (9, [true]), (14, [true]), (19, [true]), (27, [true]), (35, [true]), (43, [true]), (51, [false])] jcX2_init 3 rfl h
set_option maxRecDepth 100000 in
theorem gX2_init_4 (d : Nat) (p0 : Int) (m : jM) (Q : Int → jM → Prop)
    (h : aX2_init_9 d p0 (jUp m p0 0 0) Q) :
    aX2_init_4 d p0 m Q := jWp_snd [(4, [true]), (9, [true]), (14, [true]), (19, [true]), (27, [true]), (35, [true]), (43, [true]), (51, [false])] jcX2_init 4 rfl h
set_option maxRecDepth 100000 in
theorem gX2_init_9 (d : Nat) (p0 : Int) (m : jM) (Q : Int → jM → Prop)
    (h : aX2_init_14 d p0 (jUp m p0 1 0) Q) :
    aX2_init_9 d p0 m Q := jWp_snd [(4, [true]), (9, [true]), (14, [true]), (19, [true]), (27, [true]), (35, [true]), (43, [true]), (51, [false])] jcX2_init 4 rfl h
set_option maxRecDepth 100000 in
theorem gX2_init_14 (d : Nat) (p0 : Int) (m : jM) (Q : Int → jM → Prop)
    (h : aX2_init_19 d p0 (jUp m p0 2 0) Q) :
    aX2_init_14 d p0 m Q := jWp_snd [(4, [true]), (9, [true]), (14, [true]), (19, [true]), (27, [true]), (35, [true]), (43, [true]), (51, [false])] jcX2_init 4 rfl h
set_option maxRecDepth 100000 in
theorem gX2_init_19 (d : Nat) (p0 : Int) (m : jM) (Q : Int → jM → Prop)
    (h : (m (-3) 0 < m (-3) 1 ∧ jKd (m (-3) 0) = 20 ∧ jLn (m (-3) 0) = 8) ∧ (m (-3) 0) = (p0 + 1) ∧ aX2_init_27 d p0 (jUp (jNw m) p0 3 (m (-3) 0)) Q) :
    aX2_init_19 d p0 m Q := jWp_snd [(4, [true]), (9, [true]), (14, [true]), (19, [true]), (27, [true]), (35, [true]), (43, [true]), (51, [false])] jcX2_init 5 rfl h
set_option maxRecDepth 100000 in
theorem gX2_init_27 (d : Nat) (p0 : Int) (m : jM) (Q : Int → jM → Prop)
    (h : (m (-3) 0 < m (-3) 1 ∧ jKd (m (-3) 0) = 20 ∧ jLn (m (-3) 0) = 8) ∧ (m (-3) 0) = (p0 + 2) ∧ aX2_init_35 d p0 (jUp (jNw m) p0 4 (m (-3) 0)) Q) :
    aX2_init_27 d p0 m Q := jWp_snd [(4, [true]), (9, [true]), (14, [true]), (19, [true]), (27, [true]), (35, [true]), (43, [true]), (51, [false])] jcX2_init 5 rfl h
set_option maxRecDepth 100000 in
theorem gX2_init_35 (d : Nat) (p0 : Int) (m : jM) (Q : Int → jM → Prop)
    (h : (m (-3) 0 < m (-3) 1 ∧ jKd (m (-3) 0) = 20 ∧ jLn (m (-3) 0) = 8) ∧ (m (-3) 0) = (p0 + 3) ∧ aX2_init_43 d p0 (jUp (jNw m) p0 5 (m (-3) 0)) Q) :
    aX2_init_35 d p0 m Q := jWp_snd [(4, [true]), (9, [true]), (14, [true]), (19, [true]), (27, [true]), (35, [true]), (43, [true]), (51, [false])] jcX2_init 5 rfl h
set_option maxRecDepth 100000 in
theorem gX2_init_43 (d : Nat) (p0 : Int) (m : jM) (Q : Int → jM → Prop)
    (h : (m (-3) 0 < m (-3) 1 ∧ jKd (m (-3) 0) = 20 ∧ jLn (m (-3) 0) = 8) ∧ (m (-3) 0) = (p0 + 4) ∧ aX2_init_51 d  (jUp (jNw m) p0 6 (m (-3) 0)) Q) :
    aX2_init_43 d p0 m Q := jWp_snd [(4, [true]), (9, [true]), (14, [true]), (19, [true]), (27, [true]), (35, [true]), (43, [true]), (51, [false])] jcX2_init 5 rfl h
set_option maxRecDepth 100000 in
theorem gX2_init_51 (d : Nat) (m : jM) (Q : Int → jM → Prop)
    (h : m (-3) 0 = m (-3) 1 ∧ Q 0 m) :
    aX2_init_51 d  m Q := jWp_snd [(4, [true]), (9, [true]), (14, [true]), (19, [true]), (27, [true]), (35, [true]), (43, [true]), (51, [false])] jcX2_init 2 rfl h
def aX2_find_23 (d : Nat) (n1 y1 x2 x3 : Int) (m : jM) (Q : Int → jM → Prop) : Prop := jA (d + 1) zX2_find 23 [some (jO 2 70), some (jY 0 n1 y1), some (jI x2), some (jI x3)] [] m Q
set_option maxRecDepth 100000 in
theorem gX2_find (d : Nat) (n1 y1 x2 : Int) (m : jM) (Q : Int → jM → Prop)
    (h : jK d zJ7_fill_53178 [jY 0 8 71, jI (-1)] m (fun v1 m1 => jK d zJ7_fill_53178 [jY 0 8 72, jI (-1)] m1 (fun v2 m2 => aX2_find_23 d n1 y1 x2 0 (jUp m2 70 0 0) Q))) :
    jK (d + 1) zX2_find [jO 2 70, jY 0 n1 y1, jI x2] m Q := jWp_sn0 [(23, [true, true, true, true])] jcX2_find 14 rfl h
set_option maxRecDepth 100000 in
theorem gX2_find_23 (d : Nat) (n1 y1 x2 x3 : Int) (m : jM) (Q : Int → jM → Prop)
    (h : (x3 < 8 → ((iAnd (iShr x2 x3) 1) = 1 → jK d zX2_grow [jO 2 70, jY 0 n1 y1, jI x3] m (fun v1 m1 => (v1 = 0 → aX2_find_23 d n1 y1 x2 (w32 (x3 + 1)) m1 Q) ∧ (¬ v1 = 0 → aX2_find_23 d n1 y1 x2 (w32 (x3 + 1)) (jUp m1 70 0 (w32 ((m1 70 0) + 1))) Q))) ∧ (¬ (iAnd (iShr x2 x3) 1) = 1 → aX2_find_23 d n1 y1 x2 (w32 (x3 + 1)) m Q)) ∧ (¬ x3 < 8 → jK d zX2_spread [jO 2 70, jY 0 n1 y1, jI x2] m (fun v2 m2 => Q 0 m2))) :
    aX2_find_23 d n1 y1 x2 x3 m Q := jWp_snd [(23, [true, true, true, true])] jcX2_find 24 rfl h
def aX2_grow_15 (d : Nat) (n1 y1 x3 x4 x5 : Int) (m : jM) (Q : Int → jM → Prop) : Prop := jA (d + 1) zX2_grow 15 [some (jO 2 70), some (jY 0 n1 y1), none, some (jI x3), some (jI x4), some (jI x5), none, none, none] [] m Q
def aX2_grow_51 (d : Nat) (n1 y1 x3 x4 x5 x6 x7 x8 : Int) (m : jM) (Q : Int → jM → Prop) : Prop := jA (d + 1) zX2_grow 51 [some (jO 2 70), some (jY 0 n1 y1), none, some (jI x3), some (jI x4), some (jI x5), some (jI x6), some (jI x7), some (jI x8)] [] m Q
set_option maxRecDepth 100000 in
theorem gX2_grow (d : Nat) (n1 y1 x2 : Int) (m : jM) (Q : Int → jM → Prop)
    (h : ((0 : Int) ≤ 0 ∧ (0 : Int) < 8) ∧ aX2_grow_15 d n1 y1 0 1 0 (jUp m 74 0 x2) Q) :
    jK (d + 1) zX2_grow [jO 2 70, jY 0 n1 y1, jI x2] m Q := jWp_sn0 [(15, [true, true, false, true, true, true, false, false, false]), (51, [true, true, false, true, true, true, true, true, true])] jcX2_grow 12 rfl h
set_option maxRecDepth 100000 in
theorem gX2_grow_15 (d : Nat) (n1 y1 x3 x4 x5 : Int) (m : jM) (Q : Int → jM → Prop)
    (h : (x5 < x4 → (x5 < 8 → ((0 : Int) ≤ x5 ∧ (x5 : Int) < 8) ∧ ((0 : Int) ≤ (m 74 x5) ∧ ((m 74 x5) : Int) < n1) ∧ aX2_grow_51 d n1 y1 x3 x4 x5 (m 74 x5) (iAnd (m y1 (m 74 x5)) (iXor x3 (-1))) 0 m Q) ∧ (¬ x5 < 8 → Q 0 m)) ∧ (¬ x5 < x4 → Q 0 m)) :
    aX2_grow_15 d n1 y1 x3 x4 x5 m Q := jWp_snd [(15, [true, true, false, true, true, true, false, false, false]), (51, [true, true, false, true, true, true, true, true, true])] jcX2_grow 22 rfl h
set_option maxRecDepth 100000 in
theorem gX2_grow_51 (d : Nat) (n1 y1 x3 x4 x5 x6 x7 x8 : Int) (m : jM) (Q : Int → jM → Prop)
    (h : (x8 < 8 → ((iAnd (iShr x7 x8) 1) = 0 → aX2_grow_51 d n1 y1 x3 x4 x5 x6 x7 (w32 (x8 + 1)) m Q) ∧ (¬ (iAnd (iShr x7 x8) 1) = 0 → ((0 : Int) ≤ x8 ∧ (x8 : Int) < 8) ∧ ((0 : Int) ≤ x8 ∧ (x8 : Int) < 8) ∧ (((jUp m 73 x8 x6) 72 x8) = (-1) → jK d zX2_turn [jO 2 70, jI x8] (jUp m 73 x8 x6) (fun v1 m1 => Q 1 m1)) ∧ (¬ ((jUp m 73 x8 x6) 72 x8) = (-1) → (x4 < 8 → ((0 : Int) ≤ x8 ∧ (x8 : Int) < 8) ∧ ((0 : Int) ≤ x4 ∧ (x4 : Int) < 8) ∧ aX2_grow_51 d n1 y1 (iOr x3 (iShl 1 x8)) (w32 (x4 + 1)) x5 x6 x7 (w32 (x8 + 1)) (jUp (jUp m 73 x8 x6) 74 x4 ((jUp m 73 x8 x6) 72 x8)) Q) ∧ (¬ x4 < 8 → aX2_grow_51 d n1 y1 (iOr x3 (iShl 1 x8)) x4 x5 x6 x7 (w32 (x8 + 1)) (jUp m 73 x8 x6) Q)))) ∧ (¬ x8 < 8 → aX2_grow_15 d n1 y1 x3 x4 (w32 (x5 + 1)) m Q)) :
    aX2_grow_51 d n1 y1 x3 x4 x5 x6 x7 x8 m Q := jWp_snd [(15, [true, true, false, true, true, true, false, false, false]), (51, [true, true, false, true, true, true, true, true, true])] jcX2_grow 41 rfl h
def aX2_turn_4 (d : Nat) (x2 x3 : Int) (m : jM) (Q : Int → jM → Prop) : Prop := jA (d + 1) zX2_turn 4 [some (jO 2 70), none, some (jI x2), some (jI x3), none, none] [] m Q
set_option maxRecDepth 100000 in
theorem gX2_turn (d : Nat) (x1 : Int) (m : jM) (Q : Int → jM → Prop)
    (h : aX2_turn_4 d x1 0 m Q) :
    jK (d + 1) zX2_turn [jO 2 70, jI x1] m Q := jWp_sn0 [(4, [true, false, true, true, false, false])] jcX2_turn 5 rfl h
set_option maxRecDepth 100000 in
theorem gX2_turn_4 (d : Nat) (x2 x3 : Int) (m : jM) (Q : Int → jM → Prop)
    (h : (x3 < 8 → (x2 = (-1) → Q 0 m) ∧ (¬ x2 = (-1) → ((0 : Int) ≤ x2 ∧ (x2 : Int) < 8) ∧ ((0 : Int) ≤ (m 73 x2) ∧ ((m 73 x2) : Int) < 8) ∧ ((0 : Int) ≤ (m 73 x2) ∧ ((m 73 x2) : Int) < 8) ∧ ((0 : Int) ≤ x2 ∧ (x2 : Int) < 8) ∧ aX2_turn_4 d (m 71 (m 73 x2)) (w32 (x3 + 1)) (jUp (jUp m 71 (m 73 x2) x2) 72 x2 (m 73 x2)) Q)) ∧ (¬ x3 < 8 → Q 0 m)) :
    aX2_turn_4 d x2 x3 m Q := jWp_snd [(4, [true, false, true, true, false, false])] jcX2_turn 31 rfl h
def aX2_spread_12 (d : Nat) (n1 y1 x2 x3 : Int) (m : jM) (Q : Int → jM → Prop) : Prop := jA (d + 1) zX2_spread 12 [some (jO 2 70), some (jY 0 n1 y1), some (jI x2), some (jI x3), none] [] m Q
def aX2_spread_57 (d : Nat) (n1 y1 x3 : Int) (m : jM) (Q : Int → jM → Prop) : Prop := jA (d + 1) zX2_spread 57 [some (jO 2 70), some (jY 0 n1 y1), none, some (jI x3), none] [] m Q
def aX2_spread_66 (d : Nat) (n1 y1 x3 x4 : Int) (m : jM) (Q : Int → jM → Prop) : Prop := jA (d + 1) zX2_spread 66 [some (jO 2 70), some (jY 0 n1 y1), none, some (jI x3), some (jI x4)] [] m Q
def aX2_spread_108 (d : Nat) (n1 y1 x3 x4 : Int) (m : jM) (Q : Int → jM → Prop) : Prop := jA (d + 1) zX2_spread 108 [some (jO 2 70), some (jY 0 n1 y1), none, some (jI x3), some (jI x4)] [] m Q
set_option maxRecDepth 100000 in
theorem gX2_spread (d : Nat) (n1 y1 x2 : Int) (m : jM) (Q : Int → jM → Prop)
    (h : aX2_spread_12 d n1 y1 x2 0 (jUp (jUp m 70 1 0) 70 2 0) Q) :
    jK (d + 1) zX2_spread [jO 2 70, jY 0 n1 y1, jI x2] m Q := jWp_sn0 [(12, [true, true, true, true, false]), (57, [true, true, false, true, false]), (66, [true, true, false, true, true]), (108, [true, true, false, true, true])] jcX2_spread 9 rfl h
set_option maxRecDepth 100000 in
theorem gX2_spread_12 (d : Nat) (n1 y1 x2 x3 : Int) (m : jM) (Q : Int → jM → Prop)
    (h : (x3 < 8 → ((iAnd (iShr x2 x3) 1) = 1 → ((0 : Int) ≤ x3 ∧ (x3 : Int) < 8) ∧ ((m 71 x3) = (-1) → aX2_spread_12 d n1 y1 x2 (w32 (x3 + 1)) (jUp m 70 1 (iOr (m 70 1) (iShl 1 x3))) Q) ∧ (¬ (m 71 x3) = (-1) → aX2_spread_12 d n1 y1 x2 (w32 (x3 + 1)) m Q)) ∧ (¬ (iAnd (iShr x2 x3) 1) = 1 → aX2_spread_12 d n1 y1 x2 (w32 (x3 + 1)) m Q)) ∧ (¬ x3 < 8 → aX2_spread_57 d n1 y1 0 m Q)) :
    aX2_spread_12 d n1 y1 x2 x3 m Q := jWp_snd [(12, [true, true, true, true, false]), (57, [true, true, false, true, false]), (66, [true, true, false, true, true]), (108, [true, true, false, true, true])] jcX2_spread 27 rfl h
set_option maxRecDepth 100000 in
theorem gX2_spread_57 (d : Nat) (n1 y1 x3 : Int) (m : jM) (Q : Int → jM → Prop)
    (h : (8 < x3 → Q 0 m) ∧ (¬ 8 < x3 → aX2_spread_66 d n1 y1 x3 0 m Q)) :
    aX2_spread_57 d n1 y1 x3 m Q := jWp_snd [(12, [true, true, true, true, false]), (57, [true, true, false, true, false]), (66, [true, true, false, true, true]), (108, [true, true, false, true, true])] jcX2_spread 6 rfl h
set_option maxRecDepth 100000 in
theorem gX2_spread_66 (d : Nat) (n1 y1 x3 x4 : Int) (m : jM) (Q : Int → jM → Prop)
    (h : (x4 < 8 → ((iAnd (iShr (m 70 1) x4) 1) = 1 → ((0 : Int) ≤ x4 ∧ (x4 : Int) < n1) ∧ aX2_spread_66 d n1 y1 x3 (w32 (x4 + 1)) (jUp m 70 2 (iOr (m 70 2) (m y1 x4))) Q) ∧ (¬ (iAnd (iShr (m 70 1) x4) 1) = 1 → aX2_spread_66 d n1 y1 x3 (w32 (x4 + 1)) m Q)) ∧ (¬ x4 < 8 → aX2_spread_108 d n1 y1 x3 0 m Q)) :
    aX2_spread_66 d n1 y1 x3 x4 m Q := jWp_snd [(12, [true, true, true, true, false]), (57, [true, true, false, true, false]), (66, [true, true, false, true, true]), (108, [true, true, false, true, true])] jcX2_spread 22 rfl h
set_option maxRecDepth 100000 in
theorem gX2_spread_108 (d : Nat) (n1 y1 x3 x4 : Int) (m : jM) (Q : Int → jM → Prop)
    (h : (x4 < 8 → ((iAnd (iShr (m 70 2) x4) 1) = 1 → ((0 : Int) ≤ x4 ∧ (x4 : Int) < 8) ∧ ((m 72 x4) = (-1) → aX2_spread_108 d n1 y1 x3 (w32 (x4 + 1)) m Q) ∧ (¬ (m 72 x4) = (-1) → ((0 : Int) ≤ x4 ∧ (x4 : Int) < 8) ∧ aX2_spread_108 d n1 y1 x3 (w32 (x4 + 1)) (jUp m 70 1 (iOr (m 70 1) (iShl 1 (m 72 x4)))) Q)) ∧ (¬ (iAnd (iShr (m 70 2) x4) 1) = 1 → aX2_spread_108 d n1 y1 x3 (w32 (x4 + 1)) m Q)) ∧ (¬ x4 < 8 → aX2_spread_57 d n1 y1 (w32 (x3 + 1)) m Q)) :
    aX2_spread_108 d n1 y1 x3 x4 m Q := jWp_snd [(12, [true, true, true, true, false]), (57, [true, true, false, true, false]), (66, [true, true, false, true, true]), (108, [true, true, false, true, true])] jcX2_spread 31 rfl h
def aX3_init_4 (d : Nat) (p0 : Int) (m : jM) (Q : Int → jM → Prop) : Prop := jA (d + 1) zX3_init 4 [some (jO 3 p0)] [] m Q
def aX3_init_13 (d : Nat) (p0 : Int) (m : jM) (Q : Int → jM → Prop) : Prop := jA (d + 1) zX3_init 13 [some (jO 3 p0)] [] m Q
def aX3_init_22 (d : Nat) (p0 : Int) (m : jM) (Q : Int → jM → Prop) : Prop := jA (d + 1) zX3_init 22 [some (jO 3 p0)] [] m Q
def aX3_init_31 (d : Nat) (p0 : Int) (m : jM) (Q : Int → jM → Prop) : Prop := jA (d + 1) zX3_init 31 [some (jO 3 p0)] [] m Q
def aX3_init_40 (d : Nat) (p0 : Int) (m : jM) (Q : Int → jM → Prop) : Prop := jA (d + 1) zX3_init 40 [some (jO 3 p0)] [] m Q
def aX3_init_48 (d : Nat) (p0 : Int) (m : jM) (Q : Int → jM → Prop) : Prop := jA (d + 1) zX3_init 48 [some (jO 3 p0)] [] m Q
def aX3_init_56 (d : Nat) (p0 : Int) (m : jM) (Q : Int → jM → Prop) : Prop := jA (d + 1) zX3_init 56 [some (jO 3 p0)] [] m Q
def aX3_init_64 (d : Nat) (m : jM) (Q : Int → jM → Prop) : Prop := jA (d + 1) zX3_init 64 [none] [] m Q
set_option maxRecDepth 100000 in
theorem gX3_init (d : Nat) (p0 : Int) (m : jM) (Q : Int → jM → Prop)
    (h : aX3_init_4 d p0 m Q) :
    jK (d + 1) zX3_init [jO 3 p0] m Q := jWp_sn0 [(4, [true]), (13, [true]), (22, [true]), (31, [true]), (40, [true]), (48, [true]), (56, [true]), (64, [false])] jcX3_init 3 rfl h
set_option maxRecDepth 100000 in
theorem gX3_init_4 (d : Nat) (p0 : Int) (m : jM) (Q : Int → jM → Prop)
    (h : (m (-3) 0 < m (-3) 1 ∧ jKd (m (-3) 0) = 20 ∧ jLn (m (-3) 0) = 256) ∧ (m (-3) 0) = (p0 + 1) ∧ aX3_init_13 d p0 (jUp (jNw m) p0 0 (m (-3) 0)) Q) :
    aX3_init_4 d p0 m Q := jWp_snd [(4, [true]), (13, [true]), (22, [true]), (31, [true]), (40, [true]), (48, [true]), (56, [true]), (64, [false])] jcX3_init 5 rfl h
set_option maxRecDepth 100000 in
theorem gX3_init_13 (d : Nat) (p0 : Int) (m : jM) (Q : Int → jM → Prop)
    (h : (m (-3) 0 < m (-3) 1 ∧ jKd (m (-3) 0) = 21 ∧ jLn (m (-3) 0) = 3072) ∧ (m (-3) 0) = (p0 + 2) ∧ aX3_init_22 d p0 (jUp (jNw m) p0 1 (m (-3) 0)) Q) :
    aX3_init_13 d p0 m Q := jWp_snd [(4, [true]), (13, [true]), (22, [true]), (31, [true]), (40, [true]), (48, [true]), (56, [true]), (64, [false])] jcX3_init 5 rfl h
set_option maxRecDepth 100000 in
theorem gX3_init_22 (d : Nat) (p0 : Int) (m : jM) (Q : Int → jM → Prop)
    (h : (m (-3) 0 < m (-3) 1 ∧ jKd (m (-3) 0) = 20 ∧ jLn (m (-3) 0) = 3072) ∧ (m (-3) 0) = (p0 + 3) ∧ aX3_init_31 d p0 (jUp (jNw m) p0 2 (m (-3) 0)) Q) :
    aX3_init_22 d p0 m Q := jWp_snd [(4, [true]), (13, [true]), (22, [true]), (31, [true]), (40, [true]), (48, [true]), (56, [true]), (64, [false])] jcX3_init 5 rfl h
set_option maxRecDepth 100000 in
theorem gX3_init_31 (d : Nat) (p0 : Int) (m : jM) (Q : Int → jM → Prop)
    (h : (m (-3) 0 < m (-3) 1 ∧ jKd (m (-3) 0) = 20 ∧ jLn (m (-3) 0) = 3072) ∧ (m (-3) 0) = (p0 + 4) ∧ aX3_init_40 d p0 (jUp (jNw m) p0 3 (m (-3) 0)) Q) :
    aX3_init_31 d p0 m Q := jWp_snd [(4, [true]), (13, [true]), (22, [true]), (31, [true]), (40, [true]), (48, [true]), (56, [true]), (64, [false])] jcX3_init 5 rfl h
set_option maxRecDepth 100000 in
theorem gX3_init_40 (d : Nat) (p0 : Int) (m : jM) (Q : Int → jM → Prop)
    (h : (m (-3) 0 < m (-3) 1 ∧ jKd (m (-3) 0) = 20 ∧ jLn (m (-3) 0) = 8) ∧ (m (-3) 0) = (p0 + 5) ∧ aX3_init_48 d p0 (jUp (jNw m) p0 4 (m (-3) 0)) Q) :
    aX3_init_40 d p0 m Q := jWp_snd [(4, [true]), (13, [true]), (22, [true]), (31, [true]), (40, [true]), (48, [true]), (56, [true]), (64, [false])] jcX3_init 5 rfl h
set_option maxRecDepth 100000 in
theorem gX3_init_48 (d : Nat) (p0 : Int) (m : jM) (Q : Int → jM → Prop)
    (h : (m (-3) 0 < m (-3) 1 ∧ jKd (m (-3) 0) = 21 ∧ jLn (m (-3) 0) = 8) ∧ (m (-3) 0) = (p0 + 6) ∧ aX3_init_56 d p0 (jUp (jNw m) p0 5 (m (-3) 0)) Q) :
    aX3_init_48 d p0 m Q := jWp_snd [(4, [true]), (13, [true]), (22, [true]), (31, [true]), (40, [true]), (48, [true]), (56, [true]), (64, [false])] jcX3_init 5 rfl h
set_option maxRecDepth 100000 in
theorem gX3_init_56 (d : Nat) (p0 : Int) (m : jM) (Q : Int → jM → Prop)
    (h : (m (-3) 0 < m (-3) 1 ∧ jKd (m (-3) 0) = 20 ∧ jLn (m (-3) 0) = 96) ∧ (m (-3) 0) = (p0 + 7) ∧ aX3_init_64 d  (jUp (jNw m) p0 6 (m (-3) 0)) Q) :
    aX3_init_56 d p0 m Q := jWp_snd [(4, [true]), (13, [true]), (22, [true]), (31, [true]), (40, [true]), (48, [true]), (56, [true]), (64, [false])] jcX3_init 5 rfl h
set_option maxRecDepth 100000 in
theorem gX3_init_64 (d : Nat) (m : jM) (Q : Int → jM → Prop)
    (h : m (-3) 0 = m (-3) 1 ∧ Q 0 m) :
    aX3_init_64 d  m Q := jWp_snd [(4, [true]), (13, [true]), (22, [true]), (31, [true]), (40, [true]), (48, [true]), (56, [true]), (64, [false])] jcX3_init 2 rfl h
def aX3_find_4 (d : Nat) (x2 : Int) (m : jM) (Q : Int → jM → Prop) : Prop := jA (d + 1) zX3_find 4 [some (jO 3 81), some (jO 4 54), some (jI x2), none] [] m Q
def aX3_find_103 (d : Nat) (x2 : Int) (m : jM) (Q : Int → jM → Prop) : Prop := jA (d + 1) zX3_find 103 [some (jO 3 81), some (jO 4 54), some (jI x2), none] [] m Q
set_option maxRecDepth 100000 in
theorem gX3_find (d : Nat) (m : jM) (Q : Int → jM → Prop)
    (h : aX3_find_4 d 255 m Q) :
    jK (d + 1) zX3_find [jO 3 81, jO 4 54] m Q := jWp_sn0 [(4, [true, true, true, false]), (103, [true, true, true, false])] jcX3_find 3 rfl h
set_option maxRecDepth 100000 in
theorem gX3_find_4 (d : Nat) (x2 : Int) (m : jM) (Q : Int → jM → Prop)
    (h : (x2 < 0 → jK d zJ7_fill_53178 [jY 0 96 88, jI (-1)] m (fun v1 m1 => aX3_find_103 d 0 m1 Q)) ∧ (¬ x2 < 0 → jK d zX4_canTake [jO 4 54, jI x2] m (fun v2 m2 => (v2 = 0 → aX3_find_4 d (w32 (x2 + (-1))) m2 Q) ∧ (¬ v2 = 0 → jK d zJ6_bitCount_0f7a4 [jI x2] m2 (fun v3 m3 => (v3 < (m3 54 1) → ((0 : Int) ≤ x2 ∧ (x2 : Int) < 256) ∧ ((m3 58 x2) = (-4611686018427387904) → ((0 : Int) ≤ x2 ∧ (x2 : Int) < 256) ∧ aX3_find_4 d (w32 (x2 + (-1))) (jUp m3 82 x2 0) Q) ∧ (¬ (m3 58 x2) = (-4611686018427387904) → ((0 : Int) ≤ v3 ∧ (v3 : Int) < 8) ∧ jK d zX3_merge [jO 3 81, jO 4 54, jI x2, jI (m3 55 v3)] m3 (fun v4 m4 => ((0 : Int) ≤ x2 ∧ (x2 : Int) < 256) ∧ aX3_find_4 d (w32 (x2 + (-1))) (jUp m4 82 x2 v4) Q))) ∧ (¬ v3 < (m3 54 1) → ((0 : Int) ≤ x2 ∧ (x2 : Int) < 256) ∧ ((0 : Int) ≤ (w32 (x2 * 12)) ∧ ((w32 (x2 * 12)) : Int) < 3072) ∧ aX3_find_4 d (w32 (x2 + (-1))) (jUp (jUp m3 82 x2 1) 83 (w32 (x2 * 12)) 0) Q)))))) :
    aX3_find_4 d x2 m Q := jWp_snd [(4, [true, true, true, false]), (103, [true, true, true, false])] jcX3_find 35 rfl h
set_option maxRecDepth 100000 in
theorem gX3_find_103 (d : Nat) (x2 : Int) (m : jM) (Q : Int → jM → Prop)
    (h : ((0 : Int) ≤ 0 ∧ (0 : Int) < 256) ∧ (x2 < (m 82 0) → jK d zX3_follow [jO 3 81, jO 4 54, jI x2] m (fun v1 m1 => aX3_find_103 d (w32 (x2 + 1)) m1 Q)) ∧ (¬ x2 < (m 82 0) → Q 0 m)) :
    aX3_find_103 d x2 m Q := jWp_snd [(4, [true, true, true, false]), (103, [true, true, true, false])] jcX3_find 13 rfl h
def aX3_merge_11 (d : Nat) (x2 x3 x4 : Int) (m : jM) (Q : Int → jM → Prop) : Prop := jA (d + 1) zX3_merge 11 [some (jO 3 81), some (jO 4 54), some (jI x2), some (jI x3), some (jI x4), none, none] [] m Q
def aX3_merge_43 (d : Nat) (x2 x3 x4 : Int) (m : jM) (Q : Int → jM → Prop) : Prop := jA (d + 1) zX3_merge 43 [some (jO 3 81), some (jO 4 54), some (jI x2), some (jI x3), some (jI x4), none, none] [] m Q
set_option maxRecDepth 100000 in
theorem gX3_merge (d : Nat) (x2 x3 : Int) (m : jM) (Q : Int → jM → Prop)
    (h : jK d zJ7_fill_53178 [jY 0 8 86, jI 0] m (fun v1 m1 => aX3_merge_11 d x2 x3 0 m1 Q)) :
    jK (d + 1) zX3_merge [jO 3 81, jO 4 54, jI x2, jI x3] m Q := jWp_sn0 [(11, [true, true, true, true, true, false, false]), (43, [true, true, true, true, true, false, false])] jcX3_merge 7 rfl h
set_option maxRecDepth 100000 in
theorem gX3_merge_11 (d : Nat) (x2 x3 x4 : Int) (m : jM) (Q : Int → jM → Prop)
    (h : (x4 < 8 → jK d zX3_headTotal [jO 3 81, jO 4 54, jI x2, jI x3, jI x4] m (fun v1 m1 => ((0 : Int) ≤ x4 ∧ (x4 : Int) < 8) ∧ aX3_merge_11 d x2 x3 (w32 (x4 + 1)) (jUp m1 87 x4 v1) Q)) ∧ (¬ x4 < 8 → aX3_merge_43 d x2 x3 0 m Q)) :
    aX3_merge_11 d x2 x3 x4 m Q := jWp_snd [(11, [true, true, true, true, true, false, false]), (43, [true, true, true, true, true, false, false])] jcX3_merge 16 rfl h
set_option maxRecDepth 100000 in
theorem gX3_merge_43 (d : Nat) (x2 x3 x4 : Int) (m : jM) (Q : Int → jM → Prop)
    (h : (x4 < 12 → jK d zX3_firstJudge [jO 3 81] m (fun v1 m1 => (v1 = (-1) → Q x4 m1) ∧ (¬ v1 = (-1) → ((0 : Int) ≤ v1 ∧ (v1 : Int) < 8) ∧ ((0 : Int) ≤ (w32 ((w32 (x2 * 12)) + x4)) ∧ ((w32 ((w32 (x2 * 12)) + x4)) : Int) < 3072) ∧ ((0 : Int) ≤ (w32 ((w32 (x2 * 12)) + x4)) ∧ ((w32 ((w32 (x2 * 12)) + x4)) : Int) < 3072) ∧ ((0 : Int) ≤ v1 ∧ (v1 : Int) < 8) ∧ ((0 : Int) ≤ (w32 ((w32 (x2 * 12)) + x4)) ∧ ((w32 ((w32 (x2 * 12)) + x4)) : Int) < 3072) ∧ ((0 : Int) ≤ v1 ∧ (v1 : Int) < 8) ∧ ((0 : Int) ≤ v1 ∧ (v1 : Int) < 8) ∧ jK d zX3_headTotal [jO 3 81, jO 4 54, jI x2, jI x3, jI v1] (jUp (jUp (jUp (jUp m1 83 (w32 ((w32 (x2 * 12)) + x4)) (m1 87 v1)) 84 (w32 ((w32 (x2 * 12)) + x4)) v1) 85 (w32 ((w32 (x2 * 12)) + x4)) ((jUp (jUp m1 83 (w32 ((w32 (x2 * 12)) + x4)) (m1 87 v1)) 84 (w32 ((w32 (x2 * 12)) + x4)) v1) 86 v1)) 86 v1 (w32 (((jUp (jUp (jUp m1 83 (w32 ((w32 (x2 * 12)) + x4)) (m1 87 v1)) 84 (w32 ((w32 (x2 * 12)) + x4)) v1) 85 (w32 ((w32 (x2 * 12)) + x4)) ((jUp (jUp m1 83 (w32 ((w32 (x2 * 12)) + x4)) (m1 87 v1)) 84 (w32 ((w32 (x2 * 12)) + x4)) v1) 86 v1)) 86 v1) + 1))) (fun v2 m2 => ((0 : Int) ≤ v1 ∧ (v1 : Int) < 8) ∧ aX3_merge_43 d x2 x3 (w32 (x4 + 1)) (jUp m2 87 v1 v2) Q)))) ∧ (¬ x4 < 12 → Q 12 m)) :
    aX3_merge_43 d x2 x3 x4 m Q := jWp_snd [(11, [true, true, true, true, true, false, false]), (43, [true, true, true, true, true, false, false])] jcX3_merge 57 rfl h
set_option maxRecDepth 100000 in
theorem gX3_headTotal (d : Nat) (x2 x3 x4 : Int) (m : jM) (Q : Int → jM → Prop)
    (h : ((0 : Int) ≤ x3 ∧ (x3 : Int) < 8) ∧ ((iAnd (iAnd (m 57 x3) (iXor x2 (-1))) (iShl 1 x4)) = 0 → Q (-4611686018427387904) m) ∧ (¬ (iAnd (iAnd (m 57 x3) (iXor x2 (-1))) (iShl 1 x4)) = 0 → ((0 : Int) ≤ x4 ∧ (x4 : Int) < 8) ∧ ((0 : Int) ≤ (iOr x2 (iShl 1 x4)) ∧ ((iOr x2 (iShl 1 x4)) : Int) < 256) ∧ ((m 86 x4) < (m 82 (iOr x2 (iShl 1 x4))) → ((0 : Int) ≤ (w32 ((w32 (x4 * 8)) + x3)) ∧ ((w32 ((w32 (x4 * 8)) + x3)) : Int) < 64) ∧ ((0 : Int) ≤ x4 ∧ (x4 : Int) < 8) ∧ ((0 : Int) ≤ (w32 ((w32 ((iOr x2 (iShl 1 x4)) * 12)) + (m 86 x4))) ∧ ((w32 ((w32 ((iOr x2 (iShl 1 x4)) * 12)) + (m 86 x4))) : Int) < 3072) ∧ Q (w64 ((m 56 (w32 ((w32 (x4 * 8)) + x3))) + (m 83 (w32 ((w32 ((iOr x2 (iShl 1 x4)) * 12)) + (m 86 x4)))))) m) ∧ (¬ (m 86 x4) < (m 82 (iOr x2 (iShl 1 x4))) → Q (-4611686018427387904) m))) :
    jK (d + 1) zX3_headTotal [jO 3 81, jO 4 54, jI x2, jI x3, jI x4] m Q := jWp_sn0 [] jcX3_headTotal 50 rfl h
def aX3_firstJudge_4 (d : Nat) (x1 x2 : Int) (m : jM) (Q : Int → jM → Prop) : Prop := jA (d + 1) zX3_firstJudge 4 [some (jO 3 81), some (jI x1), some (jI x2)] [] m Q
set_option maxRecDepth 100000 in
theorem gX3_firstJudge (d : Nat) (m : jM) (Q : Int → jM → Prop)
    (h : aX3_firstJudge_4 d (-1) 0 m Q) :
    jK (d + 1) zX3_firstJudge [jO 3 81] m Q := jWp_sn0 [(4, [true, true, true])] jcX3_firstJudge 5 rfl h
set_option maxRecDepth 100000 in
theorem gX3_firstJudge_4 (d : Nat) (x1 x2 : Int) (m : jM) (Q : Int → jM → Prop)
    (h : (x2 < 8 → ((0 : Int) ≤ x2 ∧ (x2 : Int) < 8) ∧ ((m 87 x2) = (-4611686018427387904) → aX3_firstJudge_4 d x1 (w32 (x2 + 1)) m Q) ∧ (¬ (m 87 x2) = (-4611686018427387904) → (x1 = (-1) → aX3_firstJudge_4 d x2 (w32 (x2 + 1)) m Q) ∧ (¬ x1 = (-1) → ((0 : Int) ≤ x2 ∧ (x2 : Int) < 8) ∧ ((0 : Int) ≤ x1 ∧ (x1 : Int) < 8) ∧ ((m 87 x2) < (m 87 x1) → aX3_firstJudge_4 d x2 (w32 (x2 + 1)) m Q) ∧ (¬ (m 87 x2) < (m 87 x1) → aX3_firstJudge_4 d x1 (w32 (x2 + 1)) m Q)))) ∧ (¬ x2 < 8 → Q x1 m)) :
    aX3_firstJudge_4 d x1 x2 m Q := jWp_snd [(4, [true, true, true])] jcX3_firstJudge 26 rfl h
def aX3_follow_8 (d : Nat) (x2 x3 x4 x5 : Int) (m : jM) (Q : Int → jM → Prop) : Prop := jA (d + 1) zX3_follow 8 [some (jO 3 81), some (jO 4 54), some (jI x2), some (jI x3), some (jI x4), some (jI x5), none] [] m Q
set_option maxRecDepth 100000 in
theorem gX3_follow (d : Nat) (x2 : Int) (m : jM) (Q : Int → jM → Prop)
    (h : aX3_follow_8 d x2 0 x2 0 m Q) :
    jK (d + 1) zX3_follow [jO 3 81, jO 4 54, jI x2] m Q := jWp_sn0 [(8, [true, true, true, true, true, true, false])] jcX3_follow 7 rfl h
set_option maxRecDepth 100000 in
theorem gX3_follow_8 (d : Nat) (x2 x3 x4 x5 : Int) (m : jM) (Q : Int → jM → Prop)
    (h : (x5 < (m 54 1) → ((0 : Int) ≤ x5 ∧ (x5 : Int) < 8) ∧ ((0 : Int) ≤ (w32 ((w32 (x3 * 12)) + x4)) ∧ ((w32 ((w32 (x3 * 12)) + x4)) : Int) < 3072) ∧ ((0 : Int) ≤ (w32 ((w32 (x2 * 8)) + (m 55 x5))) ∧ ((w32 ((w32 (x2 * 8)) + (m 55 x5))) : Int) < 96) ∧ ((0 : Int) ≤ (w32 ((w32 (x3 * 12)) + x4)) ∧ ((w32 ((w32 (x3 * 12)) + x4)) : Int) < 3072) ∧ ((0 : Int) ≤ (w32 ((w32 (x3 * 12)) + x4)) ∧ ((w32 ((w32 (x3 * 12)) + x4)) : Int) < 3072) ∧ aX3_follow_8 d x2 (iOr x3 (iShl 1 ((jUp m 88 (w32 ((w32 (x2 * 8)) + (m 55 x5))) (m 84 (w32 ((w32 (x3 * 12)) + x4)))) 84 (w32 ((w32 (x3 * 12)) + x4))))) ((jUp m 88 (w32 ((w32 (x2 * 8)) + (m 55 x5))) (m 84 (w32 ((w32 (x3 * 12)) + x4)))) 85 (w32 ((w32 (x3 * 12)) + x4))) (w32 (x5 + 1)) (jUp m 88 (w32 ((w32 (x2 * 8)) + (m 55 x5))) (m 84 (w32 ((w32 (x3 * 12)) + x4)))) Q) ∧ (¬ x5 < (m 54 1) → Q 0 m)) :
    aX3_follow_8 d x2 x3 x4 x5 m Q := jWp_snd [(8, [true, true, true, true, true, true, false])] jcX3_follow 42 rfl h
def aX3_placeOf_2 (d : Nat) (n1 y1 x2 : Int) (m : jM) (Q : Int → jM → Prop) : Prop := jA (d + 1) zX3_placeOf 2 [some (jO 3 81), some (jY 0 n1 y1), some (jI x2), none, none] [] m Q
def aX3_placeOf_17 (d : Nat) (n1 y1 x2 x3 x4 : Int) (m : jM) (Q : Int → jM → Prop) : Prop := jA (d + 1) zX3_placeOf 17 [some (jO 3 81), some (jY 0 n1 y1), some (jI x2), some (jI x3), some (jI x4)] [] m Q
set_option maxRecDepth 100000 in
theorem gX3_placeOf (d : Nat) (n1 y1 : Int) (m : jM) (Q : Int → jM → Prop)
    (h : aX3_placeOf_2 d n1 y1 0 m Q) :
    jK (d + 1) zX3_placeOf [jO 3 81, jY 0 n1 y1] m Q := jWp_sn0 [(2, [true, true, true, false, false]), (17, [true, true, true, true, true])] jcX3_placeOf 3 rfl h
set_option maxRecDepth 100000 in
theorem gX3_placeOf_2 (d : Nat) (n1 y1 x2 : Int) (m : jM) (Q : Int → jM → Prop)
    (h : ((0 : Int) ≤ 0 ∧ (0 : Int) < 256) ∧ (x2 < (m 82 0) → aX3_placeOf_17 d n1 y1 x2 1 0 m Q) ∧ (¬ x2 < (m 82 0) → Q (-1) m)) :
    aX3_placeOf_2 d n1 y1 x2 m Q := jWp_snd [(2, [true, true, true, false, false]), (17, [true, true, true, true, true])] jcX3_placeOf 11 rfl h
set_option maxRecDepth 100000 in
theorem gX3_placeOf_17 (d : Nat) (n1 y1 x2 x3 x4 : Int) (m : jM) (Q : Int → jM → Prop)
    (h : (x4 < 8 → (x3 = 0 → aX3_placeOf_17 d n1 y1 x2 0 (w32 (x4 + 1)) m Q) ∧ (¬ x3 = 0 → ((0 : Int) ≤ (w32 ((w32 (x2 * 8)) + x4)) ∧ ((w32 ((w32 (x2 * 8)) + x4)) : Int) < 96) ∧ ((0 : Int) ≤ x4 ∧ (x4 : Int) < n1) ∧ ((m 88 (w32 ((w32 (x2 * 8)) + x4))) = (m y1 x4) → aX3_placeOf_17 d n1 y1 x2 1 (w32 (x4 + 1)) m Q) ∧ (¬ (m 88 (w32 ((w32 (x2 * 8)) + x4))) = (m y1 x4) → aX3_placeOf_17 d n1 y1 x2 0 (w32 (x4 + 1)) m Q))) ∧ (¬ x4 < 8 → (x3 = 0 → aX3_placeOf_2 d n1 y1 (w32 (x2 + 1)) m Q) ∧ (¬ x3 = 0 → Q x2 m))) :
    aX3_placeOf_17 d n1 y1 x2 x3 x4 m Q := jWp_snd [(2, [true, true, true, false, false]), (17, [true, true, true, true, true])] jcX3_placeOf 23 rfl h
def aX4_init_4 (d : Nat) (p0 : Int) (m : jM) (Q : Int → jM → Prop) : Prop := jA (d + 1) zX4_init 4 [some (jO 4 p0)] [] m Q
def aX4_init_9 (d : Nat) (p0 : Int) (m : jM) (Q : Int → jM → Prop) : Prop := jA (d + 1) zX4_init 9 [some (jO 4 p0)] [] m Q
def aX4_init_14 (d : Nat) (p0 : Int) (m : jM) (Q : Int → jM → Prop) : Prop := jA (d + 1) zX4_init 14 [some (jO 4 p0)] [] m Q
def aX4_init_22 (d : Nat) (p0 : Int) (m : jM) (Q : Int → jM → Prop) : Prop := jA (d + 1) zX4_init 22 [some (jO 4 p0)] [] m Q
def aX4_init_27 (d : Nat) (p0 : Int) (m : jM) (Q : Int → jM → Prop) : Prop := jA (d + 1) zX4_init 27 [some (jO 4 p0)] [] m Q
def aX4_init_35 (d : Nat) (p0 : Int) (m : jM) (Q : Int → jM → Prop) : Prop := jA (d + 1) zX4_init 35 [some (jO 4 p0)] [] m Q
def aX4_init_43 (d : Nat) (p0 : Int) (m : jM) (Q : Int → jM → Prop) : Prop := jA (d + 1) zX4_init 43 [some (jO 4 p0)] [] m Q
def aX4_init_52 (d : Nat) (p0 : Int) (m : jM) (Q : Int → jM → Prop) : Prop := jA (d + 1) zX4_init 52 [some (jO 4 p0)] [] m Q
def aX4_init_61 (d : Nat) (p0 : Int) (m : jM) (Q : Int → jM → Prop) : Prop := jA (d + 1) zX4_init 61 [some (jO 4 p0)] [] m Q
def aX4_init_70 (d : Nat) (p0 : Int) (m : jM) (Q : Int → jM → Prop) : Prop := jA (d + 1) zX4_init 70 [some (jO 4 p0)] [] m Q
def aX4_init_78 (d : Nat) (m : jM) (Q : Int → jM → Prop) : Prop := jA (d + 1) zX4_init 78 [none] [] m Q
set_option maxRecDepth 100000 in
theorem gX4_init (d : Nat) (p0 : Int) (m : jM) (Q : Int → jM → Prop)
    (h : aX4_init_4 d p0 m Q) :
    jK (d + 1) zX4_init [jO 4 p0] m Q := jWp_sn0 [(4, [true]), (9, [true]), (14, [true]), (22, [true]), (27, [true]), (35, [true]), (43, [true]), (52, [true]), (61, [true]), (70, [true]), (78, [false])] jcX4_init 3 rfl h
set_option maxRecDepth 100000 in
theorem gX4_init_4 (d : Nat) (p0 : Int) (m : jM) (Q : Int → jM → Prop)
    (h : aX4_init_9 d p0 (jUp m p0 0 0) Q) :
    aX4_init_4 d p0 m Q := jWp_snd [(4, [true]), (9, [true]), (14, [true]), (22, [true]), (27, [true]), (35, [true]), (43, [true]), (52, [true]), (61, [true]), (70, [true]), (78, [false])] jcX4_init 4 rfl h
set_option maxRecDepth 100000 in
theorem gX4_init_9 (d : Nat) (p0 : Int) (m : jM) (Q : Int → jM → Prop)
    (h : aX4_init_14 d p0 (jUp m p0 1 0) Q) :
    aX4_init_9 d p0 m Q := jWp_snd [(4, [true]), (9, [true]), (14, [true]), (22, [true]), (27, [true]), (35, [true]), (43, [true]), (52, [true]), (61, [true]), (70, [true]), (78, [false])] jcX4_init 4 rfl h
set_option maxRecDepth 100000 in
theorem gX4_init_14 (d : Nat) (p0 : Int) (m : jM) (Q : Int → jM → Prop)
    (h : (m (-3) 0 < m (-3) 1 ∧ jKd (m (-3) 0) = 20 ∧ jLn (m (-3) 0) = 8) ∧ (m (-3) 0) = (p0 + 1) ∧ aX4_init_22 d p0 (jUp (jNw m) p0 2 (m (-3) 0)) Q) :
    aX4_init_14 d p0 m Q := jWp_snd [(4, [true]), (9, [true]), (14, [true]), (22, [true]), (27, [true]), (35, [true]), (43, [true]), (52, [true]), (61, [true]), (70, [true]), (78, [false])] jcX4_init 5 rfl h
set_option maxRecDepth 100000 in
theorem gX4_init_22 (d : Nat) (p0 : Int) (m : jM) (Q : Int → jM → Prop)
    (h : aX4_init_27 d p0 (jUp m p0 3 0) Q) :
    aX4_init_22 d p0 m Q := jWp_snd [(4, [true]), (9, [true]), (14, [true]), (22, [true]), (27, [true]), (35, [true]), (43, [true]), (52, [true]), (61, [true]), (70, [true]), (78, [false])] jcX4_init 4 rfl h
set_option maxRecDepth 100000 in
theorem gX4_init_27 (d : Nat) (p0 : Int) (m : jM) (Q : Int → jM → Prop)
    (h : (m (-3) 0 < m (-3) 1 ∧ jKd (m (-3) 0) = 21 ∧ jLn (m (-3) 0) = 64) ∧ (m (-3) 0) = (p0 + 2) ∧ aX4_init_35 d p0 (jUp (jNw m) p0 4 (m (-3) 0)) Q) :
    aX4_init_27 d p0 m Q := jWp_snd [(4, [true]), (9, [true]), (14, [true]), (22, [true]), (27, [true]), (35, [true]), (43, [true]), (52, [true]), (61, [true]), (70, [true]), (78, [false])] jcX4_init 5 rfl h
set_option maxRecDepth 100000 in
theorem gX4_init_35 (d : Nat) (p0 : Int) (m : jM) (Q : Int → jM → Prop)
    (h : (m (-3) 0 < m (-3) 1 ∧ jKd (m (-3) 0) = 20 ∧ jLn (m (-3) 0) = 8) ∧ (m (-3) 0) = (p0 + 3) ∧ aX4_init_43 d p0 (jUp (jNw m) p0 5 (m (-3) 0)) Q) :
    aX4_init_35 d p0 m Q := jWp_snd [(4, [true]), (9, [true]), (14, [true]), (22, [true]), (27, [true]), (35, [true]), (43, [true]), (52, [true]), (61, [true]), (70, [true]), (78, [false])] jcX4_init 5 rfl h
set_option maxRecDepth 100000 in
theorem gX4_init_43 (d : Nat) (p0 : Int) (m : jM) (Q : Int → jM → Prop)
    (h : (m (-3) 0 < m (-3) 1 ∧ jKd (m (-3) 0) = 21 ∧ jLn (m (-3) 0) = 256) ∧ (m (-3) 0) = (p0 + 4) ∧ aX4_init_52 d p0 (jUp (jNw m) p0 6 (m (-3) 0)) Q) :
    aX4_init_43 d p0 m Q := jWp_snd [(4, [true]), (9, [true]), (14, [true]), (22, [true]), (27, [true]), (35, [true]), (43, [true]), (52, [true]), (61, [true]), (70, [true]), (78, [false])] jcX4_init 5 rfl h
set_option maxRecDepth 100000 in
theorem gX4_init_52 (d : Nat) (p0 : Int) (m : jM) (Q : Int → jM → Prop)
    (h : (m (-3) 0 < m (-3) 1 ∧ jKd (m (-3) 0) = 20 ∧ jLn (m (-3) 0) = 256) ∧ (m (-3) 0) = (p0 + 5) ∧ aX4_init_61 d p0 (jUp (jNw m) p0 7 (m (-3) 0)) Q) :
    aX4_init_52 d p0 m Q := jWp_snd [(4, [true]), (9, [true]), (14, [true]), (22, [true]), (27, [true]), (35, [true]), (43, [true]), (52, [true]), (61, [true]), (70, [true]), (78, [false])] jcX4_init 5 rfl h
set_option maxRecDepth 100000 in
theorem gX4_init_61 (d : Nat) (p0 : Int) (m : jM) (Q : Int → jM → Prop)
    (h : (m (-3) 0 < m (-3) 1 ∧ jKd (m (-3) 0) = 20 ∧ jLn (m (-3) 0) = 256) ∧ (m (-3) 0) = (p0 + 6) ∧ aX4_init_70 d p0 (jUp (jNw m) p0 8 (m (-3) 0)) Q) :
    aX4_init_61 d p0 m Q := jWp_snd [(4, [true]), (9, [true]), (14, [true]), (22, [true]), (27, [true]), (35, [true]), (43, [true]), (52, [true]), (61, [true]), (70, [true]), (78, [false])] jcX4_init 5 rfl h
set_option maxRecDepth 100000 in
theorem gX4_init_70 (d : Nat) (p0 : Int) (m : jM) (Q : Int → jM → Prop)
    (h : (m (-3) 0 < m (-3) 1 ∧ jKd (m (-3) 0) = 20 ∧ jLn (m (-3) 0) = 64) ∧ (m (-3) 0) = (p0 + 7) ∧ aX4_init_78 d  (jUp (jNw m) p0 9 (m (-3) 0)) Q) :
    aX4_init_70 d p0 m Q := jWp_snd [(4, [true]), (9, [true]), (14, [true]), (22, [true]), (27, [true]), (35, [true]), (43, [true]), (52, [true]), (61, [true]), (70, [true]), (78, [false])] jcX4_init 5 rfl h
set_option maxRecDepth 100000 in
theorem gX4_init_78 (d : Nat) (m : jM) (Q : Int → jM → Prop)
    (h : m (-3) 0 = m (-3) 1 ∧ Q 0 m) :
    aX4_init_78 d  m Q := jWp_snd [(4, [true]), (9, [true]), (14, [true]), (22, [true]), (27, [true]), (35, [true]), (43, [true]), (52, [true]), (61, [true]), (70, [true]), (78, [false])] jcX4_init 2 rfl h
def aX4_load_10 (d : Nat) (x3 : Int) (m : jM) (Q : Int → jM → Prop) : Prop := jA (d + 1) zX4_load 10 [some (jO 4 54), some (jO 0 1), some (jO 9 51), some (jI x3)] [] m Q
set_option maxRecDepth 100000 in
theorem gX4_load (d : Nat) (m : jM) (Q : Int → jM → Prop)
    (h : aX4_load_10 d 0 (jUp m 54 0 (m 1 1)) Q) :
    jK (d + 1) zX4_load [jO 4 54, jO 0 1, jO 9 51] m Q := jWp_sn0 [(10, [true, true, true, true])] jcX4_load 7 rfl h
set_option maxRecDepth 100000 in
theorem gX4_load_10 (d : Nat) (x3 : Int) (m : jM) (Q : Int → jM → Prop)
    (h : (x3 < 64 → jK d zX0_isIn [jO 0 1, jI x3] m (fun v1 m1 => (v1 = 0 → ((0 : Int) ≤ x3 ∧ (x3 : Int) < 64) ∧ aX4_load_10 d (w32 (x3 + 1)) (jUp m1 56 x3 (-4611686018427387904)) Q) ∧ (¬ v1 = 0 → jK d zX9_burdenOf [jO 9 51, jO 0 1, jI x3] m1 (fun v2 m2 => ((0 : Int) ≤ x3 ∧ (x3 : Int) < 64) ∧ aX4_load_10 d (w32 (x3 + 1)) (jUp m2 56 x3 v2) Q)))) ∧ (¬ x3 < 64 → jK d zX4_openBy [jO 4 54, jY 0 64 4] m (fun v3 m3 => Q 0 m3))) :
    aX4_load_10 d x3 m Q := jWp_snd [(10, [true, true, true, true])] jcX4_load 19 rfl h
set_option maxRecDepth 100000 in
theorem gX4_take (d : Nat) (p0 : Int) (m : jM) (Q : Int → jM → Prop)
    (h : ((0 : Int) ≤ 0 ∧ (0 : Int) ≤ 0 ∧ (0 : Int) ≤ 64 ∧ (0 : Int) + 64 ≤ 64 ∧ (0 : Int) + 64 ≤ 64) ∧ ((0 : Int) ≤ 0 ∧ (0 : Int) ≤ 0 ∧ (0 : Int) ≤ 8 ∧ (0 : Int) + 8 ≤ 8 ∧ (0 : Int) + 8 ≤ 8) ∧ Q 0 (jCp (jCp (jUp m p0 0 (m 54 0)) 56 0 (p0 + 2) 0 64) 57 0 (p0 + 3) 0 8)) :
    jK (d + 1) zX4_take [jO 4 p0, jO 4 54] m Q := jWp_sn0 [] jcX4_take 22 rfl h
def aX4_openBy_10 (d : Nat) (p0 n1 y1 x2 : Int) (m : jM) (Q : Int → jM → Prop) : Prop := jA (d + 1) zX4_openBy 10 [some (jO 4 p0), some (jY 0 n1 y1), some (jI x2)] [] m Q
def aX4_openBy_62 (d : Nat) (p0 n1 y1 x2 : Int) (m : jM) (Q : Int → jM → Prop) : Prop := jA (d + 1) zX4_openBy 62 [some (jO 4 p0), some (jY 0 n1 y1), some (jI x2)] [] m Q
set_option maxRecDepth 100000 in
theorem gX4_openBy (d : Nat) (p0 n1 y1 : Int) (m : jM) (Q : Int → jM → Prop)
    (h : jK d zJ7_fill_53178 [jY 0 8 (p0 + 3), jI 0] m (fun v1 m1 => aX4_openBy_10 d p0 n1 y1 0 m1 Q)) :
    jK (d + 1) zX4_openBy [jO 4 p0, jY 0 n1 y1] m Q := jWp_sn0 [(10, [true, true, true]), (62, [true, true, true])] jcX4_openBy 7 rfl h
set_option maxRecDepth 100000 in
theorem gX4_openBy_10 (d : Nat) (p0 n1 y1 x2 : Int) (m : jM) (Q : Int → jM → Prop)
    (h : (x2 < 64 → ((0 : Int) ≤ x2 ∧ (x2 : Int) < 64) ∧ ((m (p0 + 2) x2) = (-4611686018427387904) → aX4_openBy_10 d p0 n1 y1 (w32 (x2 + 1)) m Q) ∧ (¬ (m (p0 + 2) x2) = (-4611686018427387904) → ((0 : Int) ≤ x2 ∧ (x2 : Int) < n1) ∧ ((m y1 x2) = 1 → aX4_openBy_10 d p0 n1 y1 (w32 (x2 + 1)) m Q) ∧ (¬ (m y1 x2) = 1 → (8 : Int) ≠ 0 ∧ ((0 : Int) ≤ (iRem x2 8) ∧ ((iRem x2 8) : Int) < 8) ∧ (8 : Int) ≠ 0 ∧ ((0 : Int) ≤ (iRem x2 8) ∧ ((iRem x2 8) : Int) < 8) ∧ aX4_openBy_10 d p0 n1 y1 (w32 (x2 + 1)) (jUp m (p0 + 3) (iRem x2 8) (iOr (m (p0 + 3) (iRem x2 8)) (iShl 1 (iDiv x2 8)))) Q))) ∧ (¬ x2 < 64 → aX4_openBy_62 d p0 n1 y1 0 m Q)) :
    aX4_openBy_10 d p0 n1 y1 x2 m Q := jWp_snd [(10, [true, true, true]), (62, [true, true, true])] jcX4_openBy 31 rfl h
set_option maxRecDepth 100000 in
theorem gX4_openBy_62 (d : Nat) (p0 n1 y1 x2 : Int) (m : jM) (Q : Int → jM → Prop)
    (h : (x2 < 64 → ((0 : Int) ≤ x2 ∧ (x2 : Int) < n1) ∧ ((m y1 x2) = 2 → (8 : Int) ≠ 0 ∧ (8 : Int) ≠ 0 ∧ jK d zX4_force [jO 4 p0, jI (iShl 1 (iDiv x2 8)), jI (iRem x2 8)] m (fun v1 m1 => aX4_openBy_62 d p0 n1 y1 (w32 (x2 + 1)) m1 Q)) ∧ (¬ (m y1 x2) = 2 → aX4_openBy_62 d p0 n1 y1 (w32 (x2 + 1)) m Q)) ∧ (¬ x2 < 64 → Q 0 m)) :
    aX4_openBy_62 d p0 n1 y1 x2 m Q := jWp_snd [(10, [true, true, true]), (62, [true, true, true])] jcX4_openBy 21 rfl h
def aX4_force_2 (d : Nat) (p0 x1 x2 x3 : Int) (m : jM) (Q : Int → jM → Prop) : Prop := jA (d + 1) zX4_force 2 [some (jO 4 p0), some (jI x1), some (jI x2), some (jI x3)] [] m Q
set_option maxRecDepth 100000 in
theorem gX4_force (d : Nat) (p0 x1 x2 : Int) (m : jM) (Q : Int → jM → Prop)
    (h : aX4_force_2 d p0 x1 x2 0 m Q) :
    jK (d + 1) zX4_force [jO 4 p0, jI x1, jI x2] m Q := jWp_sn0 [(2, [true, true, true, true])] jcX4_force 3 rfl h
set_option maxRecDepth 100000 in
theorem gX4_force_2 (d : Nat) (p0 x1 x2 x3 : Int) (m : jM) (Q : Int → jM → Prop)
    (h : (x3 < 8 → ((0 : Int) ≤ x3 ∧ (x3 : Int) < 8) ∧ (x3 = x2 → ((0 : Int) ≤ x3 ∧ (x3 : Int) < 8) ∧ aX4_force_2 d p0 x1 x2 (w32 (x3 + 1)) (jUp m (p0 + 3) x3 (iAnd (m (p0 + 3) x3) x1)) Q) ∧ (¬ x3 = x2 → ((0 : Int) ≤ x3 ∧ (x3 : Int) < 8) ∧ aX4_force_2 d p0 x1 x2 (w32 (x3 + 1)) (jUp m (p0 + 3) x3 (iAnd (m (p0 + 3) x3) (iXor x1 (-1)))) Q)) ∧ (¬ x3 < 8 → Q 0 m)) :
    aX4_force_2 d p0 x1 x2 x3 m Q := jWp_snd [(2, [true, true, true, true])] jcX4_force 19 rfl h
set_option maxRecDepth 100000 in
theorem gX4_isOpen (d : Nat) (p0 x1 x2 : Int) (m : jM) (Q : Int → jM → Prop)
    (h : ((0 : Int) ≤ x2 ∧ (x2 : Int) < 8) ∧ ((iAnd (iShr (m (p0 + 3) x2) x1) 1) = 1 → Q 1 m) ∧ (¬ (iAnd (iShr (m (p0 + 3) x2) x1) 1) = 1 → Q 0 m)) :
    jK (d + 1) zX4_isOpen [jO 4 p0, jI x1, jI x2] m Q := jWp_sn0 [] jcX4_isOpen 14 rfl h
def aX4_openPairs_4 (d : Nat) (p0 x1 x2 : Int) (m : jM) (Q : Int → jM → Prop) : Prop := jA (d + 1) zX4_openPairs 4 [some (jO 4 p0), some (jI x1), some (jI x2)] [] m Q
set_option maxRecDepth 100000 in
theorem gX4_openPairs (d : Nat) (p0 : Int) (m : jM) (Q : Int → jM → Prop)
    (h : aX4_openPairs_4 d p0 0 0 m Q) :
    jK (d + 1) zX4_openPairs [jO 4 p0] m Q := jWp_sn0 [(4, [true, true, true])] jcX4_openPairs 5 rfl h
set_option maxRecDepth 100000 in
theorem gX4_openPairs_4 (d : Nat) (p0 x1 x2 : Int) (m : jM) (Q : Int → jM → Prop)
    (h : (x2 < 8 → ((0 : Int) ≤ x2 ∧ (x2 : Int) < 8) ∧ jK d zJ6_bitCount_0f7a4 [jI (m (p0 + 3) x2)] m (fun v1 m1 => aX4_openPairs_4 d p0 (w32 (x1 + v1)) (w32 (x2 + 1)) m1 Q)) ∧ (¬ x2 < 8 → Q x1 m)) :
    aX4_openPairs_4 d p0 x1 x2 m Q := jWp_snd [(4, [true, true, true])] jcX4_openPairs 14 rfl h
def aX4_closeJudge_2 (d : Nat) (p0 x1 x2 : Int) (m : jM) (Q : Int → jM → Prop) : Prop := jA (d + 1) zX4_closeJudge 2 [some (jO 4 p0), some (jI x1), some (jI x2)] [] m Q
set_option maxRecDepth 100000 in
theorem gX4_closeJudge (d : Nat) (p0 x1 : Int) (m : jM) (Q : Int → jM → Prop)
    (h : aX4_closeJudge_2 d p0 x1 0 m Q) :
    jK (d + 1) zX4_closeJudge [jO 4 p0, jI x1] m Q := jWp_sn0 [(2, [true, true, true])] jcX4_closeJudge 3 rfl h
set_option maxRecDepth 100000 in
theorem gX4_closeJudge_2 (d : Nat) (p0 x1 x2 : Int) (m : jM) (Q : Int → jM → Prop)
    (h : (x2 < 8 → ((0 : Int) ≤ x2 ∧ (x2 : Int) < 8) ∧ ((0 : Int) ≤ x2 ∧ (x2 : Int) < 8) ∧ aX4_closeJudge_2 d p0 x1 (w32 (x2 + 1)) (jUp m (p0 + 3) x2 (iAnd (m (p0 + 3) x2) (iXor (iShl 1 x1) (-1)))) Q) ∧ (¬ x2 < 8 → Q 0 m)) :
    aX4_closeJudge_2 d p0 x1 x2 m Q := jWp_snd [(2, [true, true, true])] jcX4_closeJudge 18 rfl h
def aX4_closeHeavier_2 (d : Nat) (p0 x1 x3 : Int) (m : jM) (Q : Int → jM → Prop) : Prop := jA (d + 1) zX4_closeHeavier 2 [some (jO 4 p0), some (jL x1), none, some (jI x3)] [] m Q
set_option maxRecDepth 100000 in
theorem gX4_closeHeavier (d : Nat) (p0 x1 : Int) (m : jM) (Q : Int → jM → Prop)
    (h : aX4_closeHeavier_2 d p0 x1 0 m Q) :
    jK (d + 1) zX4_closeHeavier [jO 4 p0, jL x1] m Q := jWp_sn0 [(2, [true, true, false, true])] jcX4_closeHeavier 3 rfl h
set_option maxRecDepth 100000 in
theorem gX4_closeHeavier_2 (d : Nat) (p0 x1 x3 : Int) (m : jM) (Q : Int → jM → Prop)
    (h : (x3 < 64 → ((0 : Int) ≤ x3 ∧ (x3 : Int) < 64) ∧ (x1 < (m (p0 + 2) x3) → (8 : Int) ≠ 0 ∧ ((0 : Int) ≤ (iRem x3 8) ∧ ((iRem x3 8) : Int) < 8) ∧ (8 : Int) ≠ 0 ∧ ((0 : Int) ≤ (iRem x3 8) ∧ ((iRem x3 8) : Int) < 8) ∧ aX4_closeHeavier_2 d p0 x1 (w32 (x3 + 1)) (jUp m (p0 + 3) (iRem x3 8) (iAnd (m (p0 + 3) (iRem x3 8)) (iXor (iShl 1 (iDiv x3 8)) (-1)))) Q) ∧ (¬ x1 < (m (p0 + 2) x3) → aX4_closeHeavier_2 d p0 x1 (w32 (x3 + 1)) m Q)) ∧ (¬ x3 < 64 → Q 0 m)) :
    aX4_closeHeavier_2 d p0 x1 x3 m Q := jWp_snd [(2, [true, true, false, true])] jcX4_closeHeavier 28 rfl h
def aX4_heavierThan_5 (d : Nat) (p0 x1 x3 x4 : Int) (m : jM) (Q : Int → jM → Prop) : Prop := jA (d + 1) zX4_heavierThan 5 [some (jO 4 p0), some (jL x1), none, some (jI x3), some (jI x4)] [] m Q
set_option maxRecDepth 100000 in
theorem gX4_heavierThan (d : Nat) (p0 x1 : Int) (m : jM) (Q : Int → jM → Prop)
    (h : aX4_heavierThan_5 d p0 x1 0 0 m Q) :
    jK (d + 1) zX4_heavierThan [jO 4 p0, jL x1] m Q := jWp_sn0 [(5, [true, true, false, true, true])] jcX4_heavierThan 5 rfl h
set_option maxRecDepth 100000 in
theorem gX4_heavierThan_5 (d : Nat) (p0 x1 x3 x4 : Int) (m : jM) (Q : Int → jM → Prop)
    (h : (x4 < 64 → (8 : Int) ≠ 0 ∧ (8 : Int) ≠ 0 ∧ jK d zX4_isOpen [jO 4 p0, jI (iDiv x4 8), jI (iRem x4 8)] m (fun v1 m1 => (v1 = 0 → aX4_heavierThan_5 d p0 x1 (w32 (x3 + 0)) (w32 (x4 + 1)) m1 Q) ∧ (¬ v1 = 0 → ((0 : Int) ≤ x4 ∧ (x4 : Int) < 64) ∧ (x1 < (m1 (p0 + 2) x4) → aX4_heavierThan_5 d p0 x1 (w32 (x3 + 1)) (w32 (x4 + 1)) m1 Q) ∧ (¬ x1 < (m1 (p0 + 2) x4) → aX4_heavierThan_5 d p0 x1 (w32 (x3 + 0)) (w32 (x4 + 1)) m1 Q)))) ∧ (¬ x4 < 64 → Q x3 m)) :
    aX4_heavierThan_5 d p0 x1 x3 x4 m Q := jWp_snd [(5, [true, true, false, true, true])] jcX4_heavierThan 26 rfl h
def aX4_weigh_8 (d : Nat) (p0 x1 x2 : Int) (m : jM) (Q : Int → jM → Prop) : Prop := jA (d + 1) zX4_weigh 8 [some (jO 4 p0), some (jI x1), some (jI x2), none] [] m Q
set_option maxRecDepth 100000 in
theorem gX4_weigh (d : Nat) (p0 x1 : Int) (m : jM) (Q : Int → jM → Prop)
    (h : jK d zX4_listCases [jO 4 p0] m (fun v1 m1 => aX4_weigh_8 d p0 x1 255 m1 Q)) :
    jK (d + 1) zX4_weigh [jO 4 p0, jI x1] m Q := jWp_sn0 [(8, [true, true, true, false])] jcX4_weigh 5 rfl h
set_option maxRecDepth 100000 in
theorem gX4_weigh_8 (d : Nat) (p0 x1 x2 : Int) (m : jM) (Q : Int → jM → Prop)
    (h : (x2 < 0 → Q 0 m) ∧ (¬ x2 < 0 → jK d zX4_canTake [jO 4 p0, jI x2] m (fun v1 m1 => (v1 = 0 → aX4_weigh_8 d p0 x1 (w32 (x2 + (-1))) m1 Q) ∧ (¬ v1 = 0 → jK d zJ6_bitCount_0f7a4 [jI x2] m1 (fun v2 m2 => (v2 < (m2 p0 1) → ((0 : Int) ≤ v2 ∧ (v2 : Int) < 8) ∧ jK d zX4_weighFrom [jO 4 p0, jI x2, jI (m2 (p0 + 1) v2), jI x1] m2 (fun v3 m3 => aX4_weigh_8 d p0 x1 (w32 (x2 + (-1))) m3 Q)) ∧ (¬ v2 < (m2 p0 1) → ((0 : Int) ≤ x2 ∧ (x2 : Int) < 256) ∧ ((0 : Int) ≤ x2 ∧ (x2 : Int) < 256) ∧ aX4_weigh_8 d p0 x1 (w32 (x2 + (-1))) (jUp (jUp m2 (p0 + 4) x2 0) (p0 + 5) x2 1) Q)))))) :
    aX4_weigh_8 d p0 x1 x2 m Q := jWp_snd [(8, [true, true, true, false])] jcX4_weigh 26 rfl h
def aX4_listCases_12 (d : Nat) (p0 x1 : Int) (m : jM) (Q : Int → jM → Prop) : Prop := jA (d + 1) zX4_listCases 12 [some (jO 4 p0), some (jI x1)] [] m Q
set_option maxRecDepth 100000 in
theorem gX4_listCases (d : Nat) (p0 : Int) (m : jM) (Q : Int → jM → Prop)
    (h : aX4_listCases_12 d p0 0 (jUp (jUp m p0 1 0) p0 3 0) Q) :
    jK (d + 1) zX4_listCases [jO 4 p0] m Q := jWp_sn0 [(12, [true, true])] jcX4_listCases 9 rfl h
set_option maxRecDepth 100000 in
theorem gX4_listCases_12 (d : Nat) (p0 x1 : Int) (m : jM) (Q : Int → jM → Prop)
    (h : (x1 < 8 → ((iAnd (iShr (m p0 0) x1) 1) = 1 → ((0 : Int) ≤ (m p0 1) ∧ ((m p0 1) : Int) < 8) ∧ ((0 : Int) ≤ x1 ∧ (x1 : Int) < 8) ∧ aX4_listCases_12 d p0 (w32 (x1 + 1)) (jUp (jUp (jUp m (p0 + 1) (m p0 1) x1) p0 1 (w32 (((jUp m (p0 + 1) (m p0 1) x1) p0 1) + 1))) p0 3 (iOr ((jUp (jUp m (p0 + 1) (m p0 1) x1) p0 1 (w32 (((jUp m (p0 + 1) (m p0 1) x1) p0 1) + 1))) p0 3) ((jUp (jUp m (p0 + 1) (m p0 1) x1) p0 1 (w32 (((jUp m (p0 + 1) (m p0 1) x1) p0 1) + 1))) (p0 + 3) x1))) Q) ∧ (¬ (iAnd (iShr (m p0 0) x1) 1) = 1 → aX4_listCases_12 d p0 (w32 (x1 + 1)) m Q)) ∧ (¬ x1 < 8 → Q 0 m)) :
    aX4_listCases_12 d p0 x1 m Q := jWp_snd [(12, [true, true])] jcX4_listCases 35 rfl h
set_option maxRecDepth 100000 in
theorem gX4_canTake (d : Nat) (p0 x1 : Int) (m : jM) (Q : Int → jM → Prop)
    (h : ((iAnd x1 (iXor (m p0 3) (-1))) = 0 → Q 1 m) ∧ (¬ (iAnd x1 (iXor (m p0 3) (-1))) = 0 → Q 0 m)) :
    jK (d + 1) zX4_canTake [jO 4 p0, jI x1] m Q := jWp_sn0 [] jcX4_canTake 11 rfl h
def aX4_weighFrom_23 (d : Nat) (p0 x1 x2 x3 x4 x6 x7 x8 : Int) (m : jM) (Q : Int → jM → Prop) : Prop := jA (d + 1) zX4_weighFrom 23 [some (jO 4 p0), some (jI x1), some (jI x2), some (jI x3), some (jL x4), none, some (jI x6), some (jI x7), some (jI x8), none, none, none, none, none, none, none] [] m Q
def aX4_weighFrom_131 (d : Nat) (p0 x1 x2 x3 x4 x6 x7 x8 x9 x14 : Int) (m : jM) (Q : Int → jM → Prop) : Prop := jA (d + 1) zX4_weighFrom 131 [some (jO 4 p0), some (jI x1), some (jI x2), some (jI x3), some (jL x4), none, some (jI x6), some (jI x7), some (jI x8), some (jI x9), none, none, none, none, some (jL x14), none] [] m Q
set_option maxRecDepth 100000 in
theorem gX4_weighFrom (d : Nat) (p0 x1 x2 x3 : Int) (m : jM) (Q : Int → jM → Prop)
    (h : ((0 : Int) ≤ x2 ∧ (x2 : Int) < 8) ∧ aX4_weighFrom_23 d p0 x1 x2 x3 (-4611686018427387904) 0 (iAnd (m (p0 + 3) x2) (iXor x1 (-1))) 0 m Q) :
    jK (d + 1) zX4_weighFrom [jO 4 p0, jI x1, jI x2, jI x3] m Q := jWp_sn0 [(23, [true, true, true, true, true, false, true, true, true, false, false, false, false, false, false, false]), (131, [true, true, true, true, true, false, true, true, true, true, false, false, false, false, true, false])] jcX4_weighFrom 16 rfl h
set_option maxRecDepth 100000 in
theorem gX4_weighFrom_23 (d : Nat) (p0 x1 x2 x3 x4 x6 x7 x8 : Int) (m : jM) (Q : Int → jM → Prop)
    (h : (x8 < 8 → ((iAnd (iShr x7 x8) 1) = 0 → aX4_weighFrom_23 d p0 x1 x2 x3 x4 x6 x7 (w32 (x8 + 1)) m Q) ∧ (¬ (iAnd (iShr x7 x8) 1) = 0 → ((0 : Int) ≤ (iOr x1 (iShl 1 x8)) ∧ ((iOr x1 (iShl 1 x8)) : Int) < 256) ∧ ((m (p0 + 4) (iOr x1 (iShl 1 x8))) = (-4611686018427387904) → aX4_weighFrom_23 d p0 x1 x2 x3 x4 x6 x7 (w32 (x8 + 1)) m Q) ∧ (¬ (m (p0 + 4) (iOr x1 (iShl 1 x8))) = (-4611686018427387904) → ((0 : Int) ≤ (w32 ((w32 (x8 * 8)) + x2)) ∧ ((w32 ((w32 (x8 * 8)) + x2)) : Int) < 64) ∧ (x3 = 0 → (x4 = (-4611686018427387904) → aX4_weighFrom_131 d p0 x1 x2 x3 (w64 ((m (p0 + 2) (w32 ((w32 (x8 * 8)) + x2))) + (m (p0 + 4) (iOr x1 (iShl 1 x8))))) 0 x7 x8 (iOr x1 (iShl 1 x8)) (w64 ((m (p0 + 2) (w32 ((w32 (x8 * 8)) + x2))) + (m (p0 + 4) (iOr x1 (iShl 1 x8))))) m Q) ∧ (¬ x4 = (-4611686018427387904) → ((w64 ((m (p0 + 2) (w32 ((w32 (x8 * 8)) + x2))) + (m (p0 + 4) (iOr x1 (iShl 1 x8))))) < x4 → aX4_weighFrom_131 d p0 x1 x2 x3 (w64 ((m (p0 + 2) (w32 ((w32 (x8 * 8)) + x2))) + (m (p0 + 4) (iOr x1 (iShl 1 x8))))) 0 x7 x8 (iOr x1 (iShl 1 x8)) (w64 ((m (p0 + 2) (w32 ((w32 (x8 * 8)) + x2))) + (m (p0 + 4) (iOr x1 (iShl 1 x8))))) m Q) ∧ (¬ (w64 ((m (p0 + 2) (w32 ((w32 (x8 * 8)) + x2))) + (m (p0 + 4) (iOr x1 (iShl 1 x8))))) < x4 → aX4_weighFrom_131 d p0 x1 x2 x3 x4 x6 x7 x8 (iOr x1 (iShl 1 x8)) (w64 ((m (p0 + 2) (w32 ((w32 (x8 * 8)) + x2))) + (m (p0 + 4) (iOr x1 (iShl 1 x8))))) m Q))) ∧ (¬ x3 = 0 → jK d zJ9_max_f86c9 [jL (m (p0 + 2) (w32 ((w32 (x8 * 8)) + x2))), jL (m (p0 + 4) (iOr x1 (iShl 1 x8)))] m (fun v1 m1 => (x4 = (-4611686018427387904) → aX4_weighFrom_131 d p0 x1 x2 x3 v1 0 x7 x8 (iOr x1 (iShl 1 x8)) v1 m1 Q) ∧ (¬ x4 = (-4611686018427387904) → (v1 < x4 → aX4_weighFrom_131 d p0 x1 x2 x3 v1 0 x7 x8 (iOr x1 (iShl 1 x8)) v1 m1 Q) ∧ (¬ v1 < x4 → aX4_weighFrom_131 d p0 x1 x2 x3 x4 x6 x7 x8 (iOr x1 (iShl 1 x8)) v1 m1 Q))))))) ∧ (¬ x8 < 8 → ((0 : Int) ≤ x1 ∧ (x1 : Int) < 256) ∧ ((0 : Int) ≤ x1 ∧ (x1 : Int) < 256) ∧ Q 0 (jUp (jUp m (p0 + 4) x1 x4) (p0 + 5) x1 x6))) :
    aX4_weighFrom_23 d p0 x1 x2 x3 x4 x6 x7 x8 m Q := jWp_snd [(23, [true, true, true, true, true, false, true, true, true, false, false, false, false, false, false, false]), (131, [true, true, true, true, true, false, true, true, true, true, false, false, false, false, true, false])] jcX4_weighFrom 50 rfl h
set_option maxRecDepth 100000 in
theorem gX4_weighFrom_131 (d : Nat) (p0 x1 x2 x3 x4 x6 x7 x8 x9 x14 : Int) (m : jM) (Q : Int → jM → Prop)
    (h : (x14 = x4 → ((0 : Int) ≤ x9 ∧ (x9 : Int) < 256) ∧ aX4_weighFrom_23 d p0 x1 x2 x3 x4 (w32 (x6 + (m (p0 + 5) x9))) x7 (w32 (x8 + 1)) m Q) ∧ (¬ x14 = x4 → aX4_weighFrom_23 d p0 x1 x2 x3 x4 (w32 (x6 + 0)) x7 (w32 (x8 + 1)) m Q)) :
    aX4_weighFrom_131 d p0 x1 x2 x3 x4 x6 x7 x8 x9 x14 m Q := jWp_snd [(23, [true, true, true, true, true, false, true, true, true, false, false, false, false, false, false, false]), (131, [true, true, true, true, true, false, true, true, true, true, false, false, false, false, true, false])] jcX4_weighFrom 14 rfl h
set_option maxRecDepth 100000 in
theorem gX4_leads (d : Nat) (p0 x1 x2 x3 : Int) (m : jM) (Q : Int → jM → Prop)
    (h : ((0 : Int) ≤ x3 ∧ (x3 : Int) < 8) ∧ ((iAnd (iAnd (m (p0 + 3) x3) (iXor x1 (-1))) (iShl 1 x2)) = 0 → Q 0 m) ∧ (¬ (iAnd (iAnd (m (p0 + 3) x3) (iXor x1 (-1))) (iShl 1 x2)) = 0 → ((0 : Int) ≤ (iOr x1 (iShl 1 x2)) ∧ ((iOr x1 (iShl 1 x2)) : Int) < 256) ∧ ((m (p0 + 4) (iOr x1 (iShl 1 x2))) = (-4611686018427387904) → Q 0 m) ∧ (¬ (m (p0 + 4) (iOr x1 (iShl 1 x2))) = (-4611686018427387904) → ((0 : Int) ≤ (w32 ((w32 (x2 * 8)) + x3)) ∧ ((w32 ((w32 (x2 * 8)) + x3)) : Int) < 64) ∧ ((0 : Int) ≤ (iOr x1 (iShl 1 x2)) ∧ ((iOr x1 (iShl 1 x2)) : Int) < 256) ∧ ((0 : Int) ≤ x1 ∧ (x1 : Int) < 256) ∧ ((w64 ((m (p0 + 2) (w32 ((w32 (x2 * 8)) + x3))) + (m (p0 + 4) (iOr x1 (iShl 1 x2))))) = (m (p0 + 4) x1) → Q 1 m) ∧ (¬ (w64 ((m (p0 + 2) (w32 ((w32 (x2 * 8)) + x3))) + (m (p0 + 4) (iOr x1 (iShl 1 x2))))) = (m (p0 + 4) x1) → Q 0 m)))) :
    jK (d + 1) zX4_leads [jO 4 p0, jI x1, jI x2, jI x3] m Q := jWp_sn0 [] jcX4_leads 47 rfl h
def aX4_pick_13 (d : Nat) (p0 n2 y2 x3 x4 x5 : Int) (m : jM) (Q : Int → jM → Prop) : Prop := jA (d + 1) zX4_pick 13 [some (jO 4 p0), none, some (jY 0 n2 y2), some (jI x3), some (jI x4), some (jI x5), none, none, none] [] m Q
def aX4_pick_34 (d : Nat) (p0 n2 y2 x3 x4 x5 x6 x7 : Int) (m : jM) (Q : Int → jM → Prop) : Prop := jA (d + 1) zX4_pick 34 [some (jO 4 p0), none, some (jY 0 n2 y2), some (jI x3), some (jI x4), some (jI x5), some (jI x6), some (jI x7), none] [] m Q
set_option maxRecDepth 100000 in
theorem gX4_pick (d : Nat) (p0 x1 n2 y2 : Int) (m : jM) (Q : Int → jM → Prop)
    (h : jK d zJ7_fill_53178 [jY 0 n2 y2, jI (-1)] m (fun v1 m1 => aX4_pick_13 d p0 n2 y2 0 x1 0 m1 Q)) :
    jK (d + 1) zX4_pick [jO 4 p0, jI x1, jY 0 n2 y2] m Q := jWp_sn0 [(13, [true, false, true, true, true, true, false, false, false]), (34, [true, false, true, true, true, true, true, true, false])] jcX4_pick 10 rfl h
set_option maxRecDepth 100000 in
theorem gX4_pick_13 (d : Nat) (p0 n2 y2 x3 x4 x5 : Int) (m : jM) (Q : Int → jM → Prop)
    (h : (x5 < (m p0 1) → ((0 : Int) ≤ x5 ∧ (x5 : Int) < 8) ∧ aX4_pick_34 d p0 n2 y2 x3 x4 x5 (m (p0 + 1) x5) 0 m Q) ∧ (¬ x5 < (m p0 1) → Q 0 m)) :
    aX4_pick_13 d p0 n2 y2 x3 x4 x5 m Q := jWp_snd [(13, [true, false, true, true, true, true, false, false, false]), (34, [true, false, true, true, true, true, true, true, false])] jcX4_pick 12 rfl h
set_option maxRecDepth 100000 in
theorem gX4_pick_34 (d : Nat) (p0 n2 y2 x3 x4 x5 x6 x7 : Int) (m : jM) (Q : Int → jM → Prop)
    (h : (x7 < 8 → ((0 : Int) ≤ x6 ∧ (x6 : Int) < n2) ∧ ((m y2 x6) = (-1) → jK d zX4_leads [jO 4 p0, jI x3, jI x7, jI x6] m (fun v1 m1 => (v1 = 0 → aX4_pick_34 d p0 n2 y2 x3 x4 x5 x6 (w32 (x7 + 1)) m1 Q) ∧ (¬ v1 = 0 → ((0 : Int) ≤ (iOr x3 (iShl 1 x7)) ∧ ((iOr x3 (iShl 1 x7)) : Int) < 256) ∧ (x4 < (m1 (p0 + 5) (iOr x3 (iShl 1 x7))) → ((0 : Int) ≤ x6 ∧ (x6 : Int) < n2) ∧ aX4_pick_34 d p0 n2 y2 (iOr x3 (iShl 1 x7)) x4 x5 x6 (w32 (x7 + 1)) (jUp m1 y2 x6 x7) Q) ∧ (¬ x4 < (m1 (p0 + 5) (iOr x3 (iShl 1 x7))) → ((0 : Int) ≤ (iOr x3 (iShl 1 x7)) ∧ ((iOr x3 (iShl 1 x7)) : Int) < 256) ∧ aX4_pick_34 d p0 n2 y2 x3 (w32 (x4 - (m1 (p0 + 5) (iOr x3 (iShl 1 x7))))) x5 x6 (w32 (x7 + 1)) m1 Q)))) ∧ (¬ (m y2 x6) = (-1) → aX4_pick_13 d p0 n2 y2 x3 x4 (w32 (x5 + 1)) m Q)) ∧ (¬ x7 < 8 → aX4_pick_13 d p0 n2 y2 x3 x4 (w32 (x5 + 1)) m Q)) :
    aX4_pick_34 d p0 n2 y2 x3 x4 x5 x6 x7 m Q := jWp_snd [(13, [true, false, true, true, true, true, false, false, false]), (34, [true, false, true, true, true, true, true, true, false])] jcX4_pick 38 rfl h
def aX4_share_38 (d : Nat) (p0 x1 : Int) (m : jM) (Q : Int → jM → Prop) : Prop := jA (d + 1) zX4_share 38 [some (jO 4 p0), some (jI x1), none] [] m Q
set_option maxRecDepth 100000 in
theorem gX4_share (d : Nat) (p0 : Int) (m : jM) (Q : Int → jM → Prop)
    (h : jK d zJ7_fill_53178 [jY 0 64 (p0 + 7), jI 0] m (fun v1 m1 => jK d zJ7_fill_53178 [jY 0 256 (p0 + 6), jI 0] m1 (fun v2 m2 => ((0 : Int) ≤ 0 ∧ (0 : Int) < 256) ∧ ((m2 (p0 + 5) 0) = 0 → ((0 : Int) ≤ 0 ∧ (0 : Int) < 256) ∧ aX4_share_38 d p0 0 (jUp m2 (p0 + 6) 0 0) Q) ∧ (¬ (m2 (p0 + 5) 0) = 0 → ((0 : Int) ≤ 0 ∧ (0 : Int) < 256) ∧ aX4_share_38 d p0 0 (jUp m2 (p0 + 6) 0 1) Q)))) :
    jK (d + 1) zX4_share [jO 4 p0] m Q := jWp_sn0 [(38, [true, true, false])] jcX4_share 22 rfl h
set_option maxRecDepth 100000 in
theorem gX4_share_38 (d : Nat) (p0 x1 : Int) (m : jM) (Q : Int → jM → Prop)
    (h : (x1 < 256 → jK d zJ6_bitCount_0f7a4 [jI x1] m (fun v1 m1 => ((0 : Int) ≤ x1 ∧ (x1 : Int) < 256) ∧ ((m1 (p0 + 6) x1) = 0 → aX4_share_38 d p0 (w32 (x1 + 1)) m1 Q) ∧ (¬ (m1 (p0 + 6) x1) = 0 → (v1 < (m1 p0 1) → ((0 : Int) ≤ v1 ∧ (v1 : Int) < 8) ∧ jK d zX4_shareFrom [jO 4 p0, jI x1, jI (m1 (p0 + 1) v1)] m1 (fun v2 m2 => aX4_share_38 d p0 (w32 (x1 + 1)) m2 Q)) ∧ (¬ v1 < (m1 p0 1) → aX4_share_38 d p0 (w32 (x1 + 1)) m1 Q)))) ∧ (¬ x1 < 256 → Q 0 m)) :
    aX4_share_38 d p0 x1 m Q := jWp_snd [(38, [true, true, false])] jcX4_share 25 rfl h
def aX4_shareFrom_2 (d : Nat) (p0 x1 x2 x3 : Int) (m : jM) (Q : Int → jM → Prop) : Prop := jA (d + 1) zX4_shareFrom 2 [some (jO 4 p0), some (jI x1), some (jI x2), some (jI x3), none] [] m Q
set_option maxRecDepth 100000 in
theorem gX4_shareFrom (d : Nat) (p0 x1 x2 : Int) (m : jM) (Q : Int → jM → Prop)
    (h : aX4_shareFrom_2 d p0 x1 x2 0 m Q) :
    jK (d + 1) zX4_shareFrom [jO 4 p0, jI x1, jI x2] m Q := jWp_sn0 [(2, [true, true, true, true, false])] jcX4_shareFrom 3 rfl h
set_option maxRecDepth 100000 in
theorem gX4_shareFrom_2 (d : Nat) (p0 x1 x2 x3 : Int) (m : jM) (Q : Int → jM → Prop)
    (h : (x3 < 8 → jK d zX4_leads [jO 4 p0, jI x1, jI x3, jI x2] m (fun v1 m1 => (v1 = 0 → aX4_shareFrom_2 d p0 x1 x2 (w32 (x3 + 1)) m1 Q) ∧ (¬ v1 = 0 → ((0 : Int) ≤ (iOr x1 (iShl 1 x3)) ∧ ((iOr x1 (iShl 1 x3)) : Int) < 256) ∧ ((0 : Int) ≤ x1 ∧ (x1 : Int) < 256) ∧ ((0 : Int) ≤ (iOr x1 (iShl 1 x3)) ∧ ((iOr x1 (iShl 1 x3)) : Int) < 256) ∧ ((0 : Int) ≤ (w32 ((w32 (x3 * 8)) + x2)) ∧ ((w32 ((w32 (x3 * 8)) + x2)) : Int) < 64) ∧ ((0 : Int) ≤ x1 ∧ (x1 : Int) < 256) ∧ ((0 : Int) ≤ (iOr x1 (iShl 1 x3)) ∧ ((iOr x1 (iShl 1 x3)) : Int) < 256) ∧ ((0 : Int) ≤ (w32 ((w32 (x3 * 8)) + x2)) ∧ ((w32 ((w32 (x3 * 8)) + x2)) : Int) < 64) ∧ aX4_shareFrom_2 d p0 x1 x2 (w32 (x3 + 1)) (jUp (jUp m1 (p0 + 6) (iOr x1 (iShl 1 x3)) (w32 ((m1 (p0 + 6) (iOr x1 (iShl 1 x3))) + (m1 (p0 + 6) x1)))) (p0 + 7) (w32 ((w32 (x3 * 8)) + x2)) (w32 (((jUp m1 (p0 + 6) (iOr x1 (iShl 1 x3)) (w32 ((m1 (p0 + 6) (iOr x1 (iShl 1 x3))) + (m1 (p0 + 6) x1)))) (p0 + 7) (w32 ((w32 (x3 * 8)) + x2))) + (w32 (((jUp m1 (p0 + 6) (iOr x1 (iShl 1 x3)) (w32 ((m1 (p0 + 6) (iOr x1 (iShl 1 x3))) + (m1 (p0 + 6) x1)))) (p0 + 6) x1) * ((jUp m1 (p0 + 6) (iOr x1 (iShl 1 x3)) (w32 ((m1 (p0 + 6) (iOr x1 (iShl 1 x3))) + (m1 (p0 + 6) x1)))) (p0 + 5) (iOr x1 (iShl 1 x3)))))))) Q))) ∧ (¬ x3 < 8 → Q 0 m)) :
    aX4_shareFrom_2 d p0 x1 x2 x3 m Q := jWp_snd [(2, [true, true, true, true, false])] jcX4_shareFrom 49 rfl h
def aX4_follows_23 (d : Nat) (p0 p1 n2 y2 x3 x4 : Int) (m : jM) (Q : Int → jM → Prop) : Prop := jA (d + 1) zX4_follows 23 [some (jO 4 p0), some (jO 7 p1), some (jY 0 n2 y2), some (jI x3), some (jI x4), none, none, none, none] [] m Q
set_option maxRecDepth 100000 in
theorem gX4_follows (d : Nat) (p0 p1 n2 y2 : Int) (m : jM) (Q : Int → jM → Prop)
    (h : jK d zJ7_fill_53178 [jY 0 n2 y2, jI (-1)] m (fun v1 m1 => ((m1 p1 1) = (m1 p0 1) → aX4_follows_23 d p0 p1 n2 y2 0 0 m1 Q) ∧ (¬ (m1 p1 1) = (m1 p0 1) → Q 0 m1))) :
    jK (d + 1) zX4_follows [jO 4 p0, jO 7 p1, jY 0 n2 y2] m Q := jWp_sn0 [(23, [true, true, true, true, true, false, false, false, false])] jcX4_follows 13 rfl h
set_option maxRecDepth 100000 in
theorem gX4_follows_23 (d : Nat) (p0 p1 n2 y2 x3 x4 : Int) (m : jM) (Q : Int → jM → Prop)
    (h : (x4 < (m p0 1) → ((0 : Int) ≤ x4 ∧ (x4 : Int) < 40) ∧ ((m (p1 + 1) x4) < 0 → Q 0 m) ∧ (¬ (m (p1 + 1) x4) < 0 → ((m (p1 + 1) x4) < 8 → ((iAnd x3 (iShl 1 (w32 (m (p1 + 1) x4)))) = 0 → ((0 : Int) ≤ x4 ∧ (x4 : Int) < 8) ∧ jK d zX4_isOpen [jO 4 p0, jI (w32 (m (p1 + 1) x4)), jI (m (p0 + 1) x4)] m (fun v1 m1 => (v1 = 0 → Q 0 m1) ∧ (¬ v1 = 0 → ((0 : Int) ≤ x4 ∧ (x4 : Int) < 8) ∧ ((0 : Int) ≤ (m1 (p0 + 1) x4) ∧ ((m1 (p0 + 1) x4) : Int) < n2) ∧ aX4_follows_23 d p0 p1 n2 y2 (iOr x3 (iShl 1 (w32 (m (p1 + 1) x4)))) (w32 (x4 + 1)) (jUp m1 y2 (m1 (p0 + 1) x4) (w32 (m (p1 + 1) x4))) Q))) ∧ (¬ (iAnd x3 (iShl 1 (w32 (m (p1 + 1) x4)))) = 0 → Q 0 m)) ∧ (¬ (m (p1 + 1) x4) < 8 → Q 0 m))) ∧ (¬ x4 < (m p0 1) → Q 1 m)) :
    aX4_follows_23 d p0 p1 n2 y2 x3 x4 m Q := jWp_snd [(23, [true, true, true, true, true, false, false, false, false])] jcX4_follows 48 rfl h
def aX4_sumOf_5 (d : Nat) (p0 n1 y1 x2 x4 : Int) (m : jM) (Q : Int → jM → Prop) : Prop := jA (d + 1) zX4_sumOf 5 [some (jO 4 p0), some (jY 0 n1 y1), some (jL x2), none, some (jI x4), none] [] m Q
set_option maxRecDepth 100000 in
theorem gX4_sumOf (d : Nat) (p0 n1 y1 : Int) (m : jM) (Q : Int → jM → Prop)
    (h : aX4_sumOf_5 d p0 n1 y1 0 0 m Q) :
    jK (d + 1) zX4_sumOf [jO 4 p0, jY 0 n1 y1] m Q := jWp_sn0 [(5, [true, true, true, false, true, false])] jcX4_sumOf 5 rfl h
set_option maxRecDepth 100000 in
theorem gX4_sumOf_5 (d : Nat) (p0 n1 y1 x2 x4 : Int) (m : jM) (Q : Int → jM → Prop)
    (h : (x4 < (m p0 1) → ((0 : Int) ≤ x4 ∧ (x4 : Int) < 8) ∧ ((0 : Int) ≤ (m (p0 + 1) x4) ∧ ((m (p0 + 1) x4) : Int) < n1) ∧ ((0 : Int) ≤ (w32 ((w32 ((m y1 (m (p0 + 1) x4)) * 8)) + (m (p0 + 1) x4))) ∧ ((w32 ((w32 ((m y1 (m (p0 + 1) x4)) * 8)) + (m (p0 + 1) x4))) : Int) < 64) ∧ aX4_sumOf_5 d p0 n1 y1 (w64 (x2 + (m (p0 + 2) (w32 ((w32 ((m y1 (m (p0 + 1) x4)) * 8)) + (m (p0 + 1) x4)))))) (w32 (x4 + 1)) m Q) ∧ (¬ x4 < (m p0 1) → Q x2 m)) :
    aX4_sumOf_5 d p0 n1 y1 x2 x4 m Q := jWp_snd [(5, [true, true, true, false, true, false])] jcX4_sumOf 25 rfl h
def aX4_sharedOf_4 (d : Nat) (p0 n1 y1 x2 x3 : Int) (m : jM) (Q : Int → jM → Prop) : Prop := jA (d + 1) zX4_sharedOf 4 [some (jO 4 p0), some (jY 0 n1 y1), some (jI x2), some (jI x3), none] [] m Q
set_option maxRecDepth 100000 in
theorem gX4_sharedOf (d : Nat) (p0 n1 y1 : Int) (m : jM) (Q : Int → jM → Prop)
    (h : aX4_sharedOf_4 d p0 n1 y1 0 0 m Q) :
    jK (d + 1) zX4_sharedOf [jO 4 p0, jY 0 n1 y1] m Q := jWp_sn0 [(4, [true, true, true, true, false])] jcX4_sharedOf 5 rfl h
set_option maxRecDepth 100000 in
theorem gX4_sharedOf_4 (d : Nat) (p0 n1 y1 x2 x3 : Int) (m : jM) (Q : Int → jM → Prop)
    (h : (x3 < (m p0 1) → ((0 : Int) ≤ x3 ∧ (x3 : Int) < 8) ∧ ((0 : Int) ≤ (m (p0 + 1) x3) ∧ ((m (p0 + 1) x3) : Int) < n1) ∧ ((0 : Int) ≤ (w32 ((w32 ((m y1 (m (p0 + 1) x3)) * 8)) + (m (p0 + 1) x3))) ∧ ((w32 ((w32 ((m y1 (m (p0 + 1) x3)) * 8)) + (m (p0 + 1) x3))) : Int) < 64) ∧ (0 < (m (p0 + 7) (w32 ((w32 ((m y1 (m (p0 + 1) x3)) * 8)) + (m (p0 + 1) x3)))) → aX4_sharedOf_4 d p0 n1 y1 (w32 (x2 + 1)) (w32 (x3 + 1)) m Q) ∧ (¬ 0 < (m (p0 + 7) (w32 ((w32 ((m y1 (m (p0 + 1) x3)) * 8)) + (m (p0 + 1) x3)))) → aX4_sharedOf_4 d p0 n1 y1 (w32 (x2 + 0)) (w32 (x3 + 1)) m Q)) ∧ (¬ x3 < (m p0 1) → Q x2 m)) :
    aX4_sharedOf_4 d p0 n1 y1 x2 x3 m Q := jWp_snd [(4, [true, true, true, true, false])] jcX4_sharedOf 28 rfl h
def aX5_init_4 (d : Nat) (p0 : Int) (m : jM) (Q : Int → jM → Prop) : Prop := jA (d + 1) zX5_init 4 [some (jO 5 p0)] [] m Q
def aX5_init_9 (d : Nat) (p0 : Int) (m : jM) (Q : Int → jM → Prop) : Prop := jA (d + 1) zX5_init 9 [some (jO 5 p0)] [] m Q
def aX5_init_18 (d : Nat) (p0 : Int) (m : jM) (Q : Int → jM → Prop) : Prop := jA (d + 1) zX5_init 18 [some (jO 5 p0)] [] m Q
def aX5_init_27 (d : Nat) (p0 : Int) (m : jM) (Q : Int → jM → Prop) : Prop := jA (d + 1) zX5_init 27 [some (jO 5 p0)] [] m Q
def aX5_init_35 (d : Nat) (p0 : Int) (m : jM) (Q : Int → jM → Prop) : Prop := jA (d + 1) zX5_init 35 [some (jO 5 p0)] [] m Q
def aX5_init_43 (d : Nat) (p0 : Int) (m : jM) (Q : Int → jM → Prop) : Prop := jA (d + 1) zX5_init 43 [some (jO 5 p0)] [] m Q
def aX5_init_51 (d : Nat) (m : jM) (Q : Int → jM → Prop) : Prop := jA (d + 1) zX5_init 51 [none] [] m Q
set_option maxRecDepth 100000 in
theorem gX5_init (d : Nat) (p0 : Int) (m : jM) (Q : Int → jM → Prop)
    (h : aX5_init_4 d p0 m Q) :
    jK (d + 1) zX5_init [jO 5 p0] m Q := jWp_sn0 [(4, [true]), (9, [true]), (18, [true]), (27, [true]), (35, [true]), (43, [true]), (51, [false])] jcX5_init 3 rfl h
set_option maxRecDepth 100000 in
theorem gX5_init_4 (d : Nat) (p0 : Int) (m : jM) (Q : Int → jM → Prop)
    (h : aX5_init_9 d p0 (jUp m p0 0 0) Q) :
    aX5_init_4 d p0 m Q := jWp_snd [(4, [true]), (9, [true]), (18, [true]), (27, [true]), (35, [true]), (43, [true]), (51, [false])] jcX5_init 4 rfl h
set_option maxRecDepth 100000 in
theorem gX5_init_9 (d : Nat) (p0 : Int) (m : jM) (Q : Int → jM → Prop)
    (h : (m (-3) 0 < m (-3) 1 ∧ jKd (m (-3) 0) = 21 ∧ jLn (m (-3) 0) = 384) ∧ (m (-3) 0) = (p0 + 1) ∧ aX5_init_18 d p0 (jUp (jNw m) p0 1 (m (-3) 0)) Q) :
    aX5_init_9 d p0 m Q := jWp_snd [(4, [true]), (9, [true]), (18, [true]), (27, [true]), (35, [true]), (43, [true]), (51, [false])] jcX5_init 5 rfl h
set_option maxRecDepth 100000 in
theorem gX5_init_18 (d : Nat) (p0 : Int) (m : jM) (Q : Int → jM → Prop)
    (h : (m (-3) 0 < m (-3) 1 ∧ jKd (m (-3) 0) = 21 ∧ jLn (m (-3) 0) = 1024) ∧ (m (-3) 0) = (p0 + 2) ∧ aX5_init_27 d p0 (jUp (jNw m) p0 2 (m (-3) 0)) Q) :
    aX5_init_18 d p0 m Q := jWp_snd [(4, [true]), (9, [true]), (18, [true]), (27, [true]), (35, [true]), (43, [true]), (51, [false])] jcX5_init 5 rfl h
set_option maxRecDepth 100000 in
theorem gX5_init_27 (d : Nat) (p0 : Int) (m : jM) (Q : Int → jM → Prop)
    (h : (m (-3) 0 < m (-3) 1 ∧ jKd (m (-3) 0) = 21 ∧ jLn (m (-3) 0) = 8) ∧ (m (-3) 0) = (p0 + 3) ∧ aX5_init_35 d p0 (jUp (jNw m) p0 3 (m (-3) 0)) Q) :
    aX5_init_27 d p0 m Q := jWp_snd [(4, [true]), (9, [true]), (18, [true]), (27, [true]), (35, [true]), (43, [true]), (51, [false])] jcX5_init 5 rfl h
set_option maxRecDepth 100000 in
theorem gX5_init_35 (d : Nat) (p0 : Int) (m : jM) (Q : Int → jM → Prop)
    (h : (m (-3) 0 < m (-3) 1 ∧ jKd (m (-3) 0) = 21 ∧ jLn (m (-3) 0) = 8) ∧ (m (-3) 0) = (p0 + 4) ∧ aX5_init_43 d p0 (jUp (jNw m) p0 4 (m (-3) 0)) Q) :
    aX5_init_35 d p0 m Q := jWp_snd [(4, [true]), (9, [true]), (18, [true]), (27, [true]), (35, [true]), (43, [true]), (51, [false])] jcX5_init 5 rfl h
set_option maxRecDepth 100000 in
theorem gX5_init_43 (d : Nat) (p0 : Int) (m : jM) (Q : Int → jM → Prop)
    (h : (m (-3) 0 < m (-3) 1 ∧ jKd (m (-3) 0) = 20 ∧ jLn (m (-3) 0) = 8) ∧ (m (-3) 0) = (p0 + 5) ∧ aX5_init_51 d  (jUp (jNw m) p0 5 (m (-3) 0)) Q) :
    aX5_init_43 d p0 m Q := jWp_snd [(4, [true]), (9, [true]), (18, [true]), (27, [true]), (35, [true]), (43, [true]), (51, [false])] jcX5_init 5 rfl h
set_option maxRecDepth 100000 in
theorem gX5_init_51 (d : Nat) (m : jM) (Q : Int → jM → Prop)
    (h : m (-3) 0 = m (-3) 1 ∧ Q 0 m) :
    aX5_init_51 d  m Q := jWp_snd [(4, [true]), (9, [true]), (18, [true]), (27, [true]), (35, [true]), (43, [true]), (51, [false])] jcX5_init 2 rfl h
def aX5_make_10 (d : Nat) (x3 : Int) (m : jM) (Q : Int → jM → Prop) : Prop := jA (d + 1) zX5_make 10 [some (jO 5 75), some (jO 4 54), some (jO 2 70), some (jI x3), none, none, none] [] m Q
def aX5_make_44 (d : Nat) (x3 x5 : Int) (m : jM) (Q : Int → jM → Prop) : Prop := jA (d + 1) zX5_make 44 [some (jO 5 75), some (jO 4 54), some (jO 2 70), some (jL x3), none, some (jI x5), none] [] m Q
set_option maxRecDepth 100000 in
theorem gX5_make (d : Nat) (m : jM) (Q : Int → jM → Prop)
    (h : jK d zJ7_fill_d0a16 [jY 1 8 78, jL 0] m (fun v1 m1 => aX5_make_10 d 0 m1 Q)) :
    jK (d + 1) zX5_make [jO 5 75, jO 4 54, jO 2 70] m Q := jWp_sn0 [(10, [true, true, true, true, false, false, false]), (44, [true, true, true, true, false, true, false])] jcX5_make 7 rfl h
set_option maxRecDepth 100000 in
theorem gX5_make_10 (d : Nat) (x3 : Int) (m : jM) (Q : Int → jM → Prop)
    (h : (x3 < 8 → jK d zX5_firstPay [jO 5 75, jO 4 54, jI x3] m (fun v1 m1 => ((0 : Int) ≤ x3 ∧ (x3 : Int) < 8) ∧ aX5_make_10 d (w32 (x3 + 1)) (jUp m1 79 x3 v1) Q)) ∧ (¬ x3 < 8 → aX5_make_44 d 0 0 (jUp m 75 0 0) Q)) :
    aX5_make_10 d x3 m Q := jWp_snd [(10, [true, true, true, true, false, false, false]), (44, [true, true, true, true, false, true, false])] jcX5_make 14 rfl h
set_option maxRecDepth 100000 in
theorem gX5_make_44 (d : Nat) (x3 x5 : Int) (m : jM) (Q : Int → jM → Prop)
    (h : (x5 < 64 → (x3 = (-1) → Q 0 m) ∧ (¬ x3 = (-1) → jK d zX5_findTight [jO 5 75, jO 4 54] m (fun v1 m1 => jK d zX2_find [jO 2 70, jY 0 8 80, jI (m1 54 0)] m1 (fun v2 m2 => jK d zX5_leastSlack [jO 5 75, jO 4 54, jI (m2 70 1), jI (iXor (m2 70 2) (-1))] m2 (fun v3 m3 => jK d zX5_keep [jO 5 75, jI x5, jI (iAnd (m3 54 0) (iXor (m3 70 1) (-1))), jO 2 70] m3 (fun v4 m4 => ((0 : Int) ≤ (w32 ((w32 (x5 * 6)) + 4)) ∧ ((w32 ((w32 (x5 * 6)) + 4)) : Int) < 384) ∧ ((0 : Int) ≤ (w32 ((w32 (x5 * 6)) + 5)) ∧ ((w32 ((w32 (x5 * 6)) + 5)) : Int) < 384) ∧ (v3 = (-1) → aX5_make_44 d v3 (w32 (x5 + 1)) (jUp (jUp (jUp m4 76 (w32 ((w32 (x5 * 6)) + 4)) v3) 76 (w32 ((w32 (x5 * 6)) + 5)) v1) 75 0 (w32 (((jUp (jUp m4 76 (w32 ((w32 (x5 * 6)) + 4)) v3) 76 (w32 ((w32 (x5 * 6)) + 5)) v1) 75 0) + 1))) Q) ∧ (¬ v3 = (-1) → jK d zX5_raise [jO 5 75, jO 2 70, jL v3] (jUp (jUp (jUp m4 76 (w32 ((w32 (x5 * 6)) + 4)) v3) 76 (w32 ((w32 (x5 * 6)) + 5)) v1) 75 0 (w32 (((jUp (jUp m4 76 (w32 ((w32 (x5 * 6)) + 4)) v3) 76 (w32 ((w32 (x5 * 6)) + 5)) v1) 75 0) + 1))) (fun v5 m5 => aX5_make_44 d v3 (w32 (x5 + 1)) m5 Q)))))))) ∧ (¬ x5 < 64 → Q 0 m)) :
    aX5_make_44 d x3 x5 m Q := jWp_snd [(10, [true, true, true, true, false, false, false]), (44, [true, true, true, true, false, true, false])] jcX5_make 72 rfl h
def aX5_firstPay_7 (d : Nat) (x2 x3 x5 : Int) (m : jM) (Q : Int → jM → Prop) : Prop := jA (d + 1) zX5_firstPay 7 [none, some (jO 4 54), some (jI x2), some (jL x3), none, some (jI x5), none, none] [] m Q
set_option maxRecDepth 100000 in
theorem gX5_firstPay (d : Nat) (x2 : Int) (m : jM) (Q : Int → jM → Prop)
    (h : aX5_firstPay_7 d x2 (-1) 0 m Q) :
    jK (d + 1) zX5_firstPay [jO 5 75, jO 4 54, jI x2] m Q := jWp_sn0 [(7, [false, true, true, true, false, true, false, false])] jcX5_firstPay 5 rfl h
set_option maxRecDepth 100000 in
theorem gX5_firstPay_7 (d : Nat) (x2 x3 x5 : Int) (m : jM) (Q : Int → jM → Prop)
    (h : (x5 < 8 → jK d zX4_isOpen [jO 4 54, jI x5, jI x2] m (fun v1 m1 => (v1 = 0 → aX5_firstPay_7 d x2 x3 (w32 (x5 + 1)) m1 Q) ∧ (¬ v1 = 0 → ((0 : Int) ≤ (w32 ((w32 (x5 * 8)) + x2)) ∧ ((w32 ((w32 (x5 * 8)) + x2)) : Int) < 64) ∧ (x3 = (-1) → aX5_firstPay_7 d x2 (m1 56 (w32 ((w32 (x5 * 8)) + x2))) (w32 (x5 + 1)) m1 Q) ∧ (¬ x3 = (-1) → jK d zJ9_min_f86c9 [jL x3, jL (m1 56 (w32 ((w32 (x5 * 8)) + x2)))] m1 (fun v2 m2 => aX5_firstPay_7 d x2 v2 (w32 (x5 + 1)) m2 Q))))) ∧ (¬ x5 < 8 → (x3 = (-1) → Q 0 m) ∧ (¬ x3 = (-1) → Q x3 m))) :
    aX5_firstPay_7 d x2 x3 x5 m Q := jWp_snd [(7, [false, true, true, true, false, true, false, false])] jcX5_firstPay 27 rfl h
set_option maxRecDepth 100000 in
theorem gX5_slack (d : Nat) (x2 x3 : Int) (m : jM) (Q : Int → jM → Prop)
    (h : ((0 : Int) ≤ (w32 ((w32 (x2 * 8)) + x3)) ∧ ((w32 ((w32 (x2 * 8)) + x3)) : Int) < 64) ∧ ((0 : Int) ≤ x2 ∧ (x2 : Int) < 8) ∧ ((0 : Int) ≤ x3 ∧ (x3 : Int) < 8) ∧ Q (w64 ((w64 ((m 56 (w32 ((w32 (x2 * 8)) + x3))) + (m 78 x2))) - (m 79 x3))) m) :
    jK (d + 1) zX5_slack [jO 5 75, jO 4 54, jI x2, jI x3] m Q := jWp_sn0 [] jcX5_slack 20 rfl h
def aX5_findTight_12 (d : Nat) (x2 x3 : Int) (m : jM) (Q : Int → jM → Prop) : Prop := jA (d + 1) zX5_findTight 12 [some (jO 5 75), some (jO 4 54), some (jI x2), some (jI x3), none, none] [] m Q
set_option maxRecDepth 100000 in
theorem gX5_findTight (d : Nat) (m : jM) (Q : Int → jM → Prop)
    (h : jK d zJ7_fill_53178 [jY 0 8 80, jI 0] m (fun v1 m1 => aX5_findTight_12 d 0 0 m1 Q)) :
    jK (d + 1) zX5_findTight [jO 5 75, jO 4 54] m Q := jWp_sn0 [(12, [true, true, true, true, false, false])] jcX5_findTight 9 rfl h
set_option maxRecDepth 100000 in
theorem gX5_findTight_12 (d : Nat) (x2 x3 : Int) (m : jM) (Q : Int → jM → Prop)
    (h : (x3 < 64 → (8 : Int) ≠ 0 ∧ (8 : Int) ≠ 0 ∧ jK d zX4_isOpen [jO 4 54, jI (iDiv x3 8), jI (iRem x3 8)] m (fun v1 m1 => (v1 = 0 → aX5_findTight_12 d x2 (w32 (x3 + 1)) m1 Q) ∧ (¬ v1 = 0 → jK d zX5_slack [jO 5 75, jO 4 54, jI (iDiv x3 8), jI (iRem x3 8)] m1 (fun v2 m2 => (v2 = 0 → ((0 : Int) ≤ (iRem x3 8) ∧ ((iRem x3 8) : Int) < 8) ∧ ((0 : Int) ≤ (iRem x3 8) ∧ ((iRem x3 8) : Int) < 8) ∧ aX5_findTight_12 d (w32 (x2 + 1)) (w32 (x3 + 1)) (jUp m2 80 (iRem x3 8) (iOr (m2 80 (iRem x3 8)) (iShl 1 (iDiv x3 8)))) Q) ∧ (¬ v2 = 0 → aX5_findTight_12 d x2 (w32 (x3 + 1)) m2 Q))))) ∧ (¬ x3 < 64 → Q x2 m)) :
    aX5_findTight_12 d x2 x3 m Q := jWp_snd [(12, [true, true, true, true, false, false])] jcX5_findTight 37 rfl h
def aX5_leastSlack_8 (d : Nat) (x2 x3 x4 x6 : Int) (m : jM) (Q : Int → jM → Prop) : Prop := jA (d + 1) zX5_leastSlack 8 [some (jO 5 75), some (jO 4 54), some (jI x2), some (jI x3), some (jL x4), none, some (jI x6), none, none, none, none, none] [] m Q
set_option maxRecDepth 100000 in
theorem gX5_leastSlack (d : Nat) (x2 x3 : Int) (m : jM) (Q : Int → jM → Prop)
    (h : aX5_leastSlack_8 d x2 x3 (-1) 0 m Q) :
    jK (d + 1) zX5_leastSlack [jO 5 75, jO 4 54, jI x2, jI x3] m Q := jWp_sn0 [(8, [true, true, true, true, true, false, true, false, false, false, false, false])] jcX5_leastSlack 5 rfl h
set_option maxRecDepth 100000 in
theorem gX5_leastSlack_8 (d : Nat) (x2 x3 x4 x6 : Int) (m : jM) (Q : Int → jM → Prop)
    (h : (x6 < 64 → (8 : Int) ≠ 0 ∧ (8 : Int) ≠ 0 ∧ ((iAnd (iAnd (iShr x2 (iRem x6 8)) (iShr x3 (iDiv x6 8))) 1) = 1 → ((1 : Int) = 0 → aX5_leastSlack_8 d x2 x3 x4 (w32 (x6 + 1)) m Q) ∧ (¬ (1 : Int) = 0 → jK d zX4_isOpen [jO 4 54, jI (iDiv x6 8), jI (iRem x6 8)] m (fun v1 m1 => (v1 = 0 → aX5_leastSlack_8 d x2 x3 x4 (w32 (x6 + 1)) m1 Q) ∧ (¬ v1 = 0 → jK d zX5_slack [jO 5 75, jO 4 54, jI (iDiv x6 8), jI (iRem x6 8)] m1 (fun v2 m2 => (x4 = (-1) → aX5_leastSlack_8 d x2 x3 v2 (w32 (x6 + 1)) m2 Q) ∧ (¬ x4 = (-1) → jK d zJ9_min_f86c9 [jL x4, jL v2] m2 (fun v3 m3 => aX5_leastSlack_8 d x2 x3 v3 (w32 (x6 + 1)) m3 Q))))))) ∧ (¬ (iAnd (iAnd (iShr x2 (iRem x6 8)) (iShr x3 (iDiv x6 8))) 1) = 1 → ((0 : Int) = 0 → aX5_leastSlack_8 d x2 x3 x4 (w32 (x6 + 1)) m Q) ∧ (¬ (0 : Int) = 0 → jK d zX4_isOpen [jO 4 54, jI (iDiv x6 8), jI (iRem x6 8)] m (fun v4 m4 => (v4 = 0 → aX5_leastSlack_8 d x2 x3 x4 (w32 (x6 + 1)) m4 Q) ∧ (¬ v4 = 0 → jK d zX5_slack [jO 5 75, jO 4 54, jI (iDiv x6 8), jI (iRem x6 8)] m4 (fun v5 m5 => (x4 = (-1) → aX5_leastSlack_8 d x2 x3 v5 (w32 (x6 + 1)) m5 Q) ∧ (¬ x4 = (-1) → jK d zJ9_min_f86c9 [jL x4, jL v5] m5 (fun v6 m6 => aX5_leastSlack_8 d x2 x3 v6 (w32 (x6 + 1)) m6 Q)))))))) ∧ (¬ x6 < 64 → Q x4 m)) :
    aX5_leastSlack_8 d x2 x3 x4 x6 m Q := jWp_snd [(8, [true, true, true, true, true, false, true, false, false, false, false, false])] jcX5_leastSlack 48 rfl h
set_option maxRecDepth 100000 in
theorem gX5_keep (d : Nat) (x1 x2 : Int) (m : jM) (Q : Int → jM → Prop)
    (h : ((0 : Int) ≤ (w32 (x1 * 6)) ∧ ((w32 (x1 * 6)) : Int) < 384) ∧ ((0 : Int) ≤ (w32 ((w32 (x1 * 6)) + 1)) ∧ ((w32 ((w32 (x1 * 6)) + 1)) : Int) < 384) ∧ ((0 : Int) ≤ (w32 ((w32 (x1 * 6)) + 2)) ∧ ((w32 ((w32 (x1 * 6)) + 2)) : Int) < 384) ∧ ((0 : Int) ≤ (w32 ((w32 (x1 * 6)) + 3)) ∧ ((w32 ((w32 (x1 * 6)) + 3)) : Int) < 384) ∧ ((0 : Int) ≤ 0 ∧ (0 : Int) ≤ (w32 ((w32 (x1 * 2)) * 8)) ∧ (0 : Int) ≤ 8 ∧ (0 : Int) + 8 ≤ 8 ∧ ((w32 ((w32 (x1 * 2)) * 8)) : Int) + 8 ≤ 1024) ∧ ((0 : Int) ≤ 0 ∧ (0 : Int) ≤ (w32 ((w32 ((w32 (x1 * 2)) + 1)) * 8)) ∧ (0 : Int) ≤ 8 ∧ (0 : Int) + 8 ≤ 8 ∧ ((w32 ((w32 ((w32 (x1 * 2)) + 1)) * 8)) : Int) + 8 ≤ 1024) ∧ Q 0 (jCp (jCp (jUp (jUp (jUp (jUp m 76 (w32 (x1 * 6)) (m 70 0)) 76 (w32 ((w32 (x1 * 6)) + 1)) ((jUp m 76 (w32 (x1 * 6)) (m 70 0)) 70 1)) 76 (w32 ((w32 (x1 * 6)) + 2)) ((jUp (jUp m 76 (w32 (x1 * 6)) (m 70 0)) 76 (w32 ((w32 (x1 * 6)) + 1)) ((jUp m 76 (w32 (x1 * 6)) (m 70 0)) 70 1)) 70 2)) 76 (w32 ((w32 (x1 * 6)) + 3)) (iOr ((jUp (jUp (jUp m 76 (w32 (x1 * 6)) (m 70 0)) 76 (w32 ((w32 (x1 * 6)) + 1)) ((jUp m 76 (w32 (x1 * 6)) (m 70 0)) 70 1)) 76 (w32 ((w32 (x1 * 6)) + 2)) ((jUp (jUp m 76 (w32 (x1 * 6)) (m 70 0)) 76 (w32 ((w32 (x1 * 6)) + 1)) ((jUp m 76 (w32 (x1 * 6)) (m 70 0)) 70 1)) 70 2)) 70 2) (iShl x2 8))) 78 0 77 (w32 ((w32 (x1 * 2)) * 8)) 8) 79 0 77 (w32 ((w32 ((w32 (x1 * 2)) + 1)) * 8)) 8)) :
    jK (d + 1) zX5_keep [jO 5 75, jI x1, jI x2, jO 2 70] m Q := jWp_sn0 [] jcX5_keep 74 rfl h
def aX5_raise_3 (d : Nat) (x2 x4 : Int) (m : jM) (Q : Int → jM → Prop) : Prop := jA (d + 1) zX5_raise 3 [some (jO 5 75), some (jO 2 70), some (jL x2), none, some (jI x4)] [] m Q
set_option maxRecDepth 100000 in
theorem gX5_raise (d : Nat) (x2 : Int) (m : jM) (Q : Int → jM → Prop)
    (h : aX5_raise_3 d x2 0 m Q) :
    jK (d + 1) zX5_raise [jO 5 75, jO 2 70, jL x2] m Q := jWp_sn0 [(3, [true, true, true, false, true])] jcX5_raise 3 rfl h
set_option maxRecDepth 100000 in
theorem gX5_raise_3 (d : Nat) (x2 x4 : Int) (m : jM) (Q : Int → jM → Prop)
    (h : (x4 < 8 → ((0 : Int) ≤ x4 ∧ (x4 : Int) < 8) ∧ ((0 : Int) ≤ x4 ∧ (x4 : Int) < 8) ∧ ((0 : Int) ≤ x4 ∧ (x4 : Int) < 8) ∧ ((0 : Int) ≤ x4 ∧ (x4 : Int) < 8) ∧ aX5_raise_3 d x2 (w32 (x4 + 1)) (jUp (jUp m 78 x4 (w64 ((m 78 x4) + (w64 ((iAnd (iShr (m 70 2) x4) 1) * x2))))) 79 x4 (w64 (((jUp m 78 x4 (w64 ((m 78 x4) + (w64 ((iAnd (iShr (m 70 2) x4) 1) * x2))))) 79 x4) + (w64 ((iAnd (iShr ((jUp m 78 x4 (w64 ((m 78 x4) + (w64 ((iAnd (iShr (m 70 2) x4) 1) * x2))))) 70 1) x4) 1) * x2))))) Q) ∧ (¬ x4 < 8 → Q 0 m)) :
    aX5_raise_3 d x2 x4 m Q := jWp_snd [(3, [true, true, true, false, true])] jcX5_raise 38 rfl h
def aX6_init_4 (d : Nat) (p0 : Int) (m : jM) (Q : Int → jM → Prop) : Prop := jA (d + 1) zX6_init 4 [some (jO 6 p0)] [] m Q
def aX6_init_9 (d : Nat) (p0 : Int) (m : jM) (Q : Int → jM → Prop) : Prop := jA (d + 1) zX6_init 9 [some (jO 6 p0)] [] m Q
def aX6_init_14 (d : Nat) (p0 : Int) (m : jM) (Q : Int → jM → Prop) : Prop := jA (d + 1) zX6_init 14 [some (jO 6 p0)] [] m Q
def aX6_init_22 (d : Nat) (p0 : Int) (m : jM) (Q : Int → jM → Prop) : Prop := jA (d + 1) zX6_init 22 [some (jO 6 p0)] [] m Q
def aX6_init_30 (d : Nat) (p0 : Int) (m : jM) (Q : Int → jM → Prop) : Prop := jA (d + 1) zX6_init 30 [some (jO 6 p0)] [] m Q
def aX6_init_38 (d : Nat) (m : jM) (Q : Int → jM → Prop) : Prop := jA (d + 1) zX6_init 38 [none] [] m Q
set_option maxRecDepth 100000 in
theorem gX6_init (d : Nat) (p0 : Int) (m : jM) (Q : Int → jM → Prop)
    (h : aX6_init_4 d p0 m Q) :
    jK (d + 1) zX6_init [jO 6 p0] m Q := jWp_sn0 [(4, [true]), (9, [true]), (14, [true]), (22, [true]), (30, [true]), (38, [false])] jcX6_init 3 rfl h
set_option maxRecDepth 100000 in
theorem gX6_init_4 (d : Nat) (p0 : Int) (m : jM) (Q : Int → jM → Prop)
    (h : aX6_init_9 d p0 (jUp m p0 0 0) Q) :
    aX6_init_4 d p0 m Q := jWp_snd [(4, [true]), (9, [true]), (14, [true]), (22, [true]), (30, [true]), (38, [false])] jcX6_init 4 rfl h
set_option maxRecDepth 100000 in
theorem gX6_init_9 (d : Nat) (p0 : Int) (m : jM) (Q : Int → jM → Prop)
    (h : aX6_init_14 d p0 (jUp m p0 1 0) Q) :
    aX6_init_9 d p0 m Q := jWp_snd [(4, [true]), (9, [true]), (14, [true]), (22, [true]), (30, [true]), (38, [false])] jcX6_init 4 rfl h
set_option maxRecDepth 100000 in
theorem gX6_init_14 (d : Nat) (p0 : Int) (m : jM) (Q : Int → jM → Prop)
    (h : (m (-3) 0 < m (-3) 1 ∧ jKd (m (-3) 0) = 20 ∧ jLn (m (-3) 0) = 40) ∧ (m (-3) 0) = (p0 + 1) ∧ aX6_init_22 d p0 (jUp (jNw m) p0 2 (m (-3) 0)) Q) :
    aX6_init_14 d p0 m Q := jWp_snd [(4, [true]), (9, [true]), (14, [true]), (22, [true]), (30, [true]), (38, [false])] jcX6_init 5 rfl h
set_option maxRecDepth 100000 in
theorem gX6_init_22 (d : Nat) (p0 : Int) (m : jM) (Q : Int → jM → Prop)
    (h : (m (-3) 0 < m (-3) 1 ∧ jKd (m (-3) 0) = 20 ∧ jLn (m (-3) 0) = 40) ∧ (m (-3) 0) = (p0 + 2) ∧ aX6_init_30 d p0 (jUp (jNw m) p0 3 (m (-3) 0)) Q) :
    aX6_init_22 d p0 m Q := jWp_snd [(4, [true]), (9, [true]), (14, [true]), (22, [true]), (30, [true]), (38, [false])] jcX6_init 5 rfl h
set_option maxRecDepth 100000 in
theorem gX6_init_30 (d : Nat) (p0 : Int) (m : jM) (Q : Int → jM → Prop)
    (h : (m (-3) 0 < m (-3) 1 ∧ jKd (m (-3) 0) = 20 ∧ jLn (m (-3) 0) = 40) ∧ (m (-3) 0) = (p0 + 3) ∧ aX6_init_38 d  (jUp (jNw m) p0 4 (m (-3) 0)) Q) :
    aX6_init_30 d p0 m Q := jWp_snd [(4, [true]), (9, [true]), (14, [true]), (22, [true]), (30, [true]), (38, [false])] jcX6_init 5 rfl h
set_option maxRecDepth 100000 in
theorem gX6_init_38 (d : Nat) (m : jM) (Q : Int → jM → Prop)
    (h : m (-3) 0 = m (-3) 1 ∧ Q 0 m) :
    aX6_init_38 d  m Q := jWp_snd [(4, [true]), (9, [true]), (14, [true]), (22, [true]), (30, [true]), (38, [false])] jcX6_init 2 rfl h
set_option maxRecDepth 100000 in
theorem gX6_clear (d : Nat) (p0 : Int) (m : jM) (Q : Int → jM → Prop)
    (h : Q 0 (jUp (jUp m p0 0 0) p0 1 0)) :
    jK (d + 1) zX6_clear [jO 6 p0] m Q := jWp_sn0 [] jcX6_clear 8 rfl h
set_option maxRecDepth 100000 in
theorem gX6_take (d : Nat) (p0 p1 : Int) (m : jM) (Q : Int → jM → Prop)
    (h : ((0 : Int) ≤ 0 ∧ (0 : Int) ≤ 0 ∧ (0 : Int) ≤ 40 ∧ (0 : Int) + 40 ≤ 40 ∧ (0 : Int) + 40 ≤ 40) ∧ ((0 : Int) ≤ 0 ∧ (0 : Int) ≤ 0 ∧ (0 : Int) ≤ 40 ∧ (0 : Int) + 40 ≤ 40 ∧ (0 : Int) + 40 ≤ 40) ∧ ((0 : Int) ≤ 0 ∧ (0 : Int) ≤ 0 ∧ (0 : Int) ≤ 40 ∧ (0 : Int) + 40 ≤ 40 ∧ (0 : Int) + 40 ≤ 40) ∧ Q 0 (jCp (jCp (jCp (jUp (jUp m p0 0 (m p1 0)) p0 1 ((jUp m p0 0 (m p1 0)) p1 1)) (p1 + 1) 0 (p0 + 1) 0 40) (p1 + 2) 0 (p0 + 2) 0 40) (p1 + 3) 0 (p0 + 3) 0 40)) :
    jK (d + 1) zX6_take [jO 6 p0, jO 6 p1] m Q := jWp_sn0 [] jcX6_take 34 rfl h
set_option maxRecDepth 100000 in
theorem gX6_add (d : Nat) (p0 x1 x2 x3 : Int) (m : jM) (Q : Int → jM → Prop)
    (h : ((m p0 1) < 40 → ((0 : Int) ≤ (m p0 1) ∧ ((m p0 1) : Int) < 40) ∧ ((0 : Int) ≤ ((jUp m (p0 + 1) (m p0 1) x1) p0 1) ∧ (((jUp m (p0 + 1) (m p0 1) x1) p0 1) : Int) < 40) ∧ ((0 : Int) ≤ ((jUp (jUp m (p0 + 1) (m p0 1) x1) (p0 + 2) ((jUp m (p0 + 1) (m p0 1) x1) p0 1) x2) p0 1) ∧ (((jUp (jUp m (p0 + 1) (m p0 1) x1) (p0 + 2) ((jUp m (p0 + 1) (m p0 1) x1) p0 1) x2) p0 1) : Int) < 40) ∧ Q 0 (jUp (jUp (jUp (jUp m (p0 + 1) (m p0 1) x1) (p0 + 2) ((jUp m (p0 + 1) (m p0 1) x1) p0 1) x2) (p0 + 3) ((jUp (jUp m (p0 + 1) (m p0 1) x1) (p0 + 2) ((jUp m (p0 + 1) (m p0 1) x1) p0 1) x2) p0 1) x3) p0 1 (w32 (((jUp (jUp (jUp m (p0 + 1) (m p0 1) x1) (p0 + 2) ((jUp m (p0 + 1) (m p0 1) x1) p0 1) x2) (p0 + 3) ((jUp (jUp m (p0 + 1) (m p0 1) x1) (p0 + 2) ((jUp m (p0 + 1) (m p0 1) x1) p0 1) x2) p0 1) x3) p0 1) + 1)))) ∧ (¬ (m p0 1) < 40 → Q 0 m)) :
    jK (d + 1) zX6_add [jO 6 p0, jI x1, jI x2, jI x3] m Q := jWp_sn0 [] jcX6_add 30 rfl h
set_option maxRecDepth 100000 in
theorem gX6_landHere (d : Nat) (p0 x1 : Int) (m : jM) (Q : Int → jM → Prop)
    (h : (x1 < 0 → Q 0 m) ∧ (¬ x1 < 0 → (x1 < 40 → ((0 : Int) ≤ x1 ∧ (x1 : Int) < 40) ∧ Q 0 (jUp m (p0 + 2) x1 (m p0 1))) ∧ (¬ x1 < 40 → Q 0 m))) :
    jK (d + 1) zX6_landHere [jO 6 p0, jI x1] m Q := jWp_sn0 [] jcX6_landHere 13 rfl h
def aX6_names_4 (d : Nat) (p0 x1 x2 : Int) (m : jM) (Q : Int → jM → Prop) : Prop := jA (d + 1) zX6_names 4 [some (jO 6 p0), some (jI x1), some (jI x2)] [] m Q
set_option maxRecDepth 100000 in
theorem gX6_names (d : Nat) (p0 : Int) (m : jM) (Q : Int → jM → Prop)
    (h : aX6_names_4 d p0 0 0 m Q) :
    jK (d + 1) zX6_names [jO 6 p0] m Q := jWp_sn0 [(4, [true, true, true])] jcX6_names 5 rfl h
set_option maxRecDepth 100000 in
theorem gX6_names_4 (d : Nat) (p0 x1 x2 : Int) (m : jM) (Q : Int → jM → Prop)
    (h : (x2 < (m p0 1) → ((0 : Int) ≤ x2 ∧ (x2 : Int) < 40) ∧ ((m (p0 + 1) x2) = 4 → ((0 : Int) ≤ x2 ∧ (x2 : Int) < 40) ∧ aX6_names_4 d p0 (iOr x1 (iShl 1 (m (p0 + 2) x2))) (w32 (x2 + 1)) m Q) ∧ (¬ (m (p0 + 1) x2) = 4 → aX6_names_4 d p0 x1 (w32 (x2 + 1)) m Q)) ∧ (¬ x2 < (m p0 1) → Q x1 m)) :
    aX6_names_4 d p0 x1 x2 m Q := jWp_snd [(4, [true, true, true])] jcX6_names 22 rfl h
def aX6_weightBy_7 (d : Nat) (p0 n1 y1 x2 x3 : Int) (m : jM) (Q : Int → jM → Prop) : Prop := jA (d + 1) zX6_weightBy 7 [some (jO 6 p0), some (jY 0 n1 y1), some (jI x2), some (jI x3)] [] m Q
set_option maxRecDepth 100000 in
theorem gX6_weightBy (d : Nat) (p0 n1 y1 : Int) (m : jM) (Q : Int → jM → Prop)
    (h : aX6_weightBy_7 d p0 n1 y1 (m p0 0) 0 m Q) :
    jK (d + 1) zX6_weightBy [jO 6 p0, jY 0 n1 y1] m Q := jWp_sn0 [(7, [true, true, true, true])] jcX6_weightBy 6 rfl h
set_option maxRecDepth 100000 in
theorem gX6_weightBy_7 (d : Nat) (p0 n1 y1 x2 x3 : Int) (m : jM) (Q : Int → jM → Prop)
    (h : (x3 < (m p0 1) → ((0 : Int) ≤ x3 ∧ (x3 : Int) < 40) ∧ ((m (p0 + 1) x3) = 4 → ((0 : Int) ≤ x3 ∧ (x3 : Int) < 40) ∧ ((0 : Int) ≤ (m (p0 + 2) x3) ∧ ((m (p0 + 2) x3) : Int) < n1) ∧ aX6_weightBy_7 d p0 n1 y1 (w32 (x2 + (m y1 (m (p0 + 2) x3)))) (w32 (x3 + 1)) m Q) ∧ (¬ (m (p0 + 1) x3) = 4 → aX6_weightBy_7 d p0 n1 y1 x2 (w32 (x3 + 1)) m Q)) ∧ (¬ x3 < (m p0 1) → Q x2 m)) :
    aX6_weightBy_7 d p0 n1 y1 x2 x3 m Q := jWp_snd [(7, [true, true, true, true])] jcX6_weightBy 22 rfl h
def aX7_init_4 (d : Nat) (p0 : Int) (m : jM) (Q : Int → jM → Prop) : Prop := jA (d + 1) zX7_init 4 [some (jO 7 p0)] [] m Q
def aX7_init_9 (d : Nat) (p0 : Int) (m : jM) (Q : Int → jM → Prop) : Prop := jA (d + 1) zX7_init 9 [some (jO 7 p0)] [] m Q
def aX7_init_14 (d : Nat) (p0 : Int) (m : jM) (Q : Int → jM → Prop) : Prop := jA (d + 1) zX7_init 14 [some (jO 7 p0)] [] m Q
def aX7_init_22 (d : Nat) (m : jM) (Q : Int → jM → Prop) : Prop := jA (d + 1) zX7_init 22 [none] [] m Q
set_option maxRecDepth 100000 in
theorem gX7_init (d : Nat) (p0 : Int) (m : jM) (Q : Int → jM → Prop)
    (h : aX7_init_4 d p0 m Q) :
    jK (d + 1) zX7_init [jO 7 p0] m Q := jWp_sn0 [(4, [true]), (9, [true]), (14, [true]), (22, [false])] jcX7_init 3 rfl h
set_option maxRecDepth 100000 in
theorem gX7_init_4 (d : Nat) (p0 : Int) (m : jM) (Q : Int → jM → Prop)
    (h : aX7_init_9 d p0 (jUp m p0 0 (-1)) Q) :
    aX7_init_4 d p0 m Q := jWp_snd [(4, [true]), (9, [true]), (14, [true]), (22, [false])] jcX7_init 4 rfl h
set_option maxRecDepth 100000 in
theorem gX7_init_9 (d : Nat) (p0 : Int) (m : jM) (Q : Int → jM → Prop)
    (h : aX7_init_14 d p0 (jUp m p0 1 0) Q) :
    aX7_init_9 d p0 m Q := jWp_snd [(4, [true]), (9, [true]), (14, [true]), (22, [false])] jcX7_init 4 rfl h
set_option maxRecDepth 100000 in
theorem gX7_init_14 (d : Nat) (p0 : Int) (m : jM) (Q : Int → jM → Prop)
    (h : (m (-3) 0 < m (-3) 1 ∧ jKd (m (-3) 0) = 21 ∧ jLn (m (-3) 0) = 40) ∧ (m (-3) 0) = (p0 + 1) ∧ aX7_init_22 d  (jUp (jNw m) p0 2 (m (-3) 0)) Q) :
    aX7_init_14 d p0 m Q := jWp_snd [(4, [true]), (9, [true]), (14, [true]), (22, [false])] jcX7_init 5 rfl h
set_option maxRecDepth 100000 in
theorem gX7_init_22 (d : Nat) (m : jM) (Q : Int → jM → Prop)
    (h : m (-3) 0 = m (-3) 1 ∧ Q 0 m) :
    aX7_init_22 d  m Q := jWp_snd [(4, [true]), (9, [true]), (14, [true]), (22, [false])] jcX7_init 2 rfl h
set_option maxRecDepth 100000 in
theorem gX7_become (d : Nat) (p0 x1 x2 : Int) (m : jM) (Q : Int → jM → Prop)
    (h : jK d zJ7_fill_d0a16 [jY 1 40 (p0 + 1), jL 0] (jUp (jUp m p0 0 x1) p0 1 x2) (fun v1 m1 => Q 0 m1)) :
    jK (d + 1) zX7_become [jO 7 p0, jI x1, jI x2] m Q := jWp_sn0 [] jcX7_become 12 rfl h
set_option maxRecDepth 100000 in
theorem gX7_holds (d : Nat) (p0 x1 x2 : Int) (m : jM) (Q : Int → jM → Prop)
    (h : (x1 < 0 → Q 0 m) ∧ (¬ x1 < 0 → (x2 < 0 → Q 0 m) ∧ (¬ x2 < 0 → ((m p0 1) < x1 → Q 0 m) ∧ (¬ (m p0 1) < x1 → ((w32 ((m p0 1) - x1)) < x2 → Q 0 m) ∧ (¬ (w32 ((m p0 1) - x1)) < x2 → Q 1 m))))) :
    jK (d + 1) zX7_holds [jO 7 p0, jI x1, jI x2] m Q := jWp_sn0 [] jcX7_holds 18 rfl h
set_option maxRecDepth 100000 in
theorem gX7_set (d : Nat) (p0 x1 x2 : Int) (m : jM) (Q : Int → jM → Prop)
    (h : ((m p0 0) = 1 → ((0 : Int) ≤ x1 ∧ (x1 : Int) < 40) ∧ Q 0 (jUp m (p0 + 1) x1 (w32 x2))) ∧ (¬ (m p0 0) = 1 → ((m p0 0) = 2 → ((0 : Int) ≤ x1 ∧ (x1 : Int) < 40) ∧ Q 0 (jUp m (p0 + 1) x1 (i2b (w32 x2)))) ∧ (¬ (m p0 0) = 2 → ((0 : Int) ≤ x1 ∧ (x1 : Int) < 40) ∧ Q 0 (jUp m (p0 + 1) x1 x2)))) :
    jK (d + 1) zX7_set [jO 7 p0, jI x1, jL x2] m Q := jWp_sn0 [] jcX7_set 19 rfl h
def aX8_init_4 (d : Nat) (p0 : Int) (m : jM) (Q : Int → jM → Prop) : Prop := jA (d + 1) zX8_init 4 [some (jO 8 p0)] [] m Q
def aX8_init_12 (d : Nat) (p0 : Int) (m : jM) (Q : Int → jM → Prop) : Prop := jA (d + 1) zX8_init 12 [some (jO 8 p0)] [] m Q
def aX8_init_17 (d : Nat) (p0 : Int) (m : jM) (Q : Int → jM → Prop) : Prop := jA (d + 1) zX8_init 17 [some (jO 8 p0)] [] m Q
def aX8_init_28 (d : Nat) (p0 : Int) (m : jM) (Q : Int → jM → Prop) : Prop := jA (d + 1) zX8_init 28 [some (jO 8 p0)] [] m Q
def aX8_init_33 (d : Nat) (p0 : Int) (m : jM) (Q : Int → jM → Prop) : Prop := jA (d + 1) zX8_init 33 [some (jO 8 p0)] [] m Q
def aX8_init_38 (d : Nat) (p0 : Int) (m : jM) (Q : Int → jM → Prop) : Prop := jA (d + 1) zX8_init 38 [some (jO 8 p0)] [] m Q
def aX8_init_43 (d : Nat) (p0 : Int) (m : jM) (Q : Int → jM → Prop) : Prop := jA (d + 1) zX8_init 43 [some (jO 8 p0)] [] m Q
def aX8_init_48 (d : Nat) (p0 : Int) (m : jM) (Q : Int → jM → Prop) : Prop := jA (d + 1) zX8_init 48 [some (jO 8 p0)] [] m Q
def aX8_init_53 (d : Nat) (p0 : Int) (m : jM) (Q : Int → jM → Prop) : Prop := jA (d + 1) zX8_init 53 [some (jO 8 p0)] [] m Q
def aX8_init_58 (d : Nat) (m : jM) (Q : Int → jM → Prop) : Prop := jA (d + 1) zX8_init 58 [none] [] m Q
set_option maxRecDepth 100000 in
theorem gX8_init (d : Nat) (p0 : Int) (m : jM) (Q : Int → jM → Prop)
    (h : aX8_init_4 d p0 m Q) :
    jK (d + 1) zX8_init [jO 8 p0] m Q := jWp_sn0 [(4, [true]), (12, [true]), (17, [true]), (28, [true]), (33, [true]), (38, [true]), (43, [true]), (48, [true]), (53, [true]), (58, [false])] jcX8_init 3 rfl h
set_option maxRecDepth 100000 in
theorem gX8_init_4 (d : Nat) (p0 : Int) (m : jM) (Q : Int → jM → Prop)
    (h : (m (-3) 0 < m (-3) 1 ∧ jKd (m (-3) 0) = 20 ∧ jLn (m (-3) 0) = 60) ∧ (m (-3) 0) = (p0 + 1) ∧ aX8_init_12 d p0 (jUp (jNw m) p0 0 (m (-3) 0)) Q) :
    aX8_init_4 d p0 m Q := jWp_snd [(4, [true]), (12, [true]), (17, [true]), (28, [true]), (33, [true]), (38, [true]), (43, [true]), (48, [true]), (53, [true]), (58, [false])] jcX8_init 5 rfl h
set_option maxRecDepth 100000 in
theorem gX8_init_12 (d : Nat) (p0 : Int) (m : jM) (Q : Int → jM → Prop)
    (h : aX8_init_17 d p0 (jUp m p0 1 0) Q) :
    aX8_init_12 d p0 m Q := jWp_snd [(4, [true]), (12, [true]), (17, [true]), (28, [true]), (33, [true]), (38, [true]), (43, [true]), (48, [true]), (53, [true]), (58, [false])] jcX8_init 4 rfl h
set_option maxRecDepth 100000 in
theorem gX8_init_17 (d : Nat) (p0 : Int) (m : jM) (Q : Int → jM → Prop)
    (h : (m (-3) 0 < m (-3) 1 ∧ jKd (m (-3) 0) = 6) ∧ jK d zX6_init [jO 6 (m (-3) 0)] (jLim (jNw m) zX6_init) (fun v1 m1 => aX8_init_28 d p0 (jUp (jUp m1 (-3) 1 ((jNw m) (-3) 1)) p0 2 (m (-3) 0)) Q)) :
    aX8_init_17 d p0 m Q := jWp_snd [(4, [true]), (12, [true]), (17, [true]), (28, [true]), (33, [true]), (38, [true]), (43, [true]), (48, [true]), (53, [true]), (58, [false])] jcX8_init 6 rfl h
set_option maxRecDepth 100000 in
theorem gX8_init_28 (d : Nat) (p0 : Int) (m : jM) (Q : Int → jM → Prop)
    (h : aX8_init_33 d p0 (jUp m p0 3 0) Q) :
    aX8_init_28 d p0 m Q := jWp_snd [(4, [true]), (12, [true]), (17, [true]), (28, [true]), (33, [true]), (38, [true]), (43, [true]), (48, [true]), (53, [true]), (58, [false])] jcX8_init 4 rfl h
set_option maxRecDepth 100000 in
theorem gX8_init_33 (d : Nat) (p0 : Int) (m : jM) (Q : Int → jM → Prop)
    (h : aX8_init_38 d p0 (jUp m p0 4 0) Q) :
    aX8_init_33 d p0 m Q := jWp_snd [(4, [true]), (12, [true]), (17, [true]), (28, [true]), (33, [true]), (38, [true]), (43, [true]), (48, [true]), (53, [true]), (58, [false])] jcX8_init 4 rfl h
set_option maxRecDepth 100000 in
theorem gX8_init_38 (d : Nat) (p0 : Int) (m : jM) (Q : Int → jM → Prop)
    (h : aX8_init_43 d p0 (jUp m p0 5 0) Q) :
    aX8_init_38 d p0 m Q := jWp_snd [(4, [true]), (12, [true]), (17, [true]), (28, [true]), (33, [true]), (38, [true]), (43, [true]), (48, [true]), (53, [true]), (58, [false])] jcX8_init 4 rfl h
set_option maxRecDepth 100000 in
theorem gX8_init_43 (d : Nat) (p0 : Int) (m : jM) (Q : Int → jM → Prop)
    (h : aX8_init_48 d p0 (jUp m p0 6 0) Q) :
    aX8_init_43 d p0 m Q := jWp_snd [(4, [true]), (12, [true]), (17, [true]), (28, [true]), (33, [true]), (38, [true]), (43, [true]), (48, [true]), (53, [true]), (58, [false])] jcX8_init 4 rfl h
set_option maxRecDepth 100000 in
theorem gX8_init_48 (d : Nat) (p0 : Int) (m : jM) (Q : Int → jM → Prop)
    (h : aX8_init_53 d p0 (jUp m p0 7 0) Q) :
    aX8_init_48 d p0 m Q := jWp_snd [(4, [true]), (12, [true]), (17, [true]), (28, [true]), (33, [true]), (38, [true]), (43, [true]), (48, [true]), (53, [true]), (58, [false])] jcX8_init 4 rfl h
set_option maxRecDepth 100000 in
theorem gX8_init_53 (d : Nat) (p0 : Int) (m : jM) (Q : Int → jM → Prop)
    (h : aX8_init_58 d  (jUp m p0 8 0) Q) :
    aX8_init_53 d p0 m Q := jWp_snd [(4, [true]), (12, [true]), (17, [true]), (28, [true]), (33, [true]), (38, [true]), (43, [true]), (48, [true]), (53, [true]), (58, [false])] jcX8_init 4 rfl h
set_option maxRecDepth 100000 in
theorem gX8_init_58 (d : Nat) (m : jM) (Q : Int → jM → Prop)
    (h : m (-3) 0 = m (-3) 1 ∧ Q 0 m) :
    aX8_init_58 d  m Q := jWp_snd [(4, [true]), (12, [true]), (17, [true]), (28, [true]), (33, [true]), (38, [true]), (43, [true]), (48, [true]), (53, [true]), (58, [false])] jcX8_init 2 rfl h
set_option maxRecDepth 100000 in
theorem gX8_add (d : Nat) (x1 : Int) (m : jM) (Q : Int → jM → Prop)
    (h : ((m 45 1) < 60 → ((0 : Int) ≤ (m 45 1) ∧ ((m 45 1) : Int) < 60) ∧ Q 1 (jUp (jUp m 46 (m 45 1) x1) 45 1 (w32 (((jUp m 46 (m 45 1) x1) 45 1) + 1)))) ∧ (¬ (m 45 1) < 60 → Q 0 m)) :
    jK (d + 1) zX8_add [jO 8 45, jI x1] m Q := jWp_sn0 [] jcX8_add 19 rfl h
set_option maxRecDepth 100000 in
theorem gX8_parse (d : Nat) (m : jM) (Q : Int → jM → Prop)
    (h : jK d zX6_clear [jO 6 (m 45 2)] m (fun v1 m1 => jK d zX8_step [jO 8 45] (jUp (jUp m1 45 3 0) 45 4 0) (fun v2 m2 => jK d zX8_expr [jO 8 45] m2 (fun v3 m3 => (v3 = 0 → Q (m3 45 6) m3) ∧ (¬ v3 = 0 → ((m3 45 5) = 0 → Q (-1) m3) ∧ (¬ (m3 45 5) = 0 → Q (m3 45 6) m3)))))) :
    jK (d + 1) zX8_parse [jO 8 45] m Q := jWp_sn0 [] jcX8_parse 21 rfl h
set_option maxRecDepth 100000 in
theorem gX8_expr (d : Nat) (m : jM) (Q : Int → jM → Prop)
    (h : jK d zX8_sum [jO 8 45] m (fun v1 m1 => (v1 = 0 → Q 0 m1) ∧ (¬ v1 = 0 → ((m1 45 5) = 60 → jK d zX8_part [jO 8 45] m1 (fun v2 m2 => (v2 = 0 → Q 0 m2) ∧ (¬ v2 = 0 → jK d zX8_sum [jO 8 45] m2 (fun v3 m3 => (v3 = 0 → Q 0 m3) ∧ (¬ v3 = 0 → ((m3 45 5) = 63 → jK d zX6_add [jO 6 (m3 45 2), jI 14, jI 0, jI (m1 45 6)] m3 (fun v4 m4 => jK d zX8_step [jO 8 45] m4 (fun v5 m5 => jK d zX8_expr [jO 8 45] m5 (fun v6 m6 => (v6 = 0 → Q 0 m6) ∧ (¬ v6 = 0 → ((m6 45 5) = 58 → jK d zX6_add [jO 6 (m6 45 2), jI 15, jI 0, jI (m6 45 6)] m6 (fun v7 m7 => jK d zX6_landHere [jO 6 (m7 45 2), jI (m3 (m3 45 2) 1)] m7 (fun v8 m8 => jK d zX8_step [jO 8 45] m8 (fun v9 m9 => jK d zX8_expr [jO 8 45] m9 (fun v10 m10 => (v10 = 0 → Q 0 m10) ∧ (¬ v10 = 0 → jK d zX6_landHere [jO 6 (m10 45 2), jI (m6 (m6 45 2) 1)] m10 (fun v11 m11 => Q 1 m11))))))) ∧ (¬ (m6 45 5) = 58 → Q 0 m6)))))) ∧ (¬ (m3 45 5) = 63 → Q 0 m3)))))) ∧ (¬ (m1 45 5) = 60 → Q 1 m1)))) :
    jK (d + 1) zX8_expr [jO 8 45] m Q := jWp_sn0 [] jcX8_expr 66 rfl h
def aX8_sum_11 (d : Nat) (x1 : Int) (m : jM) (Q : Int → jM → Prop) : Prop := jA (d + 1) zX8_sum 11 [some (jO 8 45), some (jI x1), none, none] [] m Q
def aX8_sum_35 (d : Nat) (x1 : Int) (m : jM) (Q : Int → jM → Prop) : Prop := jA (d + 1) zX8_sum 35 [some (jO 8 45), some (jI x1), none, none] [] m Q
set_option maxRecDepth 100000 in
theorem gX8_sum (d : Nat) (m : jM) (Q : Int → jM → Prop)
    (h : jK d zX8_product [jO 8 45] m (fun v1 m1 => (v1 = 0 → Q 0 m1) ∧ (¬ v1 = 0 → aX8_sum_11 d 0 m1 Q))) :
    jK (d + 1) zX8_sum [jO 8 45] m Q := jWp_sn0 [(11, [true, true, false, false]), (35, [true, true, false, false])] jcX8_sum 6 rfl h
set_option maxRecDepth 100000 in
theorem gX8_sum_11 (d : Nat) (x1 : Int) (m : jM) (Q : Int → jM → Prop)
    (h : (24 < x1 → Q 1 m) ∧ (¬ 24 < x1 → ((m 45 5) = 43 → aX8_sum_35 d x1 m Q) ∧ (¬ (m 45 5) = 43 → ((m 45 5) = 45 → aX8_sum_35 d x1 m Q) ∧ (¬ (m 45 5) = 45 → Q 1 m)))) :
    aX8_sum_11 d x1 m Q := jWp_snd [(11, [true, true, false, false]), (35, [true, true, false, false])] jcX8_sum 14 rfl h
set_option maxRecDepth 100000 in
theorem gX8_sum_35 (d : Nat) (x1 : Int) (m : jM) (Q : Int → jM → Prop)
    (h : ((m 45 5) = 43 → jK d zX8_part [jO 8 45] m (fun v1 m1 => (v1 = 0 → Q 0 m1) ∧ (¬ v1 = 0 → jK d zX8_product [jO 8 45] m1 (fun v2 m2 => (v2 = 0 → Q 0 m2) ∧ (¬ v2 = 0 → jK d zX6_add [jO 6 (m2 45 2), jI 7, jI 0, jI (m 45 6)] m2 (fun v3 m3 => aX8_sum_11 d (w32 (x1 + 1)) m3 Q)))))) ∧ (¬ (m 45 5) = 43 → jK d zX8_part [jO 8 45] m (fun v4 m4 => (v4 = 0 → Q 0 m4) ∧ (¬ v4 = 0 → jK d zX8_product [jO 8 45] m4 (fun v5 m5 => (v5 = 0 → Q 0 m5) ∧ (¬ v5 = 0 → jK d zX6_add [jO 6 (m5 45 2), jI 8, jI 0, jI (m 45 6)] m5 (fun v6 m6 => aX8_sum_11 d (w32 (x1 + 1)) m6 Q))))))) :
    aX8_sum_35 d x1 m Q := jWp_snd [(11, [true, true, false, false]), (35, [true, true, false, false])] jcX8_sum 25 rfl h
def aX8_product_11 (d : Nat) (x1 : Int) (m : jM) (Q : Int → jM → Prop) : Prop := jA (d + 1) zX8_product 11 [some (jO 8 45), some (jI x1), none] [] m Q
set_option maxRecDepth 100000 in
theorem gX8_product (d : Nat) (m : jM) (Q : Int → jM → Prop)
    (h : jK d zX8_factor [jO 8 45] m (fun v1 m1 => (v1 = 0 → Q 0 m1) ∧ (¬ v1 = 0 → aX8_product_11 d 0 m1 Q))) :
    jK (d + 1) zX8_product [jO 8 45] m Q := jWp_sn0 [(11, [true, true, false])] jcX8_product 6 rfl h
set_option maxRecDepth 100000 in
theorem gX8_product_11 (d : Nat) (x1 : Int) (m : jM) (Q : Int → jM → Prop)
    (h : (24 < x1 → Q 1 m) ∧ (¬ 24 < x1 → ((m 45 5) = 42 → jK d zX8_part [jO 8 45] m (fun v1 m1 => (v1 = 0 → Q 0 m1) ∧ (¬ v1 = 0 → jK d zX8_factor [jO 8 45] m1 (fun v2 m2 => (v2 = 0 → Q 0 m2) ∧ (¬ v2 = 0 → jK d zX6_add [jO 6 (m2 45 2), jI 9, jI 0, jI (m 45 6)] m2 (fun v3 m3 => aX8_product_11 d (w32 (x1 + 1)) m3 Q)))))) ∧ (¬ (m 45 5) = 42 → Q 1 m))) :
    aX8_product_11 d x1 m Q := jWp_snd [(11, [true, true, false])] jcX8_product 25 rfl h
def aX8_factor_4 (d : Nat) (x1 x2 : Int) (m : jM) (Q : Int → jM → Prop) : Prop := jA (d + 1) zX8_factor 4 [some (jO 8 45), some (jI x1), some (jI x2)] [] m Q
def aX8_factor_44 (d : Nat) (x1 : Int) (m : jM) (Q : Int → jM → Prop) : Prop := jA (d + 1) zX8_factor 44 [some (jO 8 45), some (jI x1), none] [] m Q
set_option maxRecDepth 100000 in
theorem gX8_factor (d : Nat) (m : jM) (Q : Int → jM → Prop)
    (h : aX8_factor_4 d 0 0 m Q) :
    jK (d + 1) zX8_factor [jO 8 45] m Q := jWp_sn0 [(4, [true, true, true]), (44, [true, true, false])] jcX8_factor 5 rfl h
set_option maxRecDepth 100000 in
theorem gX8_factor_4 (d : Nat) (x1 x2 : Int) (m : jM) (Q : Int → jM → Prop)
    (h : (24 < x2 → aX8_factor_44 d x1 m Q) ∧ (¬ 24 < x2 → ((m 45 5) = 45 → jK d zX8_part [jO 8 45] m (fun v1 m1 => (v1 = 0 → Q 0 m1) ∧ (¬ v1 = 0 → (x1 = 0 → aX8_factor_4 d 1 (w32 (x2 + 1)) m1 Q) ∧ (¬ x1 = 0 → aX8_factor_4 d 0 (w32 (x2 + 1)) m1 Q)))) ∧ (¬ (m 45 5) = 45 → aX8_factor_44 d x1 m Q))) :
    aX8_factor_4 d x1 x2 m Q := jWp_snd [(4, [true, true, true]), (44, [true, true, false])] jcX8_factor 18 rfl h
set_option maxRecDepth 100000 in
theorem gX8_factor_44 (d : Nat) (x1 : Int) (m : jM) (Q : Int → jM → Prop)
    (h : jK d zX8_atom [jO 8 45] m (fun v1 m1 => (v1 = 0 → Q 0 m1) ∧ (¬ v1 = 0 → (x1 = 0 → Q 1 m1) ∧ (¬ x1 = 0 → jK d zX6_add [jO 6 (m1 45 2), jI 5, jI 0, jI 0] m1 (fun v2 m2 => Q 1 m2))))) :
    aX8_factor_44 d x1 m Q := jWp_snd [(4, [true, true, true]), (44, [true, true, false])] jcX8_factor 14 rfl h
set_option maxRecDepth 100000 in
theorem gX8_atom (d : Nat) (m : jM) (Q : Int → jM → Prop)
    (h : ((m 45 5) = 1 → jK d zX6_add [jO 6 (m 45 2), jI (m 45 7), jI (m 45 8), jI (m 45 6)] m (fun v1 m1 => jK d zX8_part [jO 8 45] m1 (fun v2 m2 => (if v2 = 0 ∨ v2 = 1 then Q v2 m2 else False)))) ∧ ((m 45 5) = 2 → jK d zX8_function [jO 8 45] m (fun v3 m3 => (if v3 = 0 ∨ v3 = 1 then Q v3 m3 else False))) ∧ ((m 45 5) = 40 → jK d zX8_enter [jO 8 45] m (fun v4 m4 => (v4 = 0 → Q 0 m4) ∧ (¬ v4 = 0 → jK d zX8_expr [jO 8 45] m4 (fun v5 m5 => (v5 = 0 → Q 0 m5) ∧ (¬ v5 = 0 → jK d zX8_leave [jO 8 45, jI 41] m5 (fun v6 m6 => (v6 = 0 → Q 0 m6) ∧ (¬ v6 = 0 → Q 1 m6))))))) ∧ ((m 45 5) = 124 → ((m (m 45 2) 0) < 24 → jK d zX8_enter [jO 8 45] m (fun v7 m7 => (v7 = 0 → Q 0 m7) ∧ (¬ v7 = 0 → jK d zX8_expr [jO 8 45] m7 (fun v8 m8 => (v8 = 0 → Q 0 m8) ∧ (¬ v8 = 0 → jK d zX8_leave [jO 8 45, jI 124] m8 (fun v9 m9 => (v9 = 0 → Q 0 m9) ∧ (¬ v9 = 0 → jK d zX6_add [jO 6 (m9 45 2), jI 6, jI 0, jI 0] m9 (fun v10 m10 => Q 1 m10)))))))) ∧ (¬ (m (m 45 2) 0) < 24 → Q 0 m)) ∧ ((∀ q ∈ [((1 : Int), (48 : Int)), ((2 : Int), (151 : Int)), ((40 : Int), (72 : Int)), ((124 : Int), (101 : Int))], (m 45 5) ≠ (q : Int × Int).1) → Q 0 m) ∧ True) :
    jK (d + 1) zX8_atom [jO 8 45] m Q := jWp_sn0 [] jcX8_atom 27 rfl h
set_option maxRecDepth 100000 in
theorem gX8_function (d : Nat) (m : jM) (Q : Int → jM → Prop)
    (h : jK d zX8_part [jO 8 45] m (fun v1 m1 => (v1 = 0 → Q 0 m1) ∧ (¬ v1 = 0 → ((m1 45 5) = 40 → jK d zX8_enter [jO 8 45] m1 (fun v2 m2 => (v2 = 0 → Q 0 m2) ∧ (¬ v2 = 0 → jK d zX8_expr [jO 8 45] m2 (fun v3 m3 => (v3 = 0 → Q 0 m3) ∧ (¬ v3 = 0 → ((m3 45 5) = 44 → jK d zX8_step [jO 8 45] m3 (fun v4 m4 => jK d zX8_expr [jO 8 45] m4 (fun v5 m5 => (v5 = 0 → Q 0 m5) ∧ (¬ v5 = 0 → jK d zX8_leave [jO 8 45, jI 41] m5 (fun v6 m6 => (v6 = 0 → Q 0 m6) ∧ (¬ v6 = 0 → jK d zX6_add [jO 6 (m6 45 2), jI (m 45 7), jI 0, jI (m 45 6)] m6 (fun v7 m7 => Q 1 m7))))))) ∧ (¬ (m3 45 5) = 44 → Q 0 m3)))))) ∧ (¬ (m1 45 5) = 40 → Q 0 m1)))) :
    jK (d + 1) zX8_function [jO 8 45] m Q := jWp_sn0 [] jcX8_function 41 rfl h
set_option maxRecDepth 100000 in
theorem gX8_part (d : Nat) (m : jM) (Q : Int → jM → Prop)
    (h : ((m (m 45 2) 0) < 24 → jK d zX8_step [jO 8 45] (jUp m (m 45 2) 0 (w32 ((m (m 45 2) 0) + 1))) (fun v1 m1 => Q 1 m1)) ∧ (¬ (m (m 45 2) 0) < 24 → Q 0 m)) :
    jK (d + 1) zX8_part [jO 8 45] m Q := jWp_sn0 [] jcX8_part 17 rfl h
set_option maxRecDepth 100000 in
theorem gX8_enter (d : Nat) (m : jM) (Q : Int → jM → Prop)
    (h : ((m 45 4) < 5 → ((m 45 5) = 124 → jK d zX8_step [jO 8 45] (jUp (jUp m (m 45 2) 0 (w32 ((m (m 45 2) 0) + 1))) 45 4 (w32 (((jUp m (m 45 2) 0 (w32 ((m (m 45 2) 0) + 1))) 45 4) + 1))) (fun v1 m1 => Q 1 m1)) ∧ (¬ (m 45 5) = 124 → jK d zX8_step [jO 8 45] (jUp m 45 4 (w32 ((m 45 4) + 1))) (fun v2 m2 => Q 1 m2))) ∧ (¬ (m 45 4) < 5 → Q 0 m)) :
    jK (d + 1) zX8_enter [jO 8 45] m Q := jWp_sn0 [] jcX8_enter 26 rfl h
set_option maxRecDepth 100000 in
theorem gX8_leave (d : Nat) (x1 : Int) (m : jM) (Q : Int → jM → Prop)
    (h : ((m 45 5) = x1 → jK d zX8_step [jO 8 45] (jUp m 45 4 (w32 ((m 45 4) - 1))) (fun v1 m1 => Q 1 m1)) ∧ (¬ (m 45 5) = x1 → Q 0 m)) :
    jK (d + 1) zX8_leave [jO 8 45, jI x1] m Q := jWp_sn0 [] jcX8_leave 15 rfl h
def aX8_step_0 (d : Nat) (m : jM) (Q : Int → jM → Prop) : Prop := jA (d + 1) zX8_step 0 [some (jO 8 45), none] [] m Q
def aX8_step_38 (d : Nat) (m : jM) (Q : Int → jM → Prop) : Prop := jA (d + 1) zX8_step 38 [some (jO 8 45), none] [] m Q
set_option maxRecDepth 100000 in
theorem gX8_step (d : Nat) (m : jM) (Q : Int → jM → Prop)
    (h : aX8_step_0 d  m Q) :
    jK (d + 1) zX8_step [jO 8 45] m Q := jWp_c0 [true, false] h
set_option maxRecDepth 100000 in
theorem gX8_step_0 (d : Nat) (m : jM) (Q : Int → jM → Prop)
    (h : ((m 45 3) < (m 45 1) → ((0 : Int) ≤ (m 45 3) ∧ ((m 45 3) : Int) < 60) ∧ ((m 46 (m 45 3)) = 32 → aX8_step_0 d  (jUp m 45 3 (w32 ((m 45 3) + 1))) Q) ∧ (¬ (m 46 (m 45 3)) = 32 → aX8_step_38 d  m Q)) ∧ (¬ (m 45 3) < (m 45 1) → aX8_step_38 d  m Q)) :
    aX8_step_0 d  m Q := jWp_snd [(0, [true, false]), (38, [true, false])] jcX8_step 20 rfl h
set_option maxRecDepth 100000 in
theorem gX8_step_38 (d : Nat) (m : jM) (Q : Int → jM → Prop)
    (h : (((jUp m 45 6 (m 45 3)) 45 3) < ((jUp m 45 6 (m 45 3)) 45 1) → ((0 : Int) ≤ ((jUp m 45 6 (m 45 3)) 45 3) ∧ (((jUp m 45 6 (m 45 3)) 45 3) : Int) < 60) ∧ jK d zX8_isLetter [jI ((jUp m 45 6 (m 45 3)) 46 ((jUp m 45 6 (m 45 3)) 45 3))] (jUp (jUp m 45 6 (m 45 3)) 45 3 (w32 (((jUp m 45 6 (m 45 3)) 45 3) + 1))) (fun v1 m1 => (v1 = 0 → jK d zX8_isDigit [jI ((jUp m 45 6 (m 45 3)) 46 ((jUp m 45 6 (m 45 3)) 45 3))] m1 (fun v2 m2 => (v2 = 0 → jK d zX8_isSign [jI ((jUp m 45 6 (m 45 3)) 46 ((jUp m 45 6 (m 45 3)) 45 3))] m2 (fun v3 m3 => (v3 = 0 → Q 0 (jUp m3 45 5 3)) ∧ (¬ v3 = 0 → Q 0 (jUp m3 45 5 ((jUp m 45 6 (m 45 3)) 46 ((jUp m 45 6 (m 45 3)) 45 3)))))) ∧ (¬ v2 = 0 → jK d zX8_digits [jO 8 45, jI ((jUp m 45 6 (m 45 3)) 46 ((jUp m 45 6 (m 45 3)) 45 3))] m2 (fun v4 m4 => Q 0 m4)))) ∧ (¬ v1 = 0 → jK d zX8_word [jO 8 45, jI ((jUp m 45 6 (m 45 3)) 46 ((jUp m 45 6 (m 45 3)) 45 3))] m1 (fun v5 m5 => Q 0 m5)))) ∧ (¬ ((jUp m 45 6 (m 45 3)) 45 3) < ((jUp m 45 6 (m 45 3)) 45 1) → Q 0 (jUp (jUp m 45 6 (m 45 3)) 45 5 0))) :
    aX8_step_38 d  m Q := jWp_snd [(0, [true, false]), (38, [true, false])] jcX8_step 36 rfl h
def aX8_word_0 (d : Nat) (x1 : Int) (m : jM) (Q : Int → jM → Prop) : Prop := jA (d + 1) zX8_word 0 [some (jO 8 45), some (jI x1), none] [] m Q
def aX8_word_39 (d : Nat) (x1 : Int) (m : jM) (Q : Int → jM → Prop) : Prop := jA (d + 1) zX8_word 39 [some (jO 8 45), some (jI x1), none] [] m Q
set_option maxRecDepth 100000 in
theorem gX8_word (d : Nat) (x1 : Int) (m : jM) (Q : Int → jM → Prop)
    (h : aX8_word_0 d x1 m Q) :
    jK (d + 1) zX8_word [jO 8 45, jI x1] m Q := jWp_c0 [true, true, false] h
set_option maxRecDepth 100000 in
theorem gX8_word_0 (d : Nat) (x1 : Int) (m : jM) (Q : Int → jM → Prop)
    (h : ((m 45 3) < (m 45 1) → ((0 : Int) ≤ (m 45 3) ∧ ((m 45 3) : Int) < 60) ∧ jK d zX8_isLetter [jI (m 46 (m 45 3))] m (fun v1 m1 => (v1 = 0 → aX8_word_39 d x1 m1 Q) ∧ (¬ v1 = 0 → aX8_word_0 d x1 (jUp m1 45 3 (w32 ((m1 45 3) + 1))) Q))) ∧ (¬ (m 45 3) < (m 45 1) → aX8_word_39 d x1 m Q)) :
    aX8_word_0 d x1 m Q := jWp_snd [(0, [true, true, false]), (39, [true, true, false])] jcX8_word 20 rfl h
set_option maxRecDepth 100000 in
theorem gX8_word_39 (d : Nat) (x1 : Int) (m : jM) (Q : Int → jM → Prop)
    (h : ((w32 ((m 45 3) - (m 45 6))) = 1 → jK d zX8_nameOfOne [jO 8 45, jI x1] m (fun v1 m1 => Q 0 m1)) ∧ (¬ (w32 ((m 45 3) - (m 45 6))) = 1 → ((w32 ((m 45 3) - (m 45 6))) = 3 → ((0 : Int) ≤ (w32 ((m 45 6) + 1)) ∧ ((w32 ((m 45 6) + 1)) : Int) < 60) ∧ ((0 : Int) ≤ (w32 ((m 45 6) + 2)) ∧ ((w32 ((m 45 6) + 2)) : Int) < 60) ∧ jK d zX8_nameOfThree [jO 8 45, jI x1, jI (m 46 (w32 ((m 45 6) + 1))), jI (m 46 (w32 ((m 45 6) + 2)))] m (fun v2 m2 => Q 0 m2)) ∧ (¬ (w32 ((m 45 3) - (m 45 6))) = 3 → Q 0 (jUp m 45 5 3)))) :
    aX8_word_39 d x1 m Q := jWp_snd [(0, [true, true, false]), (39, [true, true, false])] jcX8_word 32 rfl h
set_option maxRecDepth 100000 in
theorem gX8_nameOfOne (d : Nat) (x1 : Int) (m : jM) (Q : Int → jM → Prop)
    (h : (99 < x1 → (x1 < 120 → (x1 < 112 → Q 0 (jUp (jUp m 45 5 1) 45 5 3)) ∧ (¬ x1 < 112 → (115 < x1 → Q 0 (jUp (jUp m 45 5 1) 45 5 3)) ∧ (¬ 115 < x1 → Q 0 (jUp (jUp (jUp m 45 5 1) 45 7 4) 45 8 (w32 (x1 - 112)))))) ∧ (¬ x1 < 120 → Q 0 (jUp (jUp (jUp m 45 5 1) 45 7 3) 45 8 (w32 (x1 - 120))))) ∧ (¬ 99 < x1 → Q 0 (jUp (jUp (jUp m 45 5 1) 45 7 2) 45 8 (w32 (x1 - 97))))) :
    jK (d + 1) zX8_nameOfOne [jO 8 45, jI x1] m Q := jWp_sn0 [] jcX8_nameOfOne 26 rfl h
def aX8_nameOfThree_32 (d : Nat) (x1 x2 x3 : Int) (m : jM) (Q : Int → jM → Prop) : Prop := jA (d + 1) zX8_nameOfThree 32 [some (jO 8 45), some (jI x1), some (jI x2), some (jI x3)] [] m Q
def aX8_nameOfThree_86 (d : Nat) (x1 x2 x3 : Int) (m : jM) (Q : Int → jM → Prop) : Prop := jA (d + 1) zX8_nameOfThree 86 [some (jO 8 45), some (jI x1), some (jI x2), some (jI x3)] [] m Q
set_option maxRecDepth 100000 in
theorem gX8_nameOfThree (d : Nat) (x1 x2 x3 : Int) (m : jM) (Q : Int → jM → Prop)
    (h : (x1 = 109 → (x2 = 105 → (x3 = 110 → Q 0 (jUp (jUp m 45 5 2) 45 7 10)) ∧ (¬ x3 = 110 → aX8_nameOfThree_32 d x1 x2 x3 (jUp m 45 5 2) Q)) ∧ (¬ x2 = 105 → aX8_nameOfThree_32 d x1 x2 x3 (jUp m 45 5 2) Q)) ∧ (¬ x1 = 109 → aX8_nameOfThree_32 d x1 x2 x3 (jUp m 45 5 2) Q)) :
    jK (d + 1) zX8_nameOfThree [jO 8 45, jI x1, jI x2, jI x3] m Q := jWp_sn0 [(32, [true, true, true, true]), (86, [true, true, true, true])] jcX8_nameOfThree 18 rfl h
set_option maxRecDepth 100000 in
theorem gX8_nameOfThree_32 (d : Nat) (x1 x2 x3 : Int) (m : jM) (Q : Int → jM → Prop)
    (h : (x1 = 109 → (x2 = 97 → (x3 = 120 → Q 0 (jUp m 45 7 11)) ∧ (¬ x3 = 120 → (x1 = 100 → (x2 = 105 → (x3 = 118 → Q 0 (jUp m 45 7 12)) ∧ (¬ x3 = 118 → aX8_nameOfThree_86 d x1 x2 x3 m Q)) ∧ (¬ x2 = 105 → aX8_nameOfThree_86 d x1 x2 x3 m Q)) ∧ (¬ x1 = 100 → aX8_nameOfThree_86 d x1 x2 x3 m Q))) ∧ (¬ x2 = 97 → (x1 = 100 → (x2 = 105 → (x3 = 118 → Q 0 (jUp m 45 7 12)) ∧ (¬ x3 = 118 → aX8_nameOfThree_86 d x1 x2 x3 m Q)) ∧ (¬ x2 = 105 → aX8_nameOfThree_86 d x1 x2 x3 m Q)) ∧ (¬ x1 = 100 → aX8_nameOfThree_86 d x1 x2 x3 m Q))) ∧ (¬ x1 = 109 → (x1 = 100 → (x2 = 105 → (x3 = 118 → Q 0 (jUp m 45 7 12)) ∧ (¬ x3 = 118 → aX8_nameOfThree_86 d x1 x2 x3 m Q)) ∧ (¬ x2 = 105 → aX8_nameOfThree_86 d x1 x2 x3 m Q)) ∧ (¬ x1 = 100 → aX8_nameOfThree_86 d x1 x2 x3 m Q))) :
    aX8_nameOfThree_32 d x1 x2 x3 m Q := jWp_snd [(32, [true, true, true, true]), (86, [true, true, true, true])] jcX8_nameOfThree 24 rfl h
set_option maxRecDepth 100000 in
theorem gX8_nameOfThree_86 (d : Nat) (x1 x2 x3 : Int) (m : jM) (Q : Int → jM → Prop)
    (h : (x1 = 109 → (x2 = 111 → (x3 = 100 → Q 0 (jUp m 45 7 13)) ∧ (¬ x3 = 100 → Q 0 (jUp m 45 5 3))) ∧ (¬ x2 = 111 → Q 0 (jUp m 45 5 3))) ∧ (¬ x1 = 109 → Q 0 (jUp m 45 5 3))) :
    aX8_nameOfThree_86 d x1 x2 x3 m Q := jWp_snd [(32, [true, true, true, true]), (86, [true, true, true, true])] jcX8_nameOfThree 15 rfl h
def aX8_digits_18 (d : Nat) (m : jM) (Q : Int → jM → Prop) : Prop := jA (d + 1) zX8_digits 18 [some (jO 8 45), none] [] m Q
set_option maxRecDepth 100000 in
theorem gX8_digits (d : Nat) (x1 : Int) (m : jM) (Q : Int → jM → Prop)
    (h : aX8_digits_18 d  (jUp (jUp (jUp m 45 5 1) 45 7 1) 45 8 (w32 (x1 - 48))) Q) :
    jK (d + 1) zX8_digits [jO 8 45, jI x1] m Q := jWp_sn0 [(18, [true, false])] jcX8_digits 12 rfl h
set_option maxRecDepth 100000 in
theorem gX8_digits_18 (d : Nat) (m : jM) (Q : Int → jM → Prop)
    (h : ((m 45 3) < (m 45 1) → ((0 : Int) ≤ (m 45 3) ∧ ((m 45 3) : Int) < 60) ∧ jK d zX8_isDigit [jI (m 46 (m 45 3))] m (fun v1 m1 => (v1 = 0 → (4 < (w32 ((m1 45 3) - (m1 45 6))) → Q 0 (jUp m1 45 5 3)) ∧ (¬ 4 < (w32 ((m1 45 3) - (m1 45 6))) → Q 0 m1)) ∧ (¬ v1 = 0 → ((0 : Int) ≤ (m1 45 3) ∧ ((m1 45 3) : Int) < 60) ∧ aX8_digits_18 d  (jUp (jUp m1 45 8 (w32 ((w32 ((w32 ((m1 45 8) * 10)) + (m1 46 (m1 45 3)))) - 48))) 45 3 (w32 (((jUp m1 45 8 (w32 ((w32 ((w32 ((m1 45 8) * 10)) + (m1 46 (m1 45 3)))) - 48))) 45 3) + 1))) Q))) ∧ (¬ (m 45 3) < (m 45 1) → (4 < (w32 ((m 45 3) - (m 45 6))) → Q 0 (jUp m 45 5 3)) ∧ (¬ 4 < (w32 ((m 45 3) - (m 45 6))) → Q 0 m))) :
    aX8_digits_18 d  m Q := jWp_snd [(18, [true, false])] jcX8_digits 34 rfl h
set_option maxRecDepth 100000 in
theorem gX8_isLetter (d : Nat) (x0 : Int) (m : jM) (Q : Int → jM → Prop)
    (h : (x0 < 97 → Q 0 m) ∧ (¬ x0 < 97 → (122 < x0 → Q 0 m) ∧ (¬ 122 < x0 → Q 1 m))) :
    jK (d + 1) zX8_isLetter [jI x0] m Q := jWp_sn0 [] jcX8_isLetter 10 rfl h
set_option maxRecDepth 100000 in
theorem gX8_isDigit (d : Nat) (x0 : Int) (m : jM) (Q : Int → jM → Prop)
    (h : (x0 < 48 → Q 0 m) ∧ (¬ x0 < 48 → (57 < x0 → Q 0 m) ∧ (¬ 57 < x0 → Q 1 m))) :
    jK (d + 1) zX8_isDigit [jI x0] m Q := jWp_sn0 [] jcX8_isDigit 10 rfl h
set_option maxRecDepth 100000 in
theorem gX8_isSign (d : Nat) (x0 : Int) (m : jM) (Q : Int → jM → Prop)
    (h : (x0 = 40 → Q 1 m) ∧ (x0 = 41 → Q 1 m) ∧ (x0 = 42 → Q 1 m) ∧ (x0 = 43 → Q 1 m) ∧ (x0 = 44 → Q 1 m) ∧ (x0 = 45 → Q 1 m) ∧ (x0 = 58 → Q 1 m) ∧ (x0 = 60 → Q 1 m) ∧ (x0 = 63 → Q 1 m) ∧ (x0 = 124 → Q 1 m) ∧ ((∀ q ∈ [((40 : Int), (92 : Int)), ((41 : Int), (92 : Int)), ((42 : Int), (92 : Int)), ((43 : Int), (92 : Int)), ((44 : Int), (92 : Int)), ((45 : Int), (92 : Int)), ((58 : Int), (92 : Int)), ((60 : Int), (92 : Int)), ((63 : Int), (92 : Int)), ((124 : Int), (92 : Int))], x0 ≠ (q : Int × Int).1) → Q 0 m) ∧ True) :
    jK (d + 1) zX8_isSign [jI x0] m Q := jWp_sn0 [] jcX8_isSign 5 rfl h
def aX9_init_4 (d : Nat) (p0 : Int) (m : jM) (Q : Int → jM → Prop) : Prop := jA (d + 1) zX9_init 4 [some (jO 9 p0)] [] m Q
def aX9_init_13 (d : Nat) (p0 : Int) (m : jM) (Q : Int → jM → Prop) : Prop := jA (d + 1) zX9_init 13 [some (jO 9 p0)] [] m Q
def aX9_init_20 (d : Nat) (p0 : Int) (m : jM) (Q : Int → jM → Prop) : Prop := jA (d + 1) zX9_init 20 [some (jO 9 p0)] [] m Q
def aX9_init_25 (d : Nat) (p0 : Int) (m : jM) (Q : Int → jM → Prop) : Prop := jA (d + 1) zX9_init 25 [some (jO 9 p0)] [] m Q
def aX9_init_30 (d : Nat) (p0 : Int) (m : jM) (Q : Int → jM → Prop) : Prop := jA (d + 1) zX9_init 30 [some (jO 9 p0)] [] m Q
def aX9_init_35 (d : Nat) (p0 : Int) (m : jM) (Q : Int → jM → Prop) : Prop := jA (d + 1) zX9_init 35 [some (jO 9 p0)] [] m Q
def aX9_init_40 (d : Nat) (p0 : Int) (m : jM) (Q : Int → jM → Prop) : Prop := jA (d + 1) zX9_init 40 [some (jO 9 p0)] [] m Q
def aX9_init_45 (d : Nat) (m : jM) (Q : Int → jM → Prop) : Prop := jA (d + 1) zX9_init 45 [none] [] m Q
set_option maxRecDepth 100000 in
theorem gX9_init (d : Nat) (p0 : Int) (m : jM) (Q : Int → jM → Prop)
    (h : aX9_init_4 d p0 m Q) :
    jK (d + 1) zX9_init [jO 9 p0] m Q := jWp_sn0 [(4, [true]), (13, [true]), (20, [true]), (25, [true]), (30, [true]), (35, [true]), (40, [true]), (45, [false])] jcX9_init 3 rfl h
set_option maxRecDepth 100000 in
theorem gX9_init_4 (d : Nat) (p0 : Int) (m : jM) (Q : Int → jM → Prop)
    (h : (m (-3) 0 < m (-3) 1 ∧ jKd (m (-3) 0) = 21 ∧ jLn (m (-3) 0) = 160) ∧ (m (-3) 0) = (p0 + 1) ∧ aX9_init_13 d p0 (jUp (jNw m) p0 0 (m (-3) 0)) Q) :
    aX9_init_4 d p0 m Q := jWp_snd [(4, [true]), (13, [true]), (20, [true]), (25, [true]), (30, [true]), (35, [true]), (40, [true]), (45, [false])] jcX9_init 5 rfl h
set_option maxRecDepth 100000 in
theorem gX9_init_13 (d : Nat) (p0 : Int) (m : jM) (Q : Int → jM → Prop)
    (h : (m (-3) 0 < m (-3) 1 ∧ jKd (m (-3) 0) = 20 ∧ jLn (m (-3) 0) = 4) ∧ (m (-3) 0) = (p0 + 2) ∧ aX9_init_20 d p0 (jUp (jNw m) p0 1 (m (-3) 0)) Q) :
    aX9_init_13 d p0 m Q := jWp_snd [(4, [true]), (13, [true]), (20, [true]), (25, [true]), (30, [true]), (35, [true]), (40, [true]), (45, [false])] jcX9_init 5 rfl h
set_option maxRecDepth 100000 in
theorem gX9_init_20 (d : Nat) (p0 : Int) (m : jM) (Q : Int → jM → Prop)
    (h : aX9_init_25 d p0 (jUp m p0 2 0) Q) :
    aX9_init_20 d p0 m Q := jWp_snd [(4, [true]), (13, [true]), (20, [true]), (25, [true]), (30, [true]), (35, [true]), (40, [true]), (45, [false])] jcX9_init 4 rfl h
set_option maxRecDepth 100000 in
theorem gX9_init_25 (d : Nat) (p0 : Int) (m : jM) (Q : Int → jM → Prop)
    (h : aX9_init_30 d p0 (jUp m p0 3 (-1)) Q) :
    aX9_init_25 d p0 m Q := jWp_snd [(4, [true]), (13, [true]), (20, [true]), (25, [true]), (30, [true]), (35, [true]), (40, [true]), (45, [false])] jcX9_init 4 rfl h
set_option maxRecDepth 100000 in
theorem gX9_init_30 (d : Nat) (p0 : Int) (m : jM) (Q : Int → jM → Prop)
    (h : aX9_init_35 d p0 (jUp m p0 4 0) Q) :
    aX9_init_30 d p0 m Q := jWp_snd [(4, [true]), (13, [true]), (20, [true]), (25, [true]), (30, [true]), (35, [true]), (40, [true]), (45, [false])] jcX9_init 4 rfl h
set_option maxRecDepth 100000 in
theorem gX9_init_35 (d : Nat) (p0 : Int) (m : jM) (Q : Int → jM → Prop)
    (h : aX9_init_40 d p0 (jUp m p0 5 (-1)) Q) :
    aX9_init_35 d p0 m Q := jWp_snd [(4, [true]), (13, [true]), (20, [true]), (25, [true]), (30, [true]), (35, [true]), (40, [true]), (45, [false])] jcX9_init 4 rfl h
set_option maxRecDepth 100000 in
theorem gX9_init_40 (d : Nat) (p0 : Int) (m : jM) (Q : Int → jM → Prop)
    (h : aX9_init_45 d  (jUp m p0 6 (-1)) Q) :
    aX9_init_40 d p0 m Q := jWp_snd [(4, [true]), (13, [true]), (20, [true]), (25, [true]), (30, [true]), (35, [true]), (40, [true]), (45, [false])] jcX9_init 4 rfl h
set_option maxRecDepth 100000 in
theorem gX9_init_45 (d : Nat) (m : jM) (Q : Int → jM → Prop)
    (h : m (-3) 0 = m (-3) 1 ∧ Q 0 m) :
    aX9_init_45 d  m Q := jWp_snd [(4, [true]), (13, [true]), (20, [true]), (25, [true]), (30, [true]), (35, [true]), (40, [true]), (45, [false])] jcX9_init 2 rfl h
set_option maxRecDepth 100000 in
theorem gX9_burdenOf (d : Nat) (x2 : Int) (m : jM) (Q : Int → jM → Prop)
    (h : ((0 : Int) ≤ x2 ∧ (x2 : Int) < 64) ∧ ((m 3 x2) = (-1) → jK d zX9_read [jO 9 51, jO 0 1, jI 0, jI x2, jI 0] m (fun v1 m1 => (v1 = (-4611686018427387904) → Q (-4611686018427387904) m1) ∧ (¬ v1 = (-4611686018427387904) → jK d zJ9_max_f86c9 [jL v1, jL 0] m1 (fun v2 m2 => Q v2 m2)))) ∧ (¬ (m 3 x2) = (-1) → ((0 : Int) ≤ x2 ∧ (x2 : Int) < 64) ∧ Q (m 3 x2) m)) :
    jK (d + 1) zX9_burdenOf [jO 9 51, jO 0 1, jI x2] m Q := jWp_sn0 [] jcX9_burdenOf 21 rfl h
def aX9_read_51 (d : Nat) (x3 x4 p5 x6 x7 x8 x9 : Int) (m : jM) (Q : Int → jM → Prop) : Prop := jA (d + 1) zX9_read 51 [some (jO 9 51), some (jO 0 1), none, some (jI x3), some (jI x4), some (jO 6 p5), some (jI x6), some (jI x7), some (jI x8), some (jI x9), none, none, none, none, none] [] m Q
def aX9_read_330 (d : Nat) (x4 x12 x13 : Int) (m : jM) (Q : Int → jM → Prop) : Prop := jA (d + 1) zX9_read 330 [some (jO 9 51), none, none, none, some (jI x4), none, none, none, none, none, none, none, some (jI x12), some (jL x13), none] [] m Q
set_option maxRecDepth 100000 in
theorem gX9_read (d : Nat) (x2 x3 x4 : Int) (m : jM) (Q : Int → jM → Prop)
    (h : (x4 < 4 → ((0 : Int) ≤ x4 ∧ (x4 : Int) < 4) ∧ ((0 : Int) ≤ x2 ∧ (x2 : Int) < 4) ∧ ((0 : Int) ≤ (w32 (x4 * 40)) ∧ ((w32 (x4 * 40)) : Int) < 160) ∧ aX9_read_51 d x3 x4 ((jUp m 53 x4 x2) 5 x2) (w32 (x4 * 40)) (w32 (x4 * 40)) 0 0 (jUp (jUp m 53 x4 x2) 52 (w32 (x4 * 40)) 0) Q) ∧ (¬ x4 < 4 → Q (-4611686018427387904) m)) :
    jK (d + 1) zX9_read [jO 9 51, jO 0 1, jI x2, jI x3, jI x4] m Q := jWp_sn0 [(51, [true, true, false, true, true, true, true, true, true, true, false, false, false, false, false]), (330, [true, false, false, false, true, false, false, false, false, false, false, false, true, true, false])] jcX9_read 29 rfl h
set_option maxRecDepth 100000 in
theorem gX9_read_51 (d : Nat) (x3 x4 p5 x6 x7 x8 x9 : Int) (m : jM) (Q : Int → jM → Prop)
    (h : (x9 < (m p5 1) → (x8 < (m p5 1) → ((0 : Int) ≤ x8 ∧ (x8 : Int) < 40) ∧ ((0 : Int) ≤ x8 ∧ (x8 : Int) < 40) ∧ ((0 : Int) ≤ x8 ∧ (x8 : Int) < 40) ∧ (4 < (m (p5 + 1) x8) → ((m (p5 + 1) x8) = 15 → aX9_read_51 d x3 x4 p5 x6 x7 (m (p5 + 2) x8) (w32 (x9 + 1)) m Q) ∧ (¬ (m (p5 + 1) x8) = 15 → ((m (p5 + 1) x8) = 5 → ((0 : Int) ≤ (w32 (x7 - 1)) ∧ ((w32 (x7 - 1)) : Int) < 160) ∧ ((0 : Int) ≤ (w32 (x7 - 1)) ∧ ((w32 (x7 - 1)) : Int) < 160) ∧ aX9_read_51 d x3 x4 p5 x6 x7 (w32 (x8 + 1)) (w32 (x9 + 1)) (jUp m 52 (w32 (x7 - 1)) (w64 (-(m 52 (w32 (x7 - 1)))))) Q) ∧ (¬ (m (p5 + 1) x8) = 5 → ((m (p5 + 1) x8) = 6 → ((0 : Int) ≤ (w32 (x7 - 1)) ∧ ((w32 (x7 - 1)) : Int) < 160) ∧ jK d zJ9_abs_067f4 [jL (m 52 (w32 (x7 - 1)))] m (fun v1 m1 => ((0 : Int) ≤ (w32 (x7 - 1)) ∧ ((w32 (x7 - 1)) : Int) < 160) ∧ aX9_read_51 d x3 x4 p5 x6 x7 (w32 (x8 + 1)) (w32 (x9 + 1)) (jUp m1 52 (w32 (x7 - 1)) v1) Q)) ∧ (¬ (m (p5 + 1) x8) = 6 → ((m (p5 + 1) x8) = 14 → ((0 : Int) ≤ (w32 (x7 + (-2))) ∧ ((w32 (x7 + (-2))) : Int) < 160) ∧ ((0 : Int) ≤ (w32 ((w32 (x7 + (-2))) + 1)) ∧ ((w32 ((w32 (x7 + (-2))) + 1)) : Int) < 160) ∧ ((m 52 (w32 (x7 + (-2)))) < (m 52 (w32 ((w32 (x7 + (-2))) + 1))) → aX9_read_51 d x3 x4 p5 x6 (w32 (x7 + (-2))) (w32 (x8 + 1)) (w32 (x9 + 1)) m Q) ∧ (¬ (m 52 (w32 (x7 + (-2)))) < (m 52 (w32 ((w32 (x7 + (-2))) + 1))) → aX9_read_51 d x3 x4 p5 x6 (w32 (x7 + (-2))) (m (p5 + 2) x8) (w32 (x9 + 1)) m Q)) ∧ (¬ (m (p5 + 1) x8) = 14 → ((0 : Int) ≤ (w32 ((w32 (x7 + (-1))) - 1)) ∧ ((w32 ((w32 (x7 + (-1))) - 1)) : Int) < 160) ∧ ((0 : Int) ≤ (w32 (x7 + (-1))) ∧ ((w32 (x7 + (-1))) : Int) < 160) ∧ jK d zX9_join [jI (m (p5 + 1) x8), jL (m 52 (w32 ((w32 (x7 + (-1))) - 1))), jL (m 52 (w32 (x7 + (-1))))] m (fun v2 m2 => (v2 < (-1000000000) → aX9_read_330 d x4 (m (p5 + 3) x8) v2 m2 Q) ∧ (¬ v2 < (-1000000000) → (1000000000 < v2 → aX9_read_330 d x4 (m (p5 + 3) x8) v2 m2 Q) ∧ (¬ 1000000000 < v2 → ((0 : Int) ≤ (w32 ((w32 (x7 + (-1))) - 1)) ∧ ((w32 ((w32 (x7 + (-1))) - 1)) : Int) < 160) ∧ aX9_read_51 d x3 x4 p5 x6 (w32 (x7 + (-1))) (w32 (x8 + 1)) (w32 (x9 + 1)) (jUp m2 52 (w32 ((w32 (x7 + (-1))) - 1)) v2) Q)))))))) ∧ (¬ 4 < (m (p5 + 1) x8) → ((m (p5 + 1) x8) = 4 → jK d zX9_read [jO 9 51, jO 0 1, jI (m (p5 + 2) x8), jI x3, jI (w32 (x4 + 1))] m (fun v3 m3 => ((0 : Int) ≤ x7 ∧ (x7 : Int) < 160) ∧ ((0 : Int) ≤ x7 ∧ (x7 : Int) < 160) ∧ (((jUp m3 52 x7 v3) 52 x7) = (-4611686018427387904) → Q (-4611686018427387904) (jUp m3 52 x7 v3)) ∧ (¬ ((jUp m3 52 x7 v3) 52 x7) = (-4611686018427387904) → aX9_read_51 d x3 x4 p5 x6 (w32 (x7 + 1)) (w32 (x8 + 1)) (w32 (x9 + 1)) (jUp m3 52 x7 v3) Q))) ∧ (¬ (m (p5 + 1) x8) = 4 → jK d zX9_leaf [jO 0 1, jI (m (p5 + 1) x8), jI (m (p5 + 2) x8), jI x3] m (fun v4 m4 => ((0 : Int) ≤ x7 ∧ (x7 : Int) < 160) ∧ ((0 : Int) ≤ x7 ∧ (x7 : Int) < 160) ∧ (((jUp m4 52 x7 v4) 52 x7) = (-4611686018427387904) → Q (-4611686018427387904) (jUp m4 52 x7 v4)) ∧ (¬ ((jUp m4 52 x7 v4) 52 x7) = (-4611686018427387904) → aX9_read_51 d x3 x4 p5 x6 (w32 (x7 + 1)) (w32 (x8 + 1)) (w32 (x9 + 1)) (jUp m4 52 x7 v4) Q))))) ∧ (¬ x8 < (m p5 1) → ((0 : Int) ≤ x6 ∧ (x6 : Int) < 160) ∧ Q (m 52 x6) m)) ∧ (¬ x9 < (m p5 1) → ((0 : Int) ≤ x6 ∧ (x6 : Int) < 160) ∧ Q (m 52 x6) m)) :
    aX9_read_51 d x3 x4 p5 x6 x7 x8 x9 m Q := jWp_snd [(51, [true, true, false, true, true, true, true, true, true, true, false, false, false, false, false]), (330, [true, false, false, false, true, false, false, false, false, false, false, false, true, true, false])] jcX9_read 69 rfl h
set_option maxRecDepth 100000 in
theorem gX9_read_330 (d : Nat) (x4 x12 x13 : Int) (m : jM) (Q : Int → jM → Prop)
    (h : (x13 = (-4611686018427387904) → jK d zX9_fail [jO 9 51, jI 1, jI x12, jI x4] m (fun v1 m1 => Q v1 m1)) ∧ (¬ x13 = (-4611686018427387904) → jK d zX9_fail [jO 9 51, jI 2, jI x12, jI x4] m (fun v2 m2 => Q v2 m2))) :
    aX9_read_330 d x4 x12 x13 m Q := jWp_snd [(51, [true, true, false, true, true, true, true, true, true, true, false, false, false, false, false]), (330, [true, false, false, false, true, false, false, false, false, false, false, false, true, true, false])] jcX9_read 11 rfl h
set_option maxRecDepth 100000 in
theorem gX9_leaf (d : Nat) (p0 x1 x2 x3 : Int) (m : jM) (Q : Int → jM → Prop)
    (h : (x1 = 1 → Q x2 m) ∧ (¬ x1 = 1 → (x1 = 2 → (8 : Int) ≠ 0 ∧ ((0 : Int) ≤ (w32 ((w32 ((iDiv x3 8) * 3)) + x2)) ∧ ((w32 ((w32 ((iDiv x3 8) * 3)) + x2)) : Int) < 48) ∧ Q (m (p0 + 1) (w32 ((w32 ((iDiv x3 8) * 3)) + x2))) m) ∧ (¬ x1 = 2 → (8 : Int) ≠ 0 ∧ ((0 : Int) ≤ (w32 ((w32 ((w32 (8 + (iRem x3 8))) * 3)) + x2)) ∧ ((w32 ((w32 ((w32 (8 + (iRem x3 8))) * 3)) + x2)) : Int) < 48) ∧ Q (m (p0 + 1) (w32 ((w32 ((w32 (8 + (iRem x3 8))) * 3)) + x2))) m))) :
    jK (d + 1) zX9_leaf [jO 0 p0, jI x1, jI x2, jI x3] m Q := jWp_sn0 [] jcX9_leaf 23 rfl h
set_option maxRecDepth 100000 in
theorem gX9_join (d : Nat) (x0 x1 x3 : Int) (m : jM) (Q : Int → jM → Prop)
    (h : (x0 = 7 + 0 → Q (w64 (x1 + x3)) m) ∧ (x0 = 7 + 1 → Q (w64 (x1 - x3)) m) ∧ (x0 = 7 + 2 → Q (w64 (x1 * x3)) m) ∧ (x0 = 7 + 3 → jK d zJ9_min_f86c9 [jL x1, jL x3] m (fun v1 m1 => Q v1 m1)) ∧ (x0 = 7 + 4 → jK d zJ9_max_f86c9 [jL x1, jL x3] m (fun v2 m2 => Q v2 m2)) ∧ (x0 < 7 ∨ 11 < x0 → (x3 = 0 → Q (-4611686018427387904) m) ∧ (¬ x3 = 0 → (x0 = 12 → jK d zJ9_floorDiv_f86c9 [jL x1, jL x3] m (fun v3 m3 => Q v3 m3)) ∧ (¬ x0 = 12 → jK d zJ9_floorMod_f86c9 [jL x1, jL x3] m (fun v4 m4 => Q v4 m4)))) ∧ True) :
    jK (d + 1) zX9_join [jI x0, jL x1, jL x3] m Q := jWp_sn0 [] jcX9_join 14 rfl h
set_option maxRecDepth 100000 in
theorem gX9_fail (d : Nat) (x1 x2 x3 : Int) (m : jM) (Q : Int → jM → Prop)
    (h : ((0 : Int) ≤ x3 ∧ (x3 : Int) < 4) ∧ (0 < x3 → ((0 : Int) ≤ (w32 (x3 - 1)) ∧ ((w32 (x3 - 1)) : Int) < 4) ∧ Q (-4611686018427387904) (jUp (jUp (jUp (jUp (jUp m 51 2 x1) 51 3 x2) 51 4 (w32 (x3 + 1))) 51 5 ((jUp (jUp (jUp m 51 2 x1) 51 3 x2) 51 4 (w32 (x3 + 1))) 53 x3)) 51 6 ((jUp (jUp (jUp (jUp m 51 2 x1) 51 3 x2) 51 4 (w32 (x3 + 1))) 51 5 ((jUp (jUp (jUp m 51 2 x1) 51 3 x2) 51 4 (w32 (x3 + 1))) 53 x3)) 53 (w32 (x3 - 1))))) ∧ (¬ 0 < x3 → Q (-4611686018427387904) (jUp (jUp (jUp (jUp (jUp m 51 2 x1) 51 3 x2) 51 4 (w32 (x3 + 1))) 51 5 ((jUp (jUp (jUp m 51 2 x1) 51 3 x2) 51 4 (w32 (x3 + 1))) 53 x3)) 51 6 (-1)))) :
    jK (d + 1) zX9_fail [jO 9 51, jI x1, jI x2, jI x3] m Q := jWp_sn0 [] jcX9_fail 31 rfl h
def aX10_init_4 (d : Nat) (p0 : Int) (m : jM) (Q : Int → jM → Prop) : Prop := jA (d + 1) zX10_init 4 [some (jO 10 p0), none] [] m Q
def aX10_init_15 (d : Nat) (p0 : Int) (m : jM) (Q : Int → jM → Prop) : Prop := jA (d + 1) zX10_init 15 [some (jO 10 p0), none] [] m Q
def aX10_init_26 (d : Nat) (p0 : Int) (m : jM) (Q : Int → jM → Prop) : Prop := jA (d + 1) zX10_init 26 [some (jO 10 p0), none] [] m Q
def aX10_init_31 (d : Nat) (p0 : Int) (m : jM) (Q : Int → jM → Prop) : Prop := jA (d + 1) zX10_init 31 [some (jO 10 p0), none] [] m Q
def aX10_init_42 (d : Nat) (p0 : Int) (m : jM) (Q : Int → jM → Prop) : Prop := jA (d + 1) zX10_init 42 [some (jO 10 p0), none] [] m Q
def aX10_init_53 (d : Nat) (p0 : Int) (m : jM) (Q : Int → jM → Prop) : Prop := jA (d + 1) zX10_init 53 [some (jO 10 p0), none] [] m Q
def aX10_init_64 (d : Nat) (p0 : Int) (m : jM) (Q : Int → jM → Prop) : Prop := jA (d + 1) zX10_init 64 [some (jO 10 p0), none] [] m Q
def aX10_init_75 (d : Nat) (p0 : Int) (m : jM) (Q : Int → jM → Prop) : Prop := jA (d + 1) zX10_init 75 [some (jO 10 p0), none] [] m Q
def aX10_init_86 (d : Nat) (p0 : Int) (m : jM) (Q : Int → jM → Prop) : Prop := jA (d + 1) zX10_init 86 [some (jO 10 p0), none] [] m Q
def aX10_init_97 (d : Nat) (p0 : Int) (m : jM) (Q : Int → jM → Prop) : Prop := jA (d + 1) zX10_init 97 [some (jO 10 p0), none] [] m Q
def aX10_init_108 (d : Nat) (p0 : Int) (m : jM) (Q : Int → jM → Prop) : Prop := jA (d + 1) zX10_init 108 [some (jO 10 p0), none] [] m Q
def aX10_init_119 (d : Nat) (p0 : Int) (m : jM) (Q : Int → jM → Prop) : Prop := jA (d + 1) zX10_init 119 [some (jO 10 p0), none] [] m Q
def aX10_init_127 (d : Nat) (p0 : Int) (m : jM) (Q : Int → jM → Prop) : Prop := jA (d + 1) zX10_init 127 [some (jO 10 p0), none] [] m Q
def aX10_init_132 (d : Nat) (p0 : Int) (m : jM) (Q : Int → jM → Prop) : Prop := jA (d + 1) zX10_init 132 [some (jO 10 p0), none] [] m Q
def aX10_init_137 (d : Nat) (p0 : Int) (m : jM) (Q : Int → jM → Prop) : Prop := jA (d + 1) zX10_init 137 [some (jO 10 p0), none] [] m Q
def aX10_init_142 (d : Nat) (p0 : Int) (m : jM) (Q : Int → jM → Prop) : Prop := jA (d + 1) zX10_init 142 [some (jO 10 p0), none] [] m Q
def aX10_init_147 (d : Nat) (p0 : Int) (m : jM) (Q : Int → jM → Prop) : Prop := jA (d + 1) zX10_init 147 [some (jO 10 p0), none] [] m Q
def aX10_init_155 (d : Nat) (p0 : Int) (m : jM) (Q : Int → jM → Prop) : Prop := jA (d + 1) zX10_init 155 [some (jO 10 p0), none] [] m Q
def aX10_init_157 (d : Nat) (p0 x1 : Int) (m : jM) (Q : Int → jM → Prop) : Prop := jA (d + 1) zX10_init 157 [some (jO 10 p0), some (jI x1)] [] m Q
def aX10_init_162 (d : Nat) (p0 x1 : Int) (m : jM) (Q : Int → jM → Prop) : Prop := jA (d + 1) zX10_init 162 [some (jO 10 p0), some (jI x1)] [] m Q
def aX10_init_175 (d : Nat) (p0 x1 : Int) (m : jM) (Q : Int → jM → Prop) : Prop := jA (d + 1) zX10_init 175 [some (jO 10 p0), some (jI x1)] [] m Q
def aX10_init_178 (d : Nat) (p0 x1 : Int) (m : jM) (Q : Int → jM → Prop) : Prop := jA (d + 1) zX10_init 178 [some (jO 10 p0), some (jI x1)] [] m Q
def aX10_init_181 (d : Nat) (m : jM) (Q : Int → jM → Prop) : Prop := jA (d + 1) zX10_init 181 [none, none] [] m Q
set_option maxRecDepth 100000 in
theorem gX10_init (d : Nat) (p0 : Int) (m : jM) (Q : Int → jM → Prop)
    (h : aX10_init_4 d p0 m Q) :
    jK (d + 1) zX10_init [jO 10 p0] m Q := jWp_sn0 [(4, [true, false]), (15, [true, false]), (26, [true, false]), (31, [true, false]), (42, [true, false]), (53, [true, false]), (64, [true, false]), (75, [true, false]), (86, [true, false]), (97, [true, false]), (108, [true, false]), (119, [true, false]), (127, [true, false]), (132, [true, false]), (137, [true, false]), (142, [true, false]), (147, [true, false]), (155, [true, false]), (157, [true, true]), (162, [true, true]), (175, [true, true]), (178, [true, true]), (181, [false, false])] jcX10_init 3 rfl h
set_option maxRecDepth 100000 in
theorem gX10_init_4 (d : Nat) (p0 : Int) (m : jM) (Q : Int → jM → Prop)
    (h : (m (-3) 0 < m (-3) 1 ∧ jKd (m (-3) 0) = 0) ∧ jK d zX0_init [jO 0 (m (-3) 0)] (jLim (jNw m) zX0_init) (fun v1 m1 => (m (-3) 0) = (p0 + 1) ∧ aX10_init_15 d p0 (jUp (jUp m1 (-3) 1 ((jNw m) (-3) 1)) p0 0 (m (-3) 0)) Q)) :
    aX10_init_4 d p0 m Q := jWp_snd [(4, [true, false]), (15, [true, false]), (26, [true, false]), (31, [true, false]), (42, [true, false]), (53, [true, false]), (64, [true, false]), (75, [true, false]), (86, [true, false]), (97, [true, false]), (108, [true, false]), (119, [true, false]), (127, [true, false]), (132, [true, false]), (137, [true, false]), (142, [true, false]), (147, [true, false]), (155, [true, false]), (157, [true, true]), (162, [true, true]), (175, [true, true]), (178, [true, true]), (181, [false, false])] jcX10_init 6 rfl h
set_option maxRecDepth 100000 in
theorem gX10_init_15 (d : Nat) (p0 : Int) (m : jM) (Q : Int → jM → Prop)
    (h : (m (-3) 0 < m (-3) 1 ∧ jKd (m (-3) 0) = 0) ∧ jK d zX0_init [jO 0 (m (-3) 0)] (jLim (jNw m) zX0_init) (fun v1 m1 => (m (-3) 0) = (p0 + 23) ∧ aX10_init_26 d p0 (jUp (jUp m1 (-3) 1 ((jNw m) (-3) 1)) p0 1 (m (-3) 0)) Q)) :
    aX10_init_15 d p0 m Q := jWp_snd [(4, [true, false]), (15, [true, false]), (26, [true, false]), (31, [true, false]), (42, [true, false]), (53, [true, false]), (64, [true, false]), (75, [true, false]), (86, [true, false]), (97, [true, false]), (108, [true, false]), (119, [true, false]), (127, [true, false]), (132, [true, false]), (137, [true, false]), (142, [true, false]), (147, [true, false]), (155, [true, false]), (157, [true, true]), (162, [true, true]), (175, [true, true]), (178, [true, true]), (181, [false, false])] jcX10_init 6 rfl h
set_option maxRecDepth 100000 in
theorem gX10_init_26 (d : Nat) (p0 : Int) (m : jM) (Q : Int → jM → Prop)
    (h : aX10_init_31 d p0 (jUp m p0 2 0) Q) :
    aX10_init_26 d p0 m Q := jWp_snd [(4, [true, false]), (15, [true, false]), (26, [true, false]), (31, [true, false]), (42, [true, false]), (53, [true, false]), (64, [true, false]), (75, [true, false]), (86, [true, false]), (97, [true, false]), (108, [true, false]), (119, [true, false]), (127, [true, false]), (132, [true, false]), (137, [true, false]), (142, [true, false]), (147, [true, false]), (155, [true, false]), (157, [true, true]), (162, [true, true]), (175, [true, true]), (178, [true, true]), (181, [false, false])] jcX10_init 4 rfl h
set_option maxRecDepth 100000 in
theorem gX10_init_31 (d : Nat) (p0 : Int) (m : jM) (Q : Int → jM → Prop)
    (h : (m (-3) 0 < m (-3) 1 ∧ jKd (m (-3) 0) = 8) ∧ jK d zX8_init [jO 8 (m (-3) 0)] (jLim (jNw m) zX8_init) (fun v1 m1 => (m (-3) 0) = (p0 + 45) ∧ aX10_init_42 d p0 (jUp (jUp m1 (-3) 1 ((jNw m) (-3) 1)) p0 3 (m (-3) 0)) Q)) :
    aX10_init_31 d p0 m Q := jWp_snd [(4, [true, false]), (15, [true, false]), (26, [true, false]), (31, [true, false]), (42, [true, false]), (53, [true, false]), (64, [true, false]), (75, [true, false]), (86, [true, false]), (97, [true, false]), (108, [true, false]), (119, [true, false]), (127, [true, false]), (132, [true, false]), (137, [true, false]), (142, [true, false]), (147, [true, false]), (155, [true, false]), (157, [true, true]), (162, [true, true]), (175, [true, true]), (178, [true, true]), (181, [false, false])] jcX10_init 6 rfl h
set_option maxRecDepth 100000 in
theorem gX10_init_42 (d : Nat) (p0 : Int) (m : jM) (Q : Int → jM → Prop)
    (h : (m (-3) 0 < m (-3) 1 ∧ jKd (m (-3) 0) = 9) ∧ jK d zX9_init [jO 9 (m (-3) 0)] (jLim (jNw m) zX9_init) (fun v1 m1 => (m (-3) 0) = (p0 + 51) ∧ aX10_init_53 d p0 (jUp (jUp m1 (-3) 1 ((jNw m) (-3) 1)) p0 4 (m (-3) 0)) Q)) :
    aX10_init_42 d p0 m Q := jWp_snd [(4, [true, false]), (15, [true, false]), (26, [true, false]), (31, [true, false]), (42, [true, false]), (53, [true, false]), (64, [true, false]), (75, [true, false]), (86, [true, false]), (97, [true, false]), (108, [true, false]), (119, [true, false]), (127, [true, false]), (132, [true, false]), (137, [true, false]), (142, [true, false]), (147, [true, false]), (155, [true, false]), (157, [true, true]), (162, [true, true]), (175, [true, true]), (178, [true, true]), (181, [false, false])] jcX10_init 6 rfl h
set_option maxRecDepth 100000 in
theorem gX10_init_53 (d : Nat) (p0 : Int) (m : jM) (Q : Int → jM → Prop)
    (h : (m (-3) 0 < m (-3) 1 ∧ jKd (m (-3) 0) = 4) ∧ jK d zX4_init [jO 4 (m (-3) 0)] (jLim (jNw m) zX4_init) (fun v1 m1 => (m (-3) 0) = (p0 + 54) ∧ aX10_init_64 d p0 (jUp (jUp m1 (-3) 1 ((jNw m) (-3) 1)) p0 5 (m (-3) 0)) Q)) :
    aX10_init_53 d p0 m Q := jWp_snd [(4, [true, false]), (15, [true, false]), (26, [true, false]), (31, [true, false]), (42, [true, false]), (53, [true, false]), (64, [true, false]), (75, [true, false]), (86, [true, false]), (97, [true, false]), (108, [true, false]), (119, [true, false]), (127, [true, false]), (132, [true, false]), (137, [true, false]), (142, [true, false]), (147, [true, false]), (155, [true, false]), (157, [true, true]), (162, [true, true]), (175, [true, true]), (178, [true, true]), (181, [false, false])] jcX10_init 6 rfl h
set_option maxRecDepth 100000 in
theorem gX10_init_64 (d : Nat) (p0 : Int) (m : jM) (Q : Int → jM → Prop)
    (h : (m (-3) 0 < m (-3) 1 ∧ jKd (m (-3) 0) = 4) ∧ jK d zX4_init [jO 4 (m (-3) 0)] (jLim (jNw m) zX4_init) (fun v1 m1 => (m (-3) 0) = (p0 + 62) ∧ aX10_init_75 d p0 (jUp (jUp m1 (-3) 1 ((jNw m) (-3) 1)) p0 6 (m (-3) 0)) Q)) :
    aX10_init_64 d p0 m Q := jWp_snd [(4, [true, false]), (15, [true, false]), (26, [true, false]), (31, [true, false]), (42, [true, false]), (53, [true, false]), (64, [true, false]), (75, [true, false]), (86, [true, false]), (97, [true, false]), (108, [true, false]), (119, [true, false]), (127, [true, false]), (132, [true, false]), (137, [true, false]), (142, [true, false]), (147, [true, false]), (155, [true, false]), (157, [true, true]), (162, [true, true]), (175, [true, true]), (178, [true, true]), (181, [false, false])] jcX10_init 6 rfl h
set_option maxRecDepth 100000 in
theorem gX10_init_75 (d : Nat) (p0 : Int) (m : jM) (Q : Int → jM → Prop)
    (h : (m (-3) 0 < m (-3) 1 ∧ jKd (m (-3) 0) = 2) ∧ jK d zX2_init [jO 2 (m (-3) 0)] (jLim (jNw m) zX2_init) (fun v1 m1 => (m (-3) 0) = (p0 + 70) ∧ aX10_init_86 d p0 (jUp (jUp m1 (-3) 1 ((jNw m) (-3) 1)) p0 7 (m (-3) 0)) Q)) :
    aX10_init_75 d p0 m Q := jWp_snd [(4, [true, false]), (15, [true, false]), (26, [true, false]), (31, [true, false]), (42, [true, false]), (53, [true, false]), (64, [true, false]), (75, [true, false]), (86, [true, false]), (97, [true, false]), (108, [true, false]), (119, [true, false]), (127, [true, false]), (132, [true, false]), (137, [true, false]), (142, [true, false]), (147, [true, false]), (155, [true, false]), (157, [true, true]), (162, [true, true]), (175, [true, true]), (178, [true, true]), (181, [false, false])] jcX10_init 6 rfl h
set_option maxRecDepth 100000 in
theorem gX10_init_86 (d : Nat) (p0 : Int) (m : jM) (Q : Int → jM → Prop)
    (h : (m (-3) 0 < m (-3) 1 ∧ jKd (m (-3) 0) = 5) ∧ jK d zX5_init [jO 5 (m (-3) 0)] (jLim (jNw m) zX5_init) (fun v1 m1 => (m (-3) 0) = (p0 + 75) ∧ aX10_init_97 d p0 (jUp (jUp m1 (-3) 1 ((jNw m) (-3) 1)) p0 8 (m (-3) 0)) Q)) :
    aX10_init_86 d p0 m Q := jWp_snd [(4, [true, false]), (15, [true, false]), (26, [true, false]), (31, [true, false]), (42, [true, false]), (53, [true, false]), (64, [true, false]), (75, [true, false]), (86, [true, false]), (97, [true, false]), (108, [true, false]), (119, [true, false]), (127, [true, false]), (132, [true, false]), (137, [true, false]), (142, [true, false]), (147, [true, false]), (155, [true, false]), (157, [true, true]), (162, [true, true]), (175, [true, true]), (178, [true, true]), (181, [false, false])] jcX10_init 6 rfl h
set_option maxRecDepth 100000 in
theorem gX10_init_97 (d : Nat) (p0 : Int) (m : jM) (Q : Int → jM → Prop)
    (h : (m (-3) 0 < m (-3) 1 ∧ jKd (m (-3) 0) = 3) ∧ jK d zX3_init [jO 3 (m (-3) 0)] (jLim (jNw m) zX3_init) (fun v1 m1 => (m (-3) 0) = (p0 + 81) ∧ aX10_init_108 d p0 (jUp (jUp m1 (-3) 1 ((jNw m) (-3) 1)) p0 9 (m (-3) 0)) Q)) :
    aX10_init_97 d p0 m Q := jWp_snd [(4, [true, false]), (15, [true, false]), (26, [true, false]), (31, [true, false]), (42, [true, false]), (53, [true, false]), (64, [true, false]), (75, [true, false]), (86, [true, false]), (97, [true, false]), (108, [true, false]), (119, [true, false]), (127, [true, false]), (132, [true, false]), (137, [true, false]), (142, [true, false]), (147, [true, false]), (155, [true, false]), (157, [true, true]), (162, [true, true]), (175, [true, true]), (178, [true, true]), (181, [false, false])] jcX10_init 6 rfl h
set_option maxRecDepth 100000 in
theorem gX10_init_108 (d : Nat) (p0 : Int) (m : jM) (Q : Int → jM → Prop)
    (h : (m (-3) 0 < m (-3) 1 ∧ jKd (m (-3) 0) = 1) ∧ jK d zX1_init [jO 1 (m (-3) 0)] (jLim (jNw m) zX1_init) (fun v1 m1 => (m (-3) 0) = (p0 + 89) ∧ aX10_init_119 d p0 (jUp (jUp m1 (-3) 1 ((jNw m) (-3) 1)) p0 10 (m (-3) 0)) Q)) :
    aX10_init_108 d p0 m Q := jWp_snd [(4, [true, false]), (15, [true, false]), (26, [true, false]), (31, [true, false]), (42, [true, false]), (53, [true, false]), (64, [true, false]), (75, [true, false]), (86, [true, false]), (97, [true, false]), (108, [true, false]), (119, [true, false]), (127, [true, false]), (132, [true, false]), (137, [true, false]), (142, [true, false]), (147, [true, false]), (155, [true, false]), (157, [true, true]), (162, [true, true]), (175, [true, true]), (178, [true, true]), (181, [false, false])] jcX10_init 6 rfl h
set_option maxRecDepth 100000 in
theorem gX10_init_119 (d : Nat) (p0 : Int) (m : jM) (Q : Int → jM → Prop)
    (h : (m (-3) 0 < m (-3) 1 ∧ jKd (m (-3) 0) = 20 ∧ jLn (m (-3) 0) = 8) ∧ (m (-3) 0) = (p0 + 94) ∧ aX10_init_127 d p0 (jUp (jNw m) p0 11 (m (-3) 0)) Q) :
    aX10_init_119 d p0 m Q := jWp_snd [(4, [true, false]), (15, [true, false]), (26, [true, false]), (31, [true, false]), (42, [true, false]), (53, [true, false]), (64, [true, false]), (75, [true, false]), (86, [true, false]), (97, [true, false]), (108, [true, false]), (119, [true, false]), (127, [true, false]), (132, [true, false]), (137, [true, false]), (142, [true, false]), (147, [true, false]), (155, [true, false]), (157, [true, true]), (162, [true, true]), (175, [true, true]), (178, [true, true]), (181, [false, false])] jcX10_init 5 rfl h
set_option maxRecDepth 100000 in
theorem gX10_init_127 (d : Nat) (p0 : Int) (m : jM) (Q : Int → jM → Prop)
    (h : aX10_init_132 d p0 (jUp m p0 12 0) Q) :
    aX10_init_127 d p0 m Q := jWp_snd [(4, [true, false]), (15, [true, false]), (26, [true, false]), (31, [true, false]), (42, [true, false]), (53, [true, false]), (64, [true, false]), (75, [true, false]), (86, [true, false]), (97, [true, false]), (108, [true, false]), (119, [true, false]), (127, [true, false]), (132, [true, false]), (137, [true, false]), (142, [true, false]), (147, [true, false]), (155, [true, false]), (157, [true, true]), (162, [true, true]), (175, [true, true]), (178, [true, true]), (181, [false, false])] jcX10_init 4 rfl h
set_option maxRecDepth 100000 in
theorem gX10_init_132 (d : Nat) (p0 : Int) (m : jM) (Q : Int → jM → Prop)
    (h : aX10_init_137 d p0 (jUp m p0 13 0) Q) :
    aX10_init_132 d p0 m Q := jWp_snd [(4, [true, false]), (15, [true, false]), (26, [true, false]), (31, [true, false]), (42, [true, false]), (53, [true, false]), (64, [true, false]), (75, [true, false]), (86, [true, false]), (97, [true, false]), (108, [true, false]), (119, [true, false]), (127, [true, false]), (132, [true, false]), (137, [true, false]), (142, [true, false]), (147, [true, false]), (155, [true, false]), (157, [true, true]), (162, [true, true]), (175, [true, true]), (178, [true, true]), (181, [false, false])] jcX10_init 4 rfl h
set_option maxRecDepth 100000 in
theorem gX10_init_137 (d : Nat) (p0 : Int) (m : jM) (Q : Int → jM → Prop)
    (h : aX10_init_142 d p0 (jUp m p0 14 0) Q) :
    aX10_init_137 d p0 m Q := jWp_snd [(4, [true, false]), (15, [true, false]), (26, [true, false]), (31, [true, false]), (42, [true, false]), (53, [true, false]), (64, [true, false]), (75, [true, false]), (86, [true, false]), (97, [true, false]), (108, [true, false]), (119, [true, false]), (127, [true, false]), (132, [true, false]), (137, [true, false]), (142, [true, false]), (147, [true, false]), (155, [true, false]), (157, [true, true]), (162, [true, true]), (175, [true, true]), (178, [true, true]), (181, [false, false])] jcX10_init 4 rfl h
set_option maxRecDepth 100000 in
theorem gX10_init_142 (d : Nat) (p0 : Int) (m : jM) (Q : Int → jM → Prop)
    (h : aX10_init_147 d p0 (jUp m p0 15 0) Q) :
    aX10_init_142 d p0 m Q := jWp_snd [(4, [true, false]), (15, [true, false]), (26, [true, false]), (31, [true, false]), (42, [true, false]), (53, [true, false]), (64, [true, false]), (75, [true, false]), (86, [true, false]), (97, [true, false]), (108, [true, false]), (119, [true, false]), (127, [true, false]), (132, [true, false]), (137, [true, false]), (142, [true, false]), (147, [true, false]), (155, [true, false]), (157, [true, true]), (162, [true, true]), (175, [true, true]), (178, [true, true]), (181, [false, false])] jcX10_init 4 rfl h
set_option maxRecDepth 100000 in
theorem gX10_init_147 (d : Nat) (p0 : Int) (m : jM) (Q : Int → jM → Prop)
    (h : (m (-3) 0 < m (-3) 1 ∧ jKd (m (-3) 0) = 23 ∧ jLn (m (-3) 0) = 4) ∧ (m (-3) 0) = (p0 + 95) ∧ aX10_init_155 d p0 (jUp (jNw m) p0 16 (m (-3) 0)) Q) :
    aX10_init_147 d p0 m Q := jWp_snd [(4, [true, false]), (15, [true, false]), (26, [true, false]), (31, [true, false]), (42, [true, false]), (53, [true, false]), (64, [true, false]), (75, [true, false]), (86, [true, false]), (97, [true, false]), (108, [true, false]), (119, [true, false]), (127, [true, false]), (132, [true, false]), (137, [true, false]), (142, [true, false]), (147, [true, false]), (155, [true, false]), (157, [true, true]), (162, [true, true]), (175, [true, true]), (178, [true, true]), (181, [false, false])] jcX10_init 5 rfl h
set_option maxRecDepth 100000 in
theorem gX10_init_155 (d : Nat) (p0 : Int) (m : jM) (Q : Int → jM → Prop)
    (h : aX10_init_157 d p0 0 m Q) :
    aX10_init_155 d p0 m Q := jWp_snd [(4, [true, false]), (15, [true, false]), (26, [true, false]), (31, [true, false]), (42, [true, false]), (53, [true, false]), (64, [true, false]), (75, [true, false]), (86, [true, false]), (97, [true, false]), (108, [true, false]), (119, [true, false]), (127, [true, false]), (132, [true, false]), (137, [true, false]), (142, [true, false]), (147, [true, false]), (155, [true, false]), (157, [true, true]), (162, [true, true]), (175, [true, true]), (178, [true, true]), (181, [false, false])] jcX10_init 3 rfl h
set_option maxRecDepth 100000 in
theorem gX10_init_157 (d : Nat) (p0 x1 : Int) (m : jM) (Q : Int → jM → Prop)
    (h : (x1 < 4 → aX10_init_162 d p0 x1 m Q) ∧ (¬ x1 < 4 → aX10_init_181 d  m Q)) :
    aX10_init_157 d p0 x1 m Q := jWp_snd [(4, [true, false]), (15, [true, false]), (26, [true, false]), (31, [true, false]), (42, [true, false]), (53, [true, false]), (64, [true, false]), (75, [true, false]), (86, [true, false]), (97, [true, false]), (108, [true, false]), (119, [true, false]), (127, [true, false]), (132, [true, false]), (137, [true, false]), (142, [true, false]), (147, [true, false]), (155, [true, false]), (157, [true, true]), (162, [true, true]), (175, [true, true]), (178, [true, true]), (181, [false, false])] jcX10_init 4 rfl h
set_option maxRecDepth 100000 in
theorem gX10_init_162 (d : Nat) (p0 x1 : Int) (m : jM) (Q : Int → jM → Prop)
    (h : m p0 16 = (p0 + 95) ∧ (m (-3) 0 < m (-3) 1 ∧ jKd (m (-3) 0) = 7) ∧ jK d zX7_init [jO 7 (m (-3) 0)] (jLim (jNw m) zX7_init) (fun v1 m1 => ((0 : Int) ≤ x1 ∧ (x1 : Int) < 4) ∧ aX10_init_175 d p0 x1 (jUp (jUp m1 (-3) 1 ((jNw m) (-3) 1)) (p0 + 95) x1 (m (-3) 0)) Q)) :
    aX10_init_162 d p0 x1 m Q := jWp_snd [(4, [true, false]), (15, [true, false]), (26, [true, false]), (31, [true, false]), (42, [true, false]), (53, [true, false]), (64, [true, false]), (75, [true, false]), (86, [true, false]), (97, [true, false]), (108, [true, false]), (119, [true, false]), (127, [true, false]), (132, [true, false]), (137, [true, false]), (142, [true, false]), (147, [true, false]), (155, [true, false]), (157, [true, true]), (162, [true, true]), (175, [true, true]), (178, [true, true]), (181, [false, false])] jcX10_init 8 rfl h
set_option maxRecDepth 100000 in
theorem gX10_init_175 (d : Nat) (p0 x1 : Int) (m : jM) (Q : Int → jM → Prop)
    (h : aX10_init_178 d p0 (w32 (x1 + 1)) m Q) :
    aX10_init_175 d p0 x1 m Q := jWp_snd [(4, [true, false]), (15, [true, false]), (26, [true, false]), (31, [true, false]), (42, [true, false]), (53, [true, false]), (64, [true, false]), (75, [true, false]), (86, [true, false]), (97, [true, false]), (108, [true, false]), (119, [true, false]), (127, [true, false]), (132, [true, false]), (137, [true, false]), (142, [true, false]), (147, [true, false]), (155, [true, false]), (157, [true, true]), (162, [true, true]), (175, [true, true]), (178, [true, true]), (181, [false, false])] jcX10_init 2 rfl h
set_option maxRecDepth 100000 in
theorem gX10_init_178 (d : Nat) (p0 x1 : Int) (m : jM) (Q : Int → jM → Prop)
    (h : aX10_init_157 d p0 x1 m Q) :
    aX10_init_178 d p0 x1 m Q := jWp_snd [(4, [true, false]), (15, [true, false]), (26, [true, false]), (31, [true, false]), (42, [true, false]), (53, [true, false]), (64, [true, false]), (75, [true, false]), (86, [true, false]), (97, [true, false]), (108, [true, false]), (119, [true, false]), (127, [true, false]), (132, [true, false]), (137, [true, false]), (142, [true, false]), (147, [true, false]), (155, [true, false]), (157, [true, true]), (162, [true, true]), (175, [true, true]), (178, [true, true]), (181, [false, false])] jcX10_init 2 rfl h
set_option maxRecDepth 100000 in
theorem gX10_init_181 (d : Nat) (m : jM) (Q : Int → jM → Prop)
    (h : m (-3) 0 = m (-3) 1 ∧ Q 0 m) :
    aX10_init_181 d  m Q := jWp_snd [(4, [true, false]), (15, [true, false]), (26, [true, false]), (31, [true, false]), (42, [true, false]), (53, [true, false]), (64, [true, false]), (75, [true, false]), (86, [true, false]), (97, [true, false]), (108, [true, false]), (119, [true, false]), (127, [true, false]), (132, [true, false]), (137, [true, false]), (142, [true, false]), (147, [true, false]), (155, [true, false]), (157, [true, true]), (162, [true, true]), (175, [true, true]), (178, [true, true]), (181, [false, false])] jcX10_init 2 rfl h
set_option maxRecDepth 100000 in
theorem gX10_here (d : Nat) (x1 x2 x3 : Int) (m : jM) (Q : Int → jM → Prop)
    (h : jK d zX10_isSide [jI x1] m (fun v1 m1 => (v1 = 0 → Q (-2) m1) ∧ (¬ v1 = 0 → jK d zX10_isSeat [jI x2] m1 (fun v2 m2 => (v2 = 0 → Q (-2) m2) ∧ (¬ v2 = 0 → (x3 < 0 → Q (-2) m2) ∧ (¬ x3 < 0 → (1 < x3 → Q (-2) m2) ∧ (¬ 1 < x3 → jK d zX10_changed [jO 10 0] m2 (fun v3 m3 => jK d zX0_seat [jO 0 1, jI x1, jI x2, jI x3] m3 (fun v4 m4 => Q v4 m4))))))))) :
    jK (d + 1) zX10_here [jO 10 0, jI x1, jI x2, jI x3] m Q := jWp_sn0 [] jcX10_here 21 rfl h
set_option maxRecDepth 100000 in
theorem gX10_trait (d : Nat) (x1 x2 x3 x4 : Int) (m : jM) (Q : Int → jM → Prop)
    (h : jK d zX10_isSide [jI x1] m (fun v1 m1 => (v1 = 0 → Q (-2) m1) ∧ (¬ v1 = 0 → jK d zX10_isSeat [jI x2] m1 (fun v2 m2 => (v2 = 0 → Q (-2) m2) ∧ (¬ v2 = 0 → (x3 < 0 → Q (-2) m2) ∧ (¬ x3 < 0 → (x3 < 3 → (x4 < (-999) → Q (-2) m2) ∧ (¬ x4 < (-999) → (999 < x4 → Q (-2) m2) ∧ (¬ 999 < x4 → ((0 : Int) ≤ (w32 ((w32 ((w32 ((w32 (x1 * 8)) + x2)) * 3)) + x3)) ∧ ((w32 ((w32 ((w32 ((w32 (x1 * 8)) + x2)) * 3)) + x3)) : Int) < 48) ∧ ((0 : Int) ≤ (w32 ((w32 ((w32 ((w32 (x1 * 8)) + x2)) * 3)) + x3)) ∧ ((w32 ((w32 ((w32 ((w32 (x1 * 8)) + x2)) * 3)) + x3)) : Int) < 48) ∧ jK d zX10_changed [jO 10 0] (jUp m2 2 (w32 ((w32 ((w32 ((w32 (x1 * 8)) + x2)) * 3)) + x3)) x4) (fun v3 m3 => Q (m2 2 (w32 ((w32 ((w32 ((w32 (x1 * 8)) + x2)) * 3)) + x3))) m3)))) ∧ (¬ x3 < 3 → Q (-2) m2))))))) :
    jK (d + 1) zX10_trait [jO 10 0, jI x1, jI x2, jI x3, jI x4] m Q := jWp_sn0 [] jcX10_trait 44 rfl h
set_option maxRecDepth 100000 in
theorem gX10_tell (d : Nat) (x1 x2 x3 : Int) (m : jM) (Q : Int → jM → Prop)
    (h : jK d zX10_isPair [jI x1, jI x2] m (fun v1 m1 => (v1 = 0 → Q (-2) m1) ∧ (¬ v1 = 0 → (x3 < (-1) → Q (-2) m1) ∧ (¬ x3 < (-1) → (1000000000 < x3 → Q (-2) m1) ∧ (¬ 1000000000 < x3 → ((0 : Int) ≤ (w32 ((w32 (x1 * 8)) + x2)) ∧ ((w32 ((w32 (x1 * 8)) + x2)) : Int) < 64) ∧ jK d zX10_changed [jO 10 0] (jUp m1 3 (w32 ((w32 (x1 * 8)) + x2)) x3) (fun v2 m2 => jK d zX10_refreshPlan [jO 10 0] m2 (fun v3 m3 => ((0 : Int) ≤ 0 ∧ (0 : Int) < 256) ∧ Q (m3 58 0) m3))))))) :
    jK (d + 1) zX10_tell [jO 10 0, jI x1, jI x2, jL x3] m Q := jWp_sn0 [] jcX10_tell 31 rfl h
set_option maxRecDepth 100000 in
theorem gX10_burden (d : Nat) (x1 x2 : Int) (m : jM) (Q : Int → jM → Prop)
    (h : jK d zX10_isPair [jI x1, jI x2] m (fun v1 m1 => (v1 = 0 → Q (-4611686018427387904) m1) ∧ (¬ v1 = 0 → jK d zX9_burdenOf [jO 9 51, jO 0 1, jI (w32 ((w32 (x1 * 8)) + x2))] m1 (fun v2 m2 => Q v2 m2)))) :
    jK (d + 1) zX10_burden [jO 10 0, jI x1, jI x2] m Q := jWp_sn0 [] jcX10_burden 16 rfl h
def aX10_mark_48 (d : Nat) (x3 x4 : Int) (m : jM) (Q : Int → jM → Prop) : Prop := jA (d + 1) zX10_mark 48 [some (jO 10 0), none, none, some (jI x3), some (jI x4), none] [] m Q
set_option maxRecDepth 100000 in
theorem gX10_mark (d : Nat) (x1 x2 x3 : Int) (m : jM) (Q : Int → jM → Prop)
    (h : jK d zX10_isPair [jI x1, jI x2] m (fun v1 m1 => (v1 = 0 → Q (-2) m1) ∧ (¬ v1 = 0 → (x3 < 0 → Q (-2) m1) ∧ (¬ x3 < 0 → (2 < x3 → Q (-2) m1) ∧ (¬ 2 < x3 → (x3 = 2 → jK d zX0_forcedBeside [jO 0 1, jI (w32 ((w32 (x1 * 8)) + x2))] m1 (fun v2 m2 => (v2 = 0 → aX10_mark_48 d x3 (w32 ((w32 (x1 * 8)) + x2)) m2 Q) ∧ (¬ v2 = 0 → Q (-3) m2))) ∧ (¬ x3 = 2 → aX10_mark_48 d x3 (w32 ((w32 (x1 * 8)) + x2)) m1 Q)))))) :
    jK (d + 1) zX10_mark [jO 10 0, jI x1, jI x2, jI x3] m Q := jWp_sn0 [(48, [true, false, false, true, true, false])] jcX10_mark 26 rfl h
set_option maxRecDepth 100000 in
theorem gX10_mark_48 (d : Nat) (x3 x4 : Int) (m : jM) (Q : Int → jM → Prop)
    (h : ((0 : Int) ≤ x4 ∧ (x4 : Int) < 64) ∧ ((0 : Int) ≤ x4 ∧ (x4 : Int) < 64) ∧ jK d zX10_changed [jO 10 0] (jUp m 4 x4 x3) (fun v1 m1 => Q (m 4 x4) m1)) :
    aX10_mark_48 d x3 x4 m Q := jWp_snd [(48, [true, false, false, true, true, false])] jcX10_mark 17 rfl h
set_option maxRecDepth 100000 in
theorem gX10_open (d : Nat) (x1 x2 : Int) (m : jM) (Q : Int → jM → Prop)
    (h : jK d zX10_isPair [jI x1, jI x2] m (fun v1 m1 => (v1 = 0 → Q (-2) m1) ∧ (¬ v1 = 0 → jK d zX10_refreshPlan [jO 10 0] m1 (fun v2 m2 => jK d zX4_isOpen [jO 4 54, jI x1, jI x2] m2 (fun v3 m3 => (v3 = 0 → Q 0 m3) ∧ (¬ v3 = 0 → Q 1 m3)))))) :
    jK (d + 1) zX10_open [jO 10 0, jI x1, jI x2] m Q := jWp_sn0 [] jcX10_open 16 rfl h
set_option maxRecDepth 100000 in
theorem gX10_feed (d : Nat) (x1 : Int) (m : jM) (Q : Int → jM → Prop)
    (h : (x1 < 0 → Q (-2) m) ∧ (¬ x1 < 0 → (255 < x1 → Q (-2) m) ∧ (¬ 255 < x1 → jK d zX8_add [jO 8 45, jI x1] m (fun v1 m1 => (v1 = 0 → Q (-4) m1) ∧ (¬ v1 = 0 → Q (m1 45 1) m1))))) :
    jK (d + 1) zX10_feed [jO 10 0, jI x1] m Q := jWp_sn0 [] jcX10_feed 16 rfl h
set_option maxRecDepth 100000 in
theorem gX10_text (d : Nat) (x1 : Int) (m : jM) (Q : Int → jM → Prop)
    (h : jK d zX10_isRule [jI x1] m (fun v1 m1 => (v1 = 0 → Q (-2) m1) ∧ (¬ v1 = 0 → jK d zX8_parse [jO 8 45] m1 (fun v2 m2 => (v2 = (-1) → ((0 : Int) ≤ x1 ∧ (x1 : Int) < 4) ∧ ((0 : Int) ≤ x1 ∧ (x1 : Int) < 4) ∧ jK d zX0_refusalOf [jO 0 1, jI x1] (jUp (jUp m2 45 1 0) 5 x1 ((jUp m2 45 1 0) 45 2)) (fun v3 m3 => (v3 = 0 → jK d zX10_changed [jO 10 0] (jUp m3 45 2 ((jUp m2 45 1 0) 5 x1)) (fun v4 m4 => ((0 : Int) ≤ x1 ∧ (x1 : Int) < 4) ∧ Q (m4 (m4 5 x1) 0) m4)) ∧ (¬ v3 = 0 → ((0 : Int) ≤ x1 ∧ (x1 : Int) < 4) ∧ Q v3 (jUp m3 5 x1 ((jUp m2 45 1 0) 5 x1))))) ∧ (¬ v2 = (-1) → Q (w32 ((-100) - v2)) (jUp m2 45 1 0)))))) :
    jK (d + 1) zX10_text [jO 10 0, jI x1] m Q := jWp_sn0 [] jcX10_text 49 rfl h
set_option maxRecDepth 100000 in
theorem gX10_empty (d : Nat) (x1 : Int) (m : jM) (Q : Int → jM → Prop)
    (h : jK d zX10_isRule [jI x1] m (fun v1 m1 => (v1 = 0 → Q (-2) m1) ∧ (¬ v1 = 0 → ((0 : Int) ≤ x1 ∧ (x1 : Int) < 4) ∧ ((0 : Int) ≤ x1 ∧ (x1 : Int) < 4) ∧ jK d zX6_clear [jO 6 (m1 5 x1)] m1 (fun v2 m2 => jK d zX10_changed [jO 10 0] m2 (fun v3 m3 => Q (m1 (m1 5 x1) 0) m3))))) :
    jK (d + 1) zX10_empty [jO 10 0, jI x1] m Q := jWp_sn0 [] jcX10_empty 21 rfl h
set_option maxRecDepth 100000 in
theorem gX10_told (d : Nat) (x1 x2 : Int) (m : jM) (Q : Int → jM → Prop)
    (h : jK d zX10_isRule [jI x1] m (fun v1 m1 => (v1 = 0 → Q (-2) m1) ∧ (¬ v1 = 0 → (x2 = 0 + 0 → ((0 : Int) ≤ x1 ∧ (x1 : Int) < 4) ∧ Q (m1 (m1 5 x1) 0) m1) ∧ (x2 = 0 + 1 → jK d zX0_weighRules [jO 0 1] m1 (fun v2 m2 => ((0 : Int) ≤ x1 ∧ (x1 : Int) < 4) ∧ Q (m2 6 x1) m2)) ∧ (x2 = 0 + 2 → ((0 : Int) ≤ x1 ∧ (x1 : Int) < 4) ∧ jK d zX6_names [jO 6 (m1 5 x1)] m1 (fun v3 m3 => Q v3 m3)) ∧ (x2 = 0 + 3 → jK d zX0_namersOf [jO 0 1, jI x1] m1 (fun v4 m4 => Q v4 m4)) ∧ (x2 = 0 + 4 → jK d zX0_reachOf [jO 0 1, jI x1] m1 (fun v5 m5 => Q v5 m5)) ∧ (x2 < 0 ∨ 4 < x2 → Q (-2) m1) ∧ True))) :
    jK (d + 1) zX10_told [jO 10 0, jI x1, jI x2] m Q := jWp_sn0 [] jcX10_told 15 rfl h
set_option maxRecDepth 100000 in
theorem gX10_value (d : Nat) (x1 x2 x3 : Int) (m : jM) (Q : Int → jM → Prop)
    (h : jK d zX10_isRule [jI x1] m (fun v1 m1 => (v1 = 0 → Q (-4611686018427387904) m1) ∧ (¬ v1 = 0 → jK d zX10_isPair [jI x2, jI x3] m1 (fun v2 m2 => (v2 = 0 → Q (-4611686018427387904) m2) ∧ (¬ v2 = 0 → jK d zX9_read [jO 9 51, jO 0 1, jI x1, jI (w32 ((w32 (x2 * 8)) + x3)), jI 0] m2 (fun v3 m3 => Q v3 m3)))))) :
    jK (d + 1) zX10_value [jO 10 0, jI x1, jI x2, jI x3] m Q := jWp_sn0 [] jcX10_value 21 rfl h
set_option maxRecDepth 100000 in
theorem gX10_why (d : Nat) (x1 x2 x3 : Int) (m : jM) (Q : Int → jM → Prop)
    (h : jK d zX10_isPair [jI x1, jI x2] m (fun v1 m1 => (v1 = 0 → Q (-2) m1) ∧ (¬ v1 = 0 → (x3 < 0 → Q (-2) m1) ∧ (¬ x3 < 0 → (4 < x3 → Q (-2) m1) ∧ (¬ 4 < x3 → jK d zX9_read [jO 9 51, jO 0 1, jI 0, jI (w32 ((w32 (x1 * 8)) + x2)), jI 0] m1 (fun v2 m2 => (v2 = (-4611686018427387904) → ((1 : Int) = 0 → (x3 = 0 → Q 0 m2) ∧ (¬ x3 = 0 → Q (-1) m2)) ∧ (¬ (1 : Int) = 0 → (x3 = 0 + 0 → Q (m2 51 2) m2) ∧ (x3 = 0 + 1 → Q (m2 51 3) m2) ∧ (x3 = 0 + 2 → Q (m2 51 4) m2) ∧ (x3 = 0 + 3 → Q (m2 51 5) m2) ∧ (x3 < 0 ∨ 3 < x3 → Q (m2 51 6) m2) ∧ True)) ∧ (¬ v2 = (-4611686018427387904) → ((0 : Int) = 0 → (x3 = 0 → Q 0 m2) ∧ (¬ x3 = 0 → Q (-1) m2)) ∧ (¬ (0 : Int) = 0 → (x3 = 0 + 0 → Q (m2 51 2) m2) ∧ (x3 = 0 + 1 → Q (m2 51 3) m2) ∧ (x3 = 0 + 2 → Q (m2 51 4) m2) ∧ (x3 = 0 + 3 → Q (m2 51 5) m2) ∧ (x3 < 0 ∨ 3 < x3 → Q (m2 51 6) m2) ∧ True)))))))) :
    jK (d + 1) zX10_why [jO 10 0, jI x1, jI x2, jI x3] m Q := jWp_sn0 [] jcX10_why 35 rfl h
set_option maxRecDepth 100000 in
theorem gX10_solve (d : Nat) (m : jM) (Q : Int → jM → Prop)
    (h : jK d zX10_refreshPlan [jO 10 0] m (fun v1 m1 => jK d zX5_make [jO 5 75, jO 4 54, jO 2 70] m1 (fun v2 m2 => Q (m2 75 0) m2))) :
    jK (d + 1) zX10_solve [jO 10 0] m Q := jWp_sn0 [] jcX10_solve 14 rfl h
set_option maxRecDepth 100000 in
theorem gX10_round (d : Nat) (x1 x2 : Int) (m : jM) (Q : Int → jM → Prop)
    (h : (x2 < 0 → Q (-4611686018427387904) m) ∧ (¬ x2 < 0 → (x2 < 6 → (x1 < 0 → Q (-4611686018427387904) m) ∧ (¬ x1 < 0 → (x1 < (m 75 0) → ((0 : Int) ≤ (w32 ((w32 (x1 * 6)) + x2)) ∧ ((w32 ((w32 (x1 * 6)) + x2)) : Int) < 384) ∧ Q (m 76 (w32 ((w32 (x1 * 6)) + x2))) m) ∧ (¬ x1 < (m 75 0) → Q (-4611686018427387904) m))) ∧ (¬ x2 < 6 → Q (-4611686018427387904) m))) :
    jK (d + 1) zX10_round [jO 10 0, jI x1, jI x2] m Q := jWp_sn0 [] jcX10_round 23 rfl h
set_option maxRecDepth 100000 in
theorem gX10_price (d : Nat) (x1 x2 x3 : Int) (m : jM) (Q : Int → jM → Prop)
    (h : jK d zX10_isSide [jI x2] m (fun v1 m1 => (v1 = 0 → Q (-4611686018427387904) m1) ∧ (¬ v1 = 0 → jK d zX10_isSeat [jI x3] m1 (fun v2 m2 => (v2 = 0 → Q (-4611686018427387904) m2) ∧ (¬ v2 = 0 → (x1 < 0 → Q (-4611686018427387904) m2) ∧ (¬ x1 < 0 → (x1 < (m2 75 0) → ((0 : Int) ≤ (w32 ((w32 ((w32 ((w32 (x1 * 2)) + x2)) * 8)) + x3)) ∧ ((w32 ((w32 ((w32 ((w32 (x1 * 2)) + x2)) * 8)) + x3)) : Int) < 1024) ∧ Q (m2 77 (w32 ((w32 ((w32 ((w32 (x1 * 2)) + x2)) * 8)) + x3))) m2) ∧ (¬ x1 < (m2 75 0) → Q (-4611686018427387904) m2))))))) :
    jK (d + 1) zX10_price [jO 10 0, jI x1, jI x2, jI x3] m Q := jWp_sn0 [] jcX10_price 28 rfl h
set_option maxRecDepth 100000 in
theorem gX10_total (d : Nat) (m : jM) (Q : Int → jM → Prop)
    (h : jK d zX10_refreshPlan [jO 10 0] m (fun v1 m1 => ((0 : Int) ≤ 0 ∧ (0 : Int) < 256) ∧ Q (m1 58 0) m1)) :
    jK (d + 1) zX10_total [jO 10 0] m Q := jWp_sn0 [] jcX10_total 9 rfl h
set_option maxRecDepth 100000 in
theorem gX10_many (d : Nat) (m : jM) (Q : Int → jM → Prop)
    (h : jK d zX10_refreshPlan [jO 10 0] m (fun v1 m1 => ((0 : Int) ≤ 0 ∧ (0 : Int) < 256) ∧ Q (m1 59 0) m1)) :
    jK (d + 1) zX10_many [jO 10 0] m Q := jWp_sn0 [] jcX10_many 9 rfl h
set_option maxRecDepth 100000 in
theorem gX10_best (d : Nat) (x1 x2 : Int) (m : jM) (Q : Int → jM → Prop)
    (h : jK d zX10_isSeat [jI x2] m (fun v1 m1 => (v1 = 0 → Q (-2) m1) ∧ (¬ v1 = 0 → jK d zX10_refreshPlan [jO 10 0] m1 (fun v2 m2 => (x1 < 0 → Q (-3) m2) ∧ (¬ x1 < 0 → ((0 : Int) ≤ 0 ∧ (0 : Int) < 256) ∧ (x1 < (m2 59 0) → jK d zX4_pick [jO 4 54, jI x1, jY 0 8 94] m2 (fun v3 m3 => ((0 : Int) ≤ x2 ∧ (x2 : Int) < 8) ∧ Q (m3 94 x2) m3)) ∧ (¬ x1 < (m2 59 0) → Q (-3) m2)))))) :
    jK (d + 1) zX10_best [jO 10 0, jI x1, jI x2] m Q := jWp_sn0 [] jcX10_best 26 rfl h
set_option maxRecDepth 100000 in
theorem gX10_kind (d : Nat) (x1 x2 : Int) (m : jM) (Q : Int → jM → Prop)
    (h : jK d zX10_isPair [jI x1, jI x2] m (fun v1 m1 => (v1 = 0 → Q (-2) m1) ∧ (¬ v1 = 0 → jK d zX10_refreshShares [jO 10 0] m1 (fun v2 m2 => ((0 : Int) ≤ 0 ∧ (0 : Int) < 256) ∧ ((m2 59 0) = 0 → Q (-3) m2) ∧ (¬ (m2 59 0) = 0 → ((0 : Int) ≤ (w32 ((w32 (x1 * 8)) + x2)) ∧ ((w32 ((w32 (x1 * 8)) + x2)) : Int) < 64) ∧ ((m2 61 (w32 ((w32 (x1 * 8)) + x2))) = 0 → Q 0 m2) ∧ (¬ (m2 61 (w32 ((w32 (x1 * 8)) + x2))) = 0 → ((m2 61 (w32 ((w32 (x1 * 8)) + x2))) = (m2 59 0) → Q 2 m2) ∧ (¬ (m2 61 (w32 ((w32 (x1 * 8)) + x2))) = (m2 59 0) → Q 1 m2))))))) :
    jK (d + 1) zX10_kind [jO 10 0, jI x1, jI x2] m Q := jWp_sn0 [] jcX10_kind 33 rfl h
def aX10_room_45 (d : Nat) (x1 x2 x3 : Int) (m : jM) (Q : Int → jM → Prop) : Prop := jA (d + 1) zX10_room 45 [some (jO 10 0), some (jI x1), some (jI x2), some (jI x3), none] [] m Q
set_option maxRecDepth 100000 in
theorem gX10_room (d : Nat) (x1 x2 x3 : Int) (m : jM) (Q : Int → jM → Prop)
    (h : jK d zX10_isPair [jI x1, jI x2] m (fun v1 m1 => (v1 = 0 → Q (-4611686018427387904) m1) ∧ (¬ v1 = 0 → (x3 < 0 → Q (-4611686018427387904) m1) ∧ (¬ x3 < 0 → (1 < x3 → Q (-4611686018427387904) m1) ∧ (¬ 1 < x3 → jK d zX10_refreshPlan [jO 10 0] m1 (fun v2 m2 => (x3 = 0 → jK d zX4_isOpen [jO 4 54, jI x1, jI x2] m2 (fun v3 m3 => (v3 = 0 → Q (-4611686018427387904) m3) ∧ (¬ v3 = 0 → aX10_room_45 d x1 x2 x3 m3 Q))) ∧ (¬ x3 = 0 → aX10_room_45 d x1 x2 x3 m2 Q))))))) :
    jK (d + 1) zX10_room [jO 10 0, jI x1, jI x2, jI x3] m Q := jWp_sn0 [(45, [true, true, true, true, false])] jcX10_room 22 rfl h
set_option maxRecDepth 100000 in
theorem gX10_room_45 (d : Nat) (x1 x2 x3 : Int) (m : jM) (Q : Int → jM → Prop)
    (h : jK d zX4_take [jO 4 62, jO 4 54] m (fun v1 m1 => (x3 = 0 → ((0 : Int) ≤ x2 ∧ (x2 : Int) < 8) ∧ jK d zX4_weigh [jO 4 62, jI 0] (jUp m1 65 x2 (iShl 1 x1)) (fun v2 m2 => ((0 : Int) ≤ 0 ∧ (0 : Int) < 256) ∧ Q (m2 66 0) m2)) ∧ (¬ x3 = 0 → ((0 : Int) ≤ x2 ∧ (x2 : Int) < 8) ∧ ((0 : Int) ≤ x2 ∧ (x2 : Int) < 8) ∧ jK d zX4_weigh [jO 4 62, jI 0] (jUp m1 65 x2 (iAnd (m1 65 x2) (iXor (iShl 1 x1) (-1)))) (fun v3 m3 => ((0 : Int) ≤ 0 ∧ (0 : Int) < 256) ∧ Q (m3 66 0) m3)))) :
    aX10_room_45 d x1 x2 x3 m Q := jWp_snd [(45, [true, true, true, true, false])] jcX10_room 33 rfl h
set_option maxRecDepth 100000 in
theorem gX10_next (d : Nat) (x1 x2 : Int) (m : jM) (Q : Int → jM → Prop)
    (h : (x1 < 0 → Q (-4611686018427387904) m) ∧ (¬ x1 < 0 → (x1 < 12 → (x2 < (-1) → Q (-4611686018427387904) m) ∧ (¬ x2 < (-1) → (x2 < 8 → jK d zX10_refreshNextOnes [jO 10 0] m (fun v1 m1 => ((0 : Int) ≤ 0 ∧ (0 : Int) < 256) ∧ (x1 < (m1 82 0) → (x2 = (-1) → ((0 : Int) ≤ x1 ∧ (x1 : Int) < 3072) ∧ Q (m1 83 x1) m1) ∧ (¬ x2 = (-1) → ((0 : Int) ≤ (w32 ((w32 (x1 * 8)) + x2)) ∧ ((w32 ((w32 (x1 * 8)) + x2)) : Int) < 96) ∧ Q (m1 88 (w32 ((w32 (x1 * 8)) + x2))) m1)) ∧ (¬ x1 < (m1 82 0) → Q (-4611686018427387904) m1))) ∧ (¬ x2 < 8 → Q (-4611686018427387904) m))) ∧ (¬ x1 < 12 → Q (-4611686018427387904) m))) :
    jK (d + 1) zX10_next [jO 10 0, jI x1, jI x2] m Q := jWp_sn0 [] jcX10_next 35 rfl h
set_option maxRecDepth 100000 in
theorem gX10_fair (d : Nat) (x1 : Int) (m : jM) (Q : Int → jM → Prop)
    (h : (x1 < 0 → Q (-4611686018427387904) m) ∧ (¬ x1 < 0 → (2 < x1 → Q (-4611686018427387904) m) ∧ (¬ 2 < x1 → jK d zX10_refreshPlan [jO 10 0] m (fun v1 m1 => jK d zX4_take [jO 4 62, jO 4 54] m1 (fun v2 m2 => jK d zX4_weigh [jO 4 62, jI 1] m2 (fun v3 m3 => ((0 : Int) ≤ 0 ∧ (0 : Int) < 256) ∧ ((m3 66 0) = (-4611686018427387904) → Q (m3 66 0) m3) ∧ (¬ (m3 66 0) = (-4611686018427387904) → (x1 = 0 → Q (m3 66 0) m3) ∧ (¬ x1 = 0 → (x1 = 2 → jK d zX4_heavierThan [jO 4 54, jL (m3 66 0)] m3 (fun v4 m4 => Q v4 m4)) ∧ (¬ x1 = 2 → jK d zX4_closeHeavier [jO 4 62, jL (m3 66 0)] m3 (fun v5 m5 => jK d zX4_weigh [jO 4 62, jI 0] m5 (fun v6 m6 => ((0 : Int) ≤ 0 ∧ (0 : Int) < 256) ∧ Q (m6 66 0) m6))))))))))) :
    jK (d + 1) zX10_fair [jO 10 0, jI x1] m Q := jWp_sn0 [] jcX10_fair 45 rfl h
def aX10_days_39 (d : Nat) (x1 x2 x4 : Int) (m : jM) (Q : Int → jM → Prop) : Prop := jA (d + 1) zX10_days 39 [some (jO 10 0), some (jI x1), some (jL x2), none, some (jI x4)] [] m Q
set_option maxRecDepth 100000 in
theorem gX10_days (d : Nat) (x1 : Int) (m : jM) (Q : Int → jM → Prop)
    (h : (x1 < 1 → Q (-4611686018427387904) m) ∧ (¬ x1 < 1 → (8 < x1 → Q (-4611686018427387904) m) ∧ (¬ 8 < x1 → jK d zX10_refreshDiary [jO 10 0] m (fun v1 m1 => ((m1 89 0) < x1 → Q (-4611686018427387904) m1) ∧ (¬ (m1 89 0) < x1 → aX10_days_39 d x1 0 0 m1 Q))))) :
    jK (d + 1) zX10_days [jO 10 0, jI x1] m Q := jWp_sn0 [(39, [true, true, true, false, true])] jcX10_days 18 rfl h
set_option maxRecDepth 100000 in
theorem gX10_days_39 (d : Nat) (x1 x2 x4 : Int) (m : jM) (Q : Int → jM → Prop)
    (h : (x4 < x1 → ((0 : Int) ≤ x4 ∧ (x4 : Int) < 8) ∧ aX10_days_39 d x1 (w64 (x2 + (m 90 x4))) (w32 (x4 + 1)) m Q) ∧ (¬ x4 < x1 → Q x2 m)) :
    aX10_days_39 d x1 x2 x4 m Q := jWp_snd [(39, [true, true, true, false, true])] jcX10_days 14 rfl h
set_option maxRecDepth 100000 in
theorem gX10_day (d : Nat) (x1 x2 : Int) (m : jM) (Q : Int → jM → Prop)
    (h : (x1 < 0 → Q (-2) m) ∧ (¬ x1 < 0 → (x1 < 8 → jK d zX10_isSeat [jI x2] m (fun v1 m1 => (v1 = 0 → Q (-2) m1) ∧ (¬ v1 = 0 → jK d zX10_refreshDiary [jO 10 0] m1 (fun v2 m2 => (x1 < (m2 89 0) → ((0 : Int) ≤ (w32 ((w32 (x1 * 8)) + x2)) ∧ ((w32 ((w32 (x1 * 8)) + x2)) : Int) < 64) ∧ Q (m2 91 (w32 ((w32 (x1 * 8)) + x2))) m2) ∧ (¬ x1 < (m2 89 0) → Q (-3) m2))))) ∧ (¬ x1 < 8 → Q (-2) m))) :
    jK (d + 1) zX10_day [jO 10 0, jI x1, jI x2] m Q := jWp_sn0 [] jcX10_day 26 rfl h
set_option maxRecDepth 100000 in
theorem gX10_lack (d : Nat) (x1 : Int) (m : jM) (Q : Int → jM → Prop)
    (h : (x1 < 0 → Q (-2) m) ∧ (¬ x1 < 0 → (2 < x1 → Q (-2) m) ∧ (¬ 2 < x1 → jK d zX10_refreshPlan [jO 10 0] m (fun v1 m1 => jK d zX2_find [jO 2 70, jY 0 8 57, jI (m1 54 0)] m1 (fun v2 m2 => (x1 = 0 → Q (w32 ((m2 54 1) - (m2 70 0))) m2) ∧ (¬ x1 = 0 → (x1 = 1 → Q (m2 70 1) m2) ∧ (¬ x1 = 1 → Q (m2 70 2) m2))))))) :
    jK (d + 1) zX10_lack [jO 10 0, jI x1] m Q := jWp_sn0 [] jcX10_lack 27 rfl h
set_option maxRecDepth 100000 in
theorem gX10_without (d : Nat) (x1 x2 : Int) (m : jM) (Q : Int → jM → Prop)
    (h : jK d zX10_isSide [jI x1] m (fun v1 m1 => (v1 = 0 → Q (-4611686018427387904) m1) ∧ (¬ v1 = 0 → jK d zX10_isSeat [jI x2] m1 (fun v2 m2 => (v2 = 0 → Q (-4611686018427387904) m2) ∧ (¬ v2 = 0 → jK d zX10_refreshPlan [jO 10 0] m2 (fun v3 m3 => jK d zX4_take [jO 4 62, jO 4 54] m3 (fun v4 m4 => (x1 = 0 → jK d zX4_closeJudge [jO 4 62, jI x2] m4 (fun v5 m5 => jK d zX4_weigh [jO 4 62, jI 0] m5 (fun v6 m6 => ((0 : Int) ≤ 0 ∧ (0 : Int) < 256) ∧ Q (m6 66 0) m6))) ∧ (¬ x1 = 0 → jK d zX4_weigh [jO 4 62, jI 0] (jUp m4 62 0 (iAnd (m4 62 0) (iXor (iShl 1 x2) (-1)))) (fun v7 m7 => ((0 : Int) ≤ 0 ∧ (0 : Int) < 256) ∧ Q (m7 66 0) m7))))))))) :
    jK (d + 1) zX10_without [jO 10 0, jI x1, jI x2] m Q := jWp_sn0 [] jcX10_without 37 rfl h
set_option maxRecDepth 100000 in
theorem gX10_tells (d : Nat) (x1 x2 : Int) (m : jM) (Q : Int → jM → Prop)
    (h : jK d zX10_isSheet [jI x1] m (fun v1 m1 => (v1 = 0 → Q (-2) m1) ∧ (¬ v1 = 0 → (x2 < 0 → Q (-2) m1) ∧ (¬ x2 < 0 → (2 < x2 → Q (-2) m1) ∧ (¬ 2 < x2 → ((0 : Int) ≤ x1 ∧ (x1 : Int) < 4) ∧ ((m1 (m1 95 x1) 0) = (-1) → Q (-11) m1) ∧ (¬ (m1 (m1 95 x1) 0) = (-1) → jK d zX10_refreshPlan [jO 10 0] m1 (fun v2 m2 => ((0 : Int) ≤ x1 ∧ (x1 : Int) < 4) ∧ jK d zX4_follows [jO 4 54, jO 7 (m2 95 x1), jY 0 8 94] m2 (fun v3 m3 => (v3 = 0 → Q (-3) m3) ∧ (¬ v3 = 0 → (x2 = 0 → jK d zX4_sumOf [jO 4 54, jY 0 8 94] m3 (fun v4 m4 => Q v4 m4)) ∧ (¬ x2 = 0 → (x2 = 1 → jK d zX10_refreshNextOnes [jO 10 0] m3 (fun v5 m5 => jK d zX3_placeOf [jO 3 81, jY 0 8 94] m5 (fun v6 m6 => Q v6 m6))) ∧ (¬ x2 = 1 → jK d zX10_refreshShares [jO 10 0] m3 (fun v7 m7 => jK d zX4_sharedOf [jO 4 54, jY 0 8 94] m7 (fun v8 m8 => Q v8 m8))))))))))))) :
    jK (d + 1) zX10_tells [jO 10 0, jI x1, jI x2] m Q := jWp_sn0 [] jcX10_tells 42 rfl h
def aX10_film_68 (d : Nat) (p3 x4 : Int) (m : jM) (Q : Int → jM → Prop) : Prop := jA (d + 1) zX10_film 68 [some (jO 10 0), none, none, some (jO 7 p3), some (jI x4)] [] m Q
set_option maxRecDepth 100000 in
theorem gX10_film (d : Nat) (x1 x2 : Int) (m : jM) (Q : Int → jM → Prop)
    (h : jK d zX10_isSheet [jI x1] m (fun v1 m1 => (v1 = 0 → Q (-2) m1) ∧ (¬ v1 = 0 → jK d zX10_refreshPlan [jO 10 0] m1 (fun v2 m2 => (x2 < 0 → Q (-3) m2) ∧ (¬ x2 < 0 → ((0 : Int) ≤ 0 ∧ (0 : Int) < 256) ∧ (x2 < (m2 59 0) → jK d zX4_pick [jO 4 54, jI x2, jY 0 8 94] m2 (fun v3 m3 => ((0 : Int) ≤ x1 ∧ (x1 : Int) < 4) ∧ jK d zX7_become [jO 7 (m3 95 x1), jI 0, jI (m3 54 1)] m3 (fun v4 m4 => aX10_film_68 d (m3 95 x1) 0 m4 Q))) ∧ (¬ x2 < (m2 59 0) → Q (-3) m2)))))) :
    jK (d + 1) zX10_film [jO 10 0, jI x1, jI x2] m Q := jWp_sn0 [(68, [true, false, false, true, true])] jcX10_film 34 rfl h
set_option maxRecDepth 100000 in
theorem gX10_film_68 (d : Nat) (p3 x4 : Int) (m : jM) (Q : Int → jM → Prop)
    (h : (x4 < (m 54 1) → ((0 : Int) ≤ x4 ∧ (x4 : Int) < 8) ∧ ((0 : Int) ≤ (m 55 x4) ∧ ((m 55 x4) : Int) < 8) ∧ jK d zX7_set [jO 7 p3, jI x4, jL (m 94 (m 55 x4))] m (fun v1 m1 => aX10_film_68 d p3 (w32 (x4 + 1)) m1 Q)) ∧ (¬ x4 < (m 54 1) → Q (m 54 1) m)) :
    aX10_film_68 d p3 x4 m Q := jWp_snd [(68, [true, false, false, true, true])] jcX10_film 20 rfl h
set_option maxRecDepth 100000 in
theorem gX10_image (d : Nat) (m : jM) (Q : Int → jM → Prop)
    (h : jK d zX0_take [jO 0 23, jO 0 1] m (fun v1 m1 => jK d zX10_refreshPlan [jO 10 0] (jUp m1 0 2 1) (fun v2 m2 => jK d zX4_openPairs [jO 4 54] m2 (fun v3 m3 => Q v3 m3)))) :
    jK (d + 1) zX10_image [jO 10 0] m Q := jWp_sn0 [] jcX10_image 15 rfl h
set_option maxRecDepth 100000 in
theorem gX10_back (d : Nat) (m : jM) (Q : Int → jM → Prop)
    (h : ((m 0 2) = 0 → Q (-3) m) ∧ (¬ (m 0 2) = 0 → jK d zX0_take [jO 0 1, jO 0 23] m (fun v1 m1 => jK d zX10_changed [jO 10 0] m1 (fun v2 m2 => jK d zX10_refreshPlan [jO 10 0] m2 (fun v3 m3 => jK d zX4_openPairs [jO 4 54] m3 (fun v4 m4 => Q v4 m4)))))) :
    jK (d + 1) zX10_back [jO 10 0] m Q := jWp_sn0 [] jcX10_back 17 rfl h
set_option maxRecDepth 100000 in
theorem gX10_count (d : Nat) (x1 : Int) (m : jM) (Q : Int → jM → Prop)
    (h : (x1 = 0 + 0 → jK d zJ6_bitCount_0f7a4 [jI (m 1 0)] m (fun v1 m1 => Q v1 m1)) ∧ (x1 = 0 + 1 → jK d zJ6_bitCount_0f7a4 [jI (m 1 1)] m (fun v2 m2 => Q v2 m2)) ∧ (x1 = 0 + 2 → jK d zX10_refreshPlan [jO 10 0] m (fun v3 m3 => jK d zX4_openPairs [jO 4 54] m3 (fun v4 m4 => Q v4 m4))) ∧ (x1 = 0 + 3 → jK d zX0_marked [jO 0 1, jI 2] m (fun v5 m5 => Q v5 m5)) ∧ (x1 = 0 + 4 → jK d zX0_marked [jO 0 1, jI 1] m (fun v6 m6 => Q v6 m6)) ∧ (x1 = 0 + 5 → jK d zX0_owned [jO 0 1] m (fun v7 m7 => Q v7 m7)) ∧ (x1 = 0 + 6 → Q (m 75 0) m) ∧ (x1 = 0 + 7 → Q (m 45 1) m) ∧ (x1 < 0 ∨ 7 < x1 → Q (-2) m) ∧ True) :
    jK (d + 1) zX10_count [jO 10 0, jI x1] m Q := jWp_sn0 [] jcX10_count 9 rfl h
def aX10_sheet_46 (d : Nat) (x1 x2 x3 : Int) (m : jM) (Q : Int → jM → Prop) : Prop := jA (d + 1) zX10_sheet 46 [some (jO 10 0), some (jI x1), some (jI x2), some (jI x3)] [] m Q
set_option maxRecDepth 100000 in
theorem gX10_sheet (d : Nat) (x1 x2 x3 : Int) (m : jM) (Q : Int → jM → Prop)
    (h : jK d zX10_isSheet [jI x1] m (fun v1 m1 => (v1 = 0 → Q (-2) m1) ∧ (¬ v1 = 0 → (x2 < (-1) → Q (-2) m1) ∧ (¬ x2 < (-1) → (2 < x2 → Q (-2) m1) ∧ (¬ 2 < x2 → (x2 = (-1) → (x2 = (-1) → aX10_sheet_46 d x1 x2 x3 m1 Q) ∧ (¬ x2 = (-1) → (x3 < 0 → Q (-14) m1) ∧ (¬ x3 < 0 → aX10_sheet_46 d x1 x2 x3 m1 Q))) ∧ (¬ x2 = (-1) → (40 < x3 → Q (-2) m1) ∧ (¬ 40 < x3 → (x2 = (-1) → aX10_sheet_46 d x1 x2 x3 m1 Q) ∧ (¬ x2 = (-1) → (x3 < 0 → Q (-14) m1) ∧ (¬ x3 < 0 → aX10_sheet_46 d x1 x2 x3 m1 Q))))))))) :
    jK (d + 1) zX10_sheet [jO 10 0, jI x1, jI x2, jI x3] m Q := jWp_sn0 [(46, [true, true, true, true])] jcX10_sheet 23 rfl h
set_option maxRecDepth 100000 in
theorem gX10_sheet_46 (d : Nat) (x1 x2 x3 : Int) (m : jM) (Q : Int → jM → Prop)
    (h : ((0 : Int) ≤ x1 ∧ (x1 : Int) < 4) ∧ (x2 = (-1) → jK d zX7_become [jO 7 (m 95 x1), jI x2, jI 0] m (fun v1 m1 => Q 1 m1)) ∧ (¬ x2 = (-1) → jK d zX7_become [jO 7 (m 95 x1), jI x2, jI x3] m (fun v2 m2 => Q 1 m2))) :
    aX10_sheet_46 d x1 x2 x3 m Q := jWp_snd [(46, [true, true, true, true])] jcX10_sheet 14 rfl h
set_option maxRecDepth 100000 in
theorem gX10_put (d : Nat) (x1 x2 x3 : Int) (m : jM) (Q : Int → jM → Prop)
    (h : jK d zX10_isSheet [jI x1] m (fun v1 m1 => (v1 = 0 → Q (-2) m1) ∧ (¬ v1 = 0 → ((0 : Int) ≤ x1 ∧ (x1 : Int) < 4) ∧ ((m1 (m1 95 x1) 0) = (-1) → Q (-11) m1) ∧ (¬ (m1 (m1 95 x1) 0) = (-1) → jK d zX7_holds [jO 7 (m1 95 x1), jI x2, jI 1] m1 (fun v2 m2 => (v2 = 0 → Q (-12) m2) ∧ (¬ v2 = 0 → jK d zX7_set [jO 7 (m1 95 x1), jI x2, jL x3] m2 (fun v3 m3 => Q 1 m3))))))) :
    jK (d + 1) zX10_put [jO 10 0, jI x1, jI x2, jL x3] m Q := jWp_sn0 [] jcX10_put 24 rfl h
set_option maxRecDepth 100000 in
theorem gX10_item (d : Nat) (x1 x2 : Int) (m : jM) (Q : Int → jM → Prop)
    (h : jK d zX10_isSheet [jI x1] m (fun v1 m1 => (v1 = 0 → Q (-4611686018427387904) m1) ∧ (¬ v1 = 0 → ((0 : Int) ≤ x1 ∧ (x1 : Int) < 4) ∧ ((m1 (m1 95 x1) 0) = (-1) → Q (-4611686018427387904) m1) ∧ (¬ (m1 (m1 95 x1) 0) = (-1) → jK d zX7_holds [jO 7 (m1 95 x1), jI x2, jI 1] m1 (fun v2 m2 => (v2 = 0 → Q (-4611686018427387904) m2) ∧ (¬ v2 = 0 → ((0 : Int) ≤ x2 ∧ (x2 : Int) < 40) ∧ Q (m2 (m1 95 x1 + 1) x2) m2)))))) :
    jK (d + 1) zX10_item [jO 10 0, jI x1, jI x2] m Q := jWp_sn0 [] jcX10_item 24 rfl h
set_option maxRecDepth 100000 in
theorem gX10_copy (d : Nat) (x1 x2 x3 x4 x5 : Int) (m : jM) (Q : Int → jM → Prop)
    (h : jK d zX10_isSheet [jI x1] m (fun v1 m1 => (v1 = 0 → Q (-2) m1) ∧ (¬ v1 = 0 → jK d zX10_isSheet [jI x3] m1 (fun v2 m2 => (v2 = 0 → Q (-2) m2) ∧ (¬ v2 = 0 → ((0 : Int) ≤ x1 ∧ (x1 : Int) < 4) ∧ ((0 : Int) ≤ x3 ∧ (x3 : Int) < 4) ∧ ((m2 (m2 95 x1) 0) = (-1) → Q (-11) m2) ∧ (¬ (m2 (m2 95 x1) 0) = (-1) → ((m2 (m2 95 x3) 0) = (-1) → Q (-11) m2) ∧ (¬ (m2 (m2 95 x3) 0) = (-1) → ((m2 (m2 95 x1) 0) = (m2 (m2 95 x3) 0) → jK d zX7_holds [jO 7 (m2 95 x1), jI x2, jI x5] m2 (fun v3 m3 => (v3 = 0 → Q (-12) m3) ∧ (¬ v3 = 0 → jK d zX7_holds [jO 7 (m2 95 x3), jI x4, jI x5] m3 (fun v4 m4 => (v4 = 0 → Q (-12) m4) ∧ (¬ v4 = 0 → ((0 : Int) ≤ x2 ∧ (0 : Int) ≤ x4 ∧ (0 : Int) ≤ x5 ∧ (x2 : Int) + x5 ≤ 40 ∧ (x4 : Int) + x5 ≤ 40) ∧ Q x5 (jCp m4 (m2 95 x1 + 1) x2 (m2 95 x3 + 1) x4 x5)))))) ∧ (¬ (m2 (m2 95 x1) 0) = (m2 (m2 95 x3) 0) → Q (-13) m2)))))))) :
    jK (d + 1) zX10_copy [jO 10 0, jI x1, jI x2, jI x3, jI x4, jI x5] m Q := jWp_sn0 [] jcX10_copy 50 rfl h
def aX10_lay_68 (d : Nat) (x2 x4 x5 p6 : Int) (m : jM) (Q : Int → jM → Prop) : Prop := jA (d + 1) zX10_lay 68 [some (jO 10 0), none, some (jI x2), none, some (jI x4), some (jI x5), some (jO 7 p6), none] [] m Q
def aX10_lay_98 (d : Nat) (x2 x4 x5 p6 x7 : Int) (m : jM) (Q : Int → jM → Prop) : Prop := jA (d + 1) zX10_lay 98 [some (jO 10 0), none, some (jI x2), none, some (jI x4), some (jI x5), some (jO 7 p6), some (jI x7)] [] m Q
set_option maxRecDepth 100000 in
theorem gX10_lay (d : Nat) (x1 x2 x3 x4 x5 : Int) (m : jM) (Q : Int → jM → Prop)
    (h : jK d zX10_isSheet [jI x1] m (fun v1 m1 => (v1 = 0 → Q (-2) m1) ∧ (¬ v1 = 0 → jK d zX10_isSeat [jI x2] m1 (fun v2 m2 => (v2 = 0 → Q (-2) m2) ∧ (¬ v2 = 0 → (x3 < 0 → Q (-2) m2) ∧ (¬ x3 < 0 → (2 < x3 → Q (-2) m2) ∧ (¬ 2 < x3 → (x5 < 1 → Q (-2) m2) ∧ (¬ x5 < 1 → (8 < x5 → Q (-2) m2) ∧ (¬ 8 < x5 → ((0 : Int) ≤ x1 ∧ (x1 : Int) < 4) ∧ ((m2 (m2 95 x1) 0) = (-1) → aX10_lay_68 d x2 x4 x5 (m2 95 x1) m2 Q) ∧ (¬ (m2 (m2 95 x1) 0) = (-1) → ((m2 (m2 95 x1) 0) = x3 → aX10_lay_68 d x2 x4 x5 (m2 95 x1) m2 Q) ∧ (¬ (m2 (m2 95 x1) 0) = x3 → Q (-13) m2))))))))))) :
    jK (d + 1) zX10_lay [jO 10 0, jI x1, jI x2, jI x3, jI x4, jI x5] m Q := jWp_sn0 [(68, [true, false, true, false, true, true, true, false]), (98, [true, false, true, false, true, true, true, true])] jcX10_lay 33 rfl h
set_option maxRecDepth 100000 in
theorem gX10_lay_68 (d : Nat) (x2 x4 x5 p6 : Int) (m : jM) (Q : Int → jM → Prop)
    (h : ((m p6 0) = (-1) → Q (-11) m) ∧ (¬ (m p6 0) = (-1) → jK d zX7_holds [jO 7 p6, jI x4, jI x5] m (fun v1 m1 => (v1 = 0 → Q (-12) m1) ∧ (¬ v1 = 0 → aX10_lay_98 d x2 x4 x5 p6 0 m1 Q)))) :
    aX10_lay_68 d x2 x4 x5 p6 m Q := jWp_snd [(68, [true, false, true, false, true, true, true, false]), (98, [true, false, true, false, true, true, true, true])] jcX10_lay 12 rfl h
set_option maxRecDepth 100000 in
theorem gX10_lay_98 (d : Nat) (x2 x4 x5 p6 x7 : Int) (m : jM) (Q : Int → jM → Prop)
    (h : (x7 < x5 → ((0 : Int) ≤ (w32 (x4 + x7)) ∧ ((w32 (x4 + x7)) : Int) < 40) ∧ (1000000000 : Int) ≠ 0 ∧ jK d zJ9_abs_067f4 [jL (lRem (m (p6 + 1) (w32 (x4 + x7))) 1000000000)] m (fun v1 m1 => ((0 : Int) ≤ (w32 ((w32 (x2 * 8)) + x7)) ∧ ((w32 ((w32 (x2 * 8)) + x7)) : Int) < 64) ∧ aX10_lay_98 d x2 x4 x5 p6 (w32 (x7 + 1)) (jUp m1 3 (w32 ((w32 (x2 * 8)) + x7)) v1) Q)) ∧ (¬ x7 < x5 → jK d zX10_changed [jO 10 0] m (fun v2 m2 => Q x5 m2))) :
    aX10_lay_98 d x2 x4 x5 p6 x7 m Q := jWp_snd [(68, [true, false, true, false, true, true, true, false]), (98, [true, false, true, false, true, true, true, true])] jcX10_lay 24 rfl h
set_option maxRecDepth 100000 in
theorem gX10_isSide (d : Nat) (x0 : Int) (m : jM) (Q : Int → jM → Prop)
    (h : (x0 = 0 → Q 1 m) ∧ (¬ x0 = 0 → (x0 = 1 → Q 1 m) ∧ (¬ x0 = 1 → Q 0 m))) :
    jK (d + 1) zX10_isSide [jI x0] m Q := jWp_sn0 [] jcX10_isSide 9 rfl h
set_option maxRecDepth 100000 in
theorem gX10_isSeat (d : Nat) (x0 : Int) (m : jM) (Q : Int → jM → Prop)
    (h : (x0 < 0 → Q 0 m) ∧ (¬ x0 < 0 → (x0 < 8 → Q 1 m) ∧ (¬ x0 < 8 → Q 0 m))) :
    jK (d + 1) zX10_isSeat [jI x0] m Q := jWp_sn0 [] jcX10_isSeat 9 rfl h
set_option maxRecDepth 100000 in
theorem gX10_isPair (d : Nat) (x0 x1 : Int) (m : jM) (Q : Int → jM → Prop)
    (h : jK d zX10_isSeat [jI x0] m (fun v1 m1 => (v1 = 0 → Q 0 m1) ∧ (¬ v1 = 0 → jK d zX10_isSeat [jI x1] m1 (fun v2 m2 => (v2 = 0 → Q 0 m2) ∧ (¬ v2 = 0 → Q 1 m2))))) :
    jK (d + 1) zX10_isPair [jI x0, jI x1] m Q := jWp_sn0 [] jcX10_isPair 10 rfl h
set_option maxRecDepth 100000 in
theorem gX10_isRule (d : Nat) (x0 : Int) (m : jM) (Q : Int → jM → Prop)
    (h : (x0 < 0 → Q 0 m) ∧ (¬ x0 < 0 → (x0 < 4 → Q 1 m) ∧ (¬ x0 < 4 → Q 0 m))) :
    jK (d + 1) zX10_isRule [jI x0] m Q := jWp_sn0 [] jcX10_isRule 9 rfl h
set_option maxRecDepth 100000 in
theorem gX10_isSheet (d : Nat) (x0 : Int) (m : jM) (Q : Int → jM → Prop)
    (h : (x0 < 0 → Q 0 m) ∧ (¬ x0 < 0 → (x0 < 4 → Q 1 m) ∧ (¬ x0 < 4 → Q 0 m))) :
    jK (d + 1) zX10_isSheet [jI x0] m Q := jWp_sn0 [] jcX10_isSheet 9 rfl h
set_option maxRecDepth 100000 in
theorem gX10_changed (d : Nat) (m : jM) (Q : Int → jM → Prop)
    (h : Q 0 (jUp (jUp (jUp (jUp m 0 12 0) 0 13 0) 0 14 0) 0 15 0)) :
    jK (d + 1) zX10_changed [jO 10 0] m Q := jWp_sn0 [] jcX10_changed 14 rfl h
set_option maxRecDepth 100000 in
theorem gX10_refreshPlan (d : Nat) (m : jM) (Q : Int → jM → Prop)
    (h : ((m 0 12) = 0 → jK d zX4_load [jO 4 54, jO 0 1, jO 9 51] m (fun v1 m1 => jK d zX4_weigh [jO 4 54, jI 0] m1 (fun v2 m2 => Q 0 (jUp m2 0 12 1)))) ∧ (¬ (m 0 12) = 0 → Q 0 m)) :
    jK (d + 1) zX10_refreshPlan [jO 10 0] m Q := jWp_sn0 [] jcX10_refreshPlan 19 rfl h
set_option maxRecDepth 100000 in
theorem gX10_refreshShares (d : Nat) (m : jM) (Q : Int → jM → Prop)
    (h : jK d zX10_refreshPlan [jO 10 0] m (fun v1 m1 => ((m1 0 13) = 0 → jK d zX4_share [jO 4 54] m1 (fun v2 m2 => Q 0 (jUp m2 0 13 1))) ∧ (¬ (m1 0 13) = 0 → Q 0 m1))) :
    jK (d + 1) zX10_refreshShares [jO 10 0] m Q := jWp_sn0 [] jcX10_refreshShares 13 rfl h
set_option maxRecDepth 100000 in
theorem gX10_refreshNextOnes (d : Nat) (m : jM) (Q : Int → jM → Prop)
    (h : jK d zX10_refreshPlan [jO 10 0] m (fun v1 m1 => ((m1 0 14) = 0 → jK d zX3_find [jO 3 81, jO 4 54] m1 (fun v2 m2 => Q 0 (jUp m2 0 14 1))) ∧ (¬ (m1 0 14) = 0 → Q 0 m1))) :
    jK (d + 1) zX10_refreshNextOnes [jO 10 0] m Q := jWp_sn0 [] jcX10_refreshNextOnes 15 rfl h
set_option maxRecDepth 100000 in
theorem gX10_refreshDiary (d : Nat) (m : jM) (Q : Int → jM → Prop)
    (h : jK d zX10_refreshPlan [jO 10 0] m (fun v1 m1 => ((m1 0 15) = 0 → jK d zX1_write [jO 1 89, jO 4 54, jO 4 62, jY 0 64 4] m1 (fun v2 m2 => Q 0 (jUp m2 0 15 1))) ∧ (¬ (m1 0 15) = 0 → Q 0 m1))) :
    jK (d + 1) zX10_refreshDiary [jO 10 0] m Q := jWp_sn0 [] jcX10_refreshDiary 20 rfl h
set_option maxRecDepth 100000 in
theorem gX11_in (d : Nat) (x0 x2 x4 : Int) (m : jM) (Q : Int → jM → Prop)
    (h : (x0 < x2 → Q 0 m) ∧ (¬ x0 < x2 → (x4 < x0 → Q 0 m) ∧ (¬ x4 < x0 → Q 1 m))) :
    jK (d + 1) zX11_in [jL x0, jL x2, jL x4] m Q := jWp_sn0 [] jcX11_in 10 rfl h
def aX11_init_4 (d : Nat) (p0 : Int) (m : jM) (Q : Int → jM → Prop) : Prop := jA (d + 1) zX11_init 4 [some (jO 11 p0), none] [] m Q
def aX11_init_12 (d : Nat) (p0 : Int) (m : jM) (Q : Int → jM → Prop) : Prop := jA (d + 1) zX11_init 12 [some (jO 11 p0), none] [] m Q
def aX11_init_20 (d : Nat) (p0 : Int) (m : jM) (Q : Int → jM → Prop) : Prop := jA (d + 1) zX11_init 20 [some (jO 11 p0), none] [] m Q
def aX11_init_28 (d : Nat) (p0 : Int) (m : jM) (Q : Int → jM → Prop) : Prop := jA (d + 1) zX11_init 28 [some (jO 11 p0), none] [] m Q
def aX11_init_36 (d : Nat) (p0 : Int) (m : jM) (Q : Int → jM → Prop) : Prop := jA (d + 1) zX11_init 36 [some (jO 11 p0), none] [] m Q
def aX11_init_43 (d : Nat) (p0 : Int) (m : jM) (Q : Int → jM → Prop) : Prop := jA (d + 1) zX11_init 43 [some (jO 11 p0), none] [] m Q
def aX11_init_50 (d : Nat) (p0 : Int) (m : jM) (Q : Int → jM → Prop) : Prop := jA (d + 1) zX11_init 50 [some (jO 11 p0), none] [] m Q
def aX11_init_58 (d : Nat) (p0 : Int) (m : jM) (Q : Int → jM → Prop) : Prop := jA (d + 1) zX11_init 58 [some (jO 11 p0), none] [] m Q
def aX11_init_66 (d : Nat) (p0 : Int) (m : jM) (Q : Int → jM → Prop) : Prop := jA (d + 1) zX11_init 66 [some (jO 11 p0), none] [] m Q
def aX11_init_74 (d : Nat) (p0 : Int) (m : jM) (Q : Int → jM → Prop) : Prop := jA (d + 1) zX11_init 74 [some (jO 11 p0), none] [] m Q
def aX11_init_82 (d : Nat) (p0 : Int) (m : jM) (Q : Int → jM → Prop) : Prop := jA (d + 1) zX11_init 82 [some (jO 11 p0), none] [] m Q
def aX11_init_90 (d : Nat) (p0 : Int) (m : jM) (Q : Int → jM → Prop) : Prop := jA (d + 1) zX11_init 90 [some (jO 11 p0), none] [] m Q
def aX11_init_98 (d : Nat) (p0 : Int) (m : jM) (Q : Int → jM → Prop) : Prop := jA (d + 1) zX11_init 98 [some (jO 11 p0), none] [] m Q
def aX11_init_106 (d : Nat) (p0 : Int) (m : jM) (Q : Int → jM → Prop) : Prop := jA (d + 1) zX11_init 106 [some (jO 11 p0), none] [] m Q
def aX11_init_114 (d : Nat) (p0 : Int) (m : jM) (Q : Int → jM → Prop) : Prop := jA (d + 1) zX11_init 114 [some (jO 11 p0), none] [] m Q
def aX11_init_122 (d : Nat) (p0 : Int) (m : jM) (Q : Int → jM → Prop) : Prop := jA (d + 1) zX11_init 122 [some (jO 11 p0), none] [] m Q
def aX11_init_130 (d : Nat) (p0 : Int) (m : jM) (Q : Int → jM → Prop) : Prop := jA (d + 1) zX11_init 130 [some (jO 11 p0), none] [] m Q
def aX11_init_138 (d : Nat) (p0 : Int) (m : jM) (Q : Int → jM → Prop) : Prop := jA (d + 1) zX11_init 138 [some (jO 11 p0), none] [] m Q
def aX11_init_146 (d : Nat) (p0 : Int) (m : jM) (Q : Int → jM → Prop) : Prop := jA (d + 1) zX11_init 146 [some (jO 11 p0), none] [] m Q
def aX11_init_154 (d : Nat) (p0 : Int) (m : jM) (Q : Int → jM → Prop) : Prop := jA (d + 1) zX11_init 154 [some (jO 11 p0), none] [] m Q
def aX11_init_162 (d : Nat) (p0 : Int) (m : jM) (Q : Int → jM → Prop) : Prop := jA (d + 1) zX11_init 162 [some (jO 11 p0), none] [] m Q
def aX11_init_170 (d : Nat) (p0 : Int) (m : jM) (Q : Int → jM → Prop) : Prop := jA (d + 1) zX11_init 170 [some (jO 11 p0), none] [] m Q
def aX11_init_178 (d : Nat) (p0 : Int) (m : jM) (Q : Int → jM → Prop) : Prop := jA (d + 1) zX11_init 178 [some (jO 11 p0), none] [] m Q
def aX11_init_185 (d : Nat) (p0 : Int) (m : jM) (Q : Int → jM → Prop) : Prop := jA (d + 1) zX11_init 185 [some (jO 11 p0), none] [] m Q
def aX11_init_193 (d : Nat) (p0 : Int) (m : jM) (Q : Int → jM → Prop) : Prop := jA (d + 1) zX11_init 193 [some (jO 11 p0), none] [] m Q
def aX11_init_201 (d : Nat) (p0 : Int) (m : jM) (Q : Int → jM → Prop) : Prop := jA (d + 1) zX11_init 201 [some (jO 11 p0), none] [] m Q
def aX11_init_210 (d : Nat) (p0 : Int) (m : jM) (Q : Int → jM → Prop) : Prop := jA (d + 1) zX11_init 210 [some (jO 11 p0), none] [] m Q
def aX11_init_219 (d : Nat) (p0 : Int) (m : jM) (Q : Int → jM → Prop) : Prop := jA (d + 1) zX11_init 219 [some (jO 11 p0), none] [] m Q
def aX11_init_227 (d : Nat) (p0 : Int) (m : jM) (Q : Int → jM → Prop) : Prop := jA (d + 1) zX11_init 227 [some (jO 11 p0), none] [] m Q
def aX11_init_235 (d : Nat) (p0 : Int) (m : jM) (Q : Int → jM → Prop) : Prop := jA (d + 1) zX11_init 235 [some (jO 11 p0), none] [] m Q
def aX11_init_243 (d : Nat) (p0 : Int) (m : jM) (Q : Int → jM → Prop) : Prop := jA (d + 1) zX11_init 243 [some (jO 11 p0), none] [] m Q
def aX11_init_251 (d : Nat) (p0 : Int) (m : jM) (Q : Int → jM → Prop) : Prop := jA (d + 1) zX11_init 251 [some (jO 11 p0), none] [] m Q
def aX11_init_260 (d : Nat) (p0 : Int) (m : jM) (Q : Int → jM → Prop) : Prop := jA (d + 1) zX11_init 260 [some (jO 11 p0), none] [] m Q
def aX11_init_268 (d : Nat) (p0 : Int) (m : jM) (Q : Int → jM → Prop) : Prop := jA (d + 1) zX11_init 268 [some (jO 11 p0), none] [] m Q
def aX11_init_276 (d : Nat) (p0 : Int) (m : jM) (Q : Int → jM → Prop) : Prop := jA (d + 1) zX11_init 276 [some (jO 11 p0), none] [] m Q
def aX11_init_284 (d : Nat) (p0 : Int) (m : jM) (Q : Int → jM → Prop) : Prop := jA (d + 1) zX11_init 284 [some (jO 11 p0), none] [] m Q
def aX11_init_292 (d : Nat) (p0 : Int) (m : jM) (Q : Int → jM → Prop) : Prop := jA (d + 1) zX11_init 292 [some (jO 11 p0), none] [] m Q
def aX11_init_300 (d : Nat) (p0 : Int) (m : jM) (Q : Int → jM → Prop) : Prop := jA (d + 1) zX11_init 300 [some (jO 11 p0), none] [] m Q
def aX11_init_308 (d : Nat) (p0 : Int) (m : jM) (Q : Int → jM → Prop) : Prop := jA (d + 1) zX11_init 308 [some (jO 11 p0), none] [] m Q
def aX11_init_316 (d : Nat) (p0 : Int) (m : jM) (Q : Int → jM → Prop) : Prop := jA (d + 1) zX11_init 316 [some (jO 11 p0), none] [] m Q
def aX11_init_325 (d : Nat) (p0 : Int) (m : jM) (Q : Int → jM → Prop) : Prop := jA (d + 1) zX11_init 325 [some (jO 11 p0), none] [] m Q
def aX11_init_333 (d : Nat) (p0 : Int) (m : jM) (Q : Int → jM → Prop) : Prop := jA (d + 1) zX11_init 333 [some (jO 11 p0), none] [] m Q
def aX11_init_341 (d : Nat) (p0 : Int) (m : jM) (Q : Int → jM → Prop) : Prop := jA (d + 1) zX11_init 341 [some (jO 11 p0), none] [] m Q
def aX11_init_349 (d : Nat) (p0 : Int) (m : jM) (Q : Int → jM → Prop) : Prop := jA (d + 1) zX11_init 349 [some (jO 11 p0), none] [] m Q
def aX11_init_357 (d : Nat) (p0 : Int) (m : jM) (Q : Int → jM → Prop) : Prop := jA (d + 1) zX11_init 357 [some (jO 11 p0), none] [] m Q
def aX11_init_365 (d : Nat) (p0 : Int) (m : jM) (Q : Int → jM → Prop) : Prop := jA (d + 1) zX11_init 365 [some (jO 11 p0), none] [] m Q
def aX11_init_373 (d : Nat) (p0 : Int) (m : jM) (Q : Int → jM → Prop) : Prop := jA (d + 1) zX11_init 373 [some (jO 11 p0), none] [] m Q
def aX11_init_381 (d : Nat) (p0 : Int) (m : jM) (Q : Int → jM → Prop) : Prop := jA (d + 1) zX11_init 381 [some (jO 11 p0), none] [] m Q
def aX11_init_389 (d : Nat) (p0 : Int) (m : jM) (Q : Int → jM → Prop) : Prop := jA (d + 1) zX11_init 389 [some (jO 11 p0), none] [] m Q
def aX11_init_397 (d : Nat) (p0 : Int) (m : jM) (Q : Int → jM → Prop) : Prop := jA (d + 1) zX11_init 397 [some (jO 11 p0), none] [] m Q
def aX11_init_404 (d : Nat) (p0 : Int) (m : jM) (Q : Int → jM → Prop) : Prop := jA (d + 1) zX11_init 404 [some (jO 11 p0), none] [] m Q
def aX11_init_411 (d : Nat) (p0 : Int) (m : jM) (Q : Int → jM → Prop) : Prop := jA (d + 1) zX11_init 411 [some (jO 11 p0), none] [] m Q
def aX11_init_419 (d : Nat) (p0 : Int) (m : jM) (Q : Int → jM → Prop) : Prop := jA (d + 1) zX11_init 419 [some (jO 11 p0), none] [] m Q
def aX11_init_428 (d : Nat) (p0 : Int) (m : jM) (Q : Int → jM → Prop) : Prop := jA (d + 1) zX11_init 428 [some (jO 11 p0), none] [] m Q
def aX11_init_451 (d : Nat) (p0 : Int) (m : jM) (Q : Int → jM → Prop) : Prop := jA (d + 1) zX11_init 451 [some (jO 11 p0), none] [] m Q
def aX11_init_458 (d : Nat) (p0 : Int) (m : jM) (Q : Int → jM → Prop) : Prop := jA (d + 1) zX11_init 458 [some (jO 11 p0), none] [] m Q
def aX11_init_467 (d : Nat) (p0 : Int) (m : jM) (Q : Int → jM → Prop) : Prop := jA (d + 1) zX11_init 467 [some (jO 11 p0), none] [] m Q
def aX11_init_469 (d : Nat) (p0 x1 : Int) (m : jM) (Q : Int → jM → Prop) : Prop := jA (d + 1) zX11_init 469 [some (jO 11 p0), some (jI x1)] [] m Q
def aX11_init_475 (d : Nat) (p0 x1 : Int) (m : jM) (Q : Int → jM → Prop) : Prop := jA (d + 1) zX11_init 475 [some (jO 11 p0), some (jI x1)] [] m Q
def aX11_init_484 (d : Nat) (p0 x1 : Int) (m : jM) (Q : Int → jM → Prop) : Prop := jA (d + 1) zX11_init 484 [some (jO 11 p0), some (jI x1)] [] m Q
def aX11_init_487 (d : Nat) (p0 x1 : Int) (m : jM) (Q : Int → jM → Prop) : Prop := jA (d + 1) zX11_init 487 [some (jO 11 p0), some (jI x1)] [] m Q
def aX11_init_490 (d : Nat) (m : jM) (Q : Int → jM → Prop) : Prop := jA (d + 1) zX11_init 490 [none, none] [] m Q
set_option maxRecDepth 100000 in
theorem gX11_init (d : Nat) (p0 : Int) (m : jM) (Q : Int → jM → Prop)
    (h : aX11_init_4 d p0 m Q) :
    jK (d + 1) zX11_init [jO 11 p0] m Q := jWp_sn0 [(4, [true, false]), (12, [true, false]), (20, [true, false]), (28, [true, false]), (36, [true, false]), (43, [true, false]), (50, [true, false]), (58, [true, false]), (66, [true, false]), (74, [true, false]), (82, [true, false]), (90, [true, false]), (98, [true, false]), (106, [true, false]), (114, [true, false]), (122, [true, false]), (130, [true, false]), (138, [true, false]), (146, [true, false]), (154, [true, false]), (162, [true, false]), (170, [true, false]), (178, [true, false]), (185, [true, false]), (193, [true, false]), (201, [true, false]), (210, [true, false]), (219, [true, false]), (227, [true, false]), (235, [true, false]), (243, [true, false]), (251, [true, false]), (260, [true, false]), (268, [true, false]), (276, [true, false]), (284, [true, false]), (292, [true, false]), (300, [true, false]), (308, [true, false]), (316, [true, false]), (325, [true, false]), (333, [true, false]), (341, [true, false]), (349, [true, false]), (357, [true, false]), (365, [true, false]), (373, [true, false]), (381, [true, false]), (389, [true, false]), (397, [true, false]), (404, [true, false]), (411, [true, false]), (419, [true, false]), (428, [true, false]), (451, [true, false]), (458, [true, false]), (467, [true, false]), (469, [true, true]), (475, [true, true]), (484, [true, true]), (487, [true, true]), (490, [false, false])] jcX11_init 3 rfl h
set_option maxRecDepth 100000 in
theorem gX11_init_4 (d : Nat) (p0 : Int) (m : jM) (Q : Int → jM → Prop)
    (h : (m (-3) 0 < m (-3) 1 ∧ jKd (m (-3) 0) = 20 ∧ jLn (m (-3) 0) = 16) ∧ (m (-3) 0) = (p0 + 1) ∧ aX11_init_12 d p0 (jUp (jNw m) p0 1 (m (-3) 0)) Q) :
    aX11_init_4 d p0 m Q := jWp_snd [(4, [true, false]), (12, [true, false]), (20, [true, false]), (28, [true, false]), (36, [true, false]), (43, [true, false]), (50, [true, false]), (58, [true, false]), (66, [true, false]), (74, [true, false]), (82, [true, false]), (90, [true, false]), (98, [true, false]), (106, [true, false]), (114, [true, false]), (122, [true, false]), (130, [true, false]), (138, [true, false]), (146, [true, false]), (154, [true, false]), (162, [true, false]), (170, [true, false]), (178, [true, false]), (185, [true, false]), (193, [true, false]), (201, [true, false]), (210, [true, false]), (219, [true, false]), (227, [true, false]), (235, [true, false]), (243, [true, false]), (251, [true, false]), (260, [true, false]), (268, [true, false]), (276, [true, false]), (284, [true, false]), (292, [true, false]), (300, [true, false]), (308, [true, false]), (316, [true, false]), (325, [true, false]), (333, [true, false]), (341, [true, false]), (349, [true, false]), (357, [true, false]), (365, [true, false]), (373, [true, false]), (381, [true, false]), (389, [true, false]), (397, [true, false]), (404, [true, false]), (411, [true, false]), (419, [true, false]), (428, [true, false]), (451, [true, false]), (458, [true, false]), (467, [true, false]), (469, [true, true]), (475, [true, true]), (484, [true, true]), (487, [true, true]), (490, [false, false])] jcX11_init 5 rfl h
set_option maxRecDepth 100000 in
theorem gX11_init_12 (d : Nat) (p0 : Int) (m : jM) (Q : Int → jM → Prop)
    (h : (m (-3) 0 < m (-3) 1 ∧ jKd (m (-3) 0) = 20 ∧ jLn (m (-3) 0) = 48) ∧ (m (-3) 0) = (p0 + 2) ∧ aX11_init_20 d p0 (jUp (jNw m) p0 2 (m (-3) 0)) Q) :
    aX11_init_12 d p0 m Q := jWp_snd [(4, [true, false]), (12, [true, false]), (20, [true, false]), (28, [true, false]), (36, [true, false]), (43, [true, false]), (50, [true, false]), (58, [true, false]), (66, [true, false]), (74, [true, false]), (82, [true, false]), (90, [true, false]), (98, [true, false]), (106, [true, false]), (114, [true, false]), (122, [true, false]), (130, [true, false]), (138, [true, false]), (146, [true, false]), (154, [true, false]), (162, [true, false]), (170, [true, false]), (178, [true, false]), (185, [true, false]), (193, [true, false]), (201, [true, false]), (210, [true, false]), (219, [true, false]), (227, [true, false]), (235, [true, false]), (243, [true, false]), (251, [true, false]), (260, [true, false]), (268, [true, false]), (276, [true, false]), (284, [true, false]), (292, [true, false]), (300, [true, false]), (308, [true, false]), (316, [true, false]), (325, [true, false]), (333, [true, false]), (341, [true, false]), (349, [true, false]), (357, [true, false]), (365, [true, false]), (373, [true, false]), (381, [true, false]), (389, [true, false]), (397, [true, false]), (404, [true, false]), (411, [true, false]), (419, [true, false]), (428, [true, false]), (451, [true, false]), (458, [true, false]), (467, [true, false]), (469, [true, true]), (475, [true, true]), (484, [true, true]), (487, [true, true]), (490, [false, false])] jcX11_init 5 rfl h
set_option maxRecDepth 100000 in
theorem gX11_init_20 (d : Nat) (p0 : Int) (m : jM) (Q : Int → jM → Prop)
    (h : (m (-3) 0 < m (-3) 1 ∧ jKd (m (-3) 0) = 21 ∧ jLn (m (-3) 0) = 64) ∧ (m (-3) 0) = (p0 + 3) ∧ aX11_init_28 d p0 (jUp (jNw m) p0 3 (m (-3) 0)) Q) :
    aX11_init_20 d p0 m Q := jWp_snd [(4, [true, false]), (12, [true, false]), (20, [true, false]), (28, [true, false]), (36, [true, false]), (43, [true, false]), (50, [true, false]), (58, [true, false]), (66, [true, false]), (74, [true, false]), (82, [true, false]), (90, [true, false]), (98, [true, false]), (106, [true, false]), (114, [true, false]), (122, [true, false]), (130, [true, false]), (138, [true, false]), (146, [true, false]), (154, [true, false]), (162, [true, false]), (170, [true, false]), (178, [true, false]), (185, [true, false]), (193, [true, false]), (201, [true, false]), (210, [true, false]), (219, [true, false]), (227, [true, false]), (235, [true, false]), (243, [true, false]), (251, [true, false]), (260, [true, false]), (268, [true, false]), (276, [true, false]), (284, [true, false]), (292, [true, false]), (300, [true, false]), (308, [true, false]), (316, [true, false]), (325, [true, false]), (333, [true, false]), (341, [true, false]), (349, [true, false]), (357, [true, false]), (365, [true, false]), (373, [true, false]), (381, [true, false]), (389, [true, false]), (397, [true, false]), (404, [true, false]), (411, [true, false]), (419, [true, false]), (428, [true, false]), (451, [true, false]), (458, [true, false]), (467, [true, false]), (469, [true, true]), (475, [true, true]), (484, [true, true]), (487, [true, true]), (490, [false, false])] jcX11_init 5 rfl h
set_option maxRecDepth 100000 in
theorem gX11_init_28 (d : Nat) (p0 : Int) (m : jM) (Q : Int → jM → Prop)
    (h : (m (-3) 0 < m (-3) 1 ∧ jKd (m (-3) 0) = 20 ∧ jLn (m (-3) 0) = 64) ∧ (m (-3) 0) = (p0 + 4) ∧ aX11_init_36 d p0 (jUp (jNw m) p0 4 (m (-3) 0)) Q) :
    aX11_init_28 d p0 m Q := jWp_snd [(4, [true, false]), (12, [true, false]), (20, [true, false]), (28, [true, false]), (36, [true, false]), (43, [true, false]), (50, [true, false]), (58, [true, false]), (66, [true, false]), (74, [true, false]), (82, [true, false]), (90, [true, false]), (98, [true, false]), (106, [true, false]), (114, [true, false]), (122, [true, false]), (130, [true, false]), (138, [true, false]), (146, [true, false]), (154, [true, false]), (162, [true, false]), (170, [true, false]), (178, [true, false]), (185, [true, false]), (193, [true, false]), (201, [true, false]), (210, [true, false]), (219, [true, false]), (227, [true, false]), (235, [true, false]), (243, [true, false]), (251, [true, false]), (260, [true, false]), (268, [true, false]), (276, [true, false]), (284, [true, false]), (292, [true, false]), (300, [true, false]), (308, [true, false]), (316, [true, false]), (325, [true, false]), (333, [true, false]), (341, [true, false]), (349, [true, false]), (357, [true, false]), (365, [true, false]), (373, [true, false]), (381, [true, false]), (389, [true, false]), (397, [true, false]), (404, [true, false]), (411, [true, false]), (419, [true, false]), (428, [true, false]), (451, [true, false]), (458, [true, false]), (467, [true, false]), (469, [true, true]), (475, [true, true]), (484, [true, true]), (487, [true, true]), (490, [false, false])] jcX11_init 5 rfl h
set_option maxRecDepth 100000 in
theorem gX11_init_36 (d : Nat) (p0 : Int) (m : jM) (Q : Int → jM → Prop)
    (h : (m (-3) 0 < m (-3) 1 ∧ jKd (m (-3) 0) = 20 ∧ jLn (m (-3) 0) = 4) ∧ (m (-3) 0) = (p0 + 5) ∧ aX11_init_43 d p0 (jUp (jNw m) p0 5 (m (-3) 0)) Q) :
    aX11_init_36 d p0 m Q := jWp_snd [(4, [true, false]), (12, [true, false]), (20, [true, false]), (28, [true, false]), (36, [true, false]), (43, [true, false]), (50, [true, false]), (58, [true, false]), (66, [true, false]), (74, [true, false]), (82, [true, false]), (90, [true, false]), (98, [true, false]), (106, [true, false]), (114, [true, false]), (122, [true, false]), (130, [true, false]), (138, [true, false]), (146, [true, false]), (154, [true, false]), (162, [true, false]), (170, [true, false]), (178, [true, false]), (185, [true, false]), (193, [true, false]), (201, [true, false]), (210, [true, false]), (219, [true, false]), (227, [true, false]), (235, [true, false]), (243, [true, false]), (251, [true, false]), (260, [true, false]), (268, [true, false]), (276, [true, false]), (284, [true, false]), (292, [true, false]), (300, [true, false]), (308, [true, false]), (316, [true, false]), (325, [true, false]), (333, [true, false]), (341, [true, false]), (349, [true, false]), (357, [true, false]), (365, [true, false]), (373, [true, false]), (381, [true, false]), (389, [true, false]), (397, [true, false]), (404, [true, false]), (411, [true, false]), (419, [true, false]), (428, [true, false]), (451, [true, false]), (458, [true, false]), (467, [true, false]), (469, [true, true]), (475, [true, true]), (484, [true, true]), (487, [true, true]), (490, [false, false])] jcX11_init 5 rfl h
set_option maxRecDepth 100000 in
theorem gX11_init_43 (d : Nat) (p0 : Int) (m : jM) (Q : Int → jM → Prop)
    (h : (m (-3) 0 < m (-3) 1 ∧ jKd (m (-3) 0) = 20 ∧ jLn (m (-3) 0) = 4) ∧ (m (-3) 0) = (p0 + 6) ∧ aX11_init_50 d p0 (jUp (jNw m) p0 6 (m (-3) 0)) Q) :
    aX11_init_43 d p0 m Q := jWp_snd [(4, [true, false]), (12, [true, false]), (20, [true, false]), (28, [true, false]), (36, [true, false]), (43, [true, false]), (50, [true, false]), (58, [true, false]), (66, [true, false]), (74, [true, false]), (82, [true, false]), (90, [true, false]), (98, [true, false]), (106, [true, false]), (114, [true, false]), (122, [true, false]), (130, [true, false]), (138, [true, false]), (146, [true, false]), (154, [true, false]), (162, [true, false]), (170, [true, false]), (178, [true, false]), (185, [true, false]), (193, [true, false]), (201, [true, false]), (210, [true, false]), (219, [true, false]), (227, [true, false]), (235, [true, false]), (243, [true, false]), (251, [true, false]), (260, [true, false]), (268, [true, false]), (276, [true, false]), (284, [true, false]), (292, [true, false]), (300, [true, false]), (308, [true, false]), (316, [true, false]), (325, [true, false]), (333, [true, false]), (341, [true, false]), (349, [true, false]), (357, [true, false]), (365, [true, false]), (373, [true, false]), (381, [true, false]), (389, [true, false]), (397, [true, false]), (404, [true, false]), (411, [true, false]), (419, [true, false]), (428, [true, false]), (451, [true, false]), (458, [true, false]), (467, [true, false]), (469, [true, true]), (475, [true, true]), (484, [true, true]), (487, [true, true]), (490, [false, false])] jcX11_init 5 rfl h
set_option maxRecDepth 100000 in
theorem gX11_init_50 (d : Nat) (p0 : Int) (m : jM) (Q : Int → jM → Prop)
    (h : (m (-3) 0 < m (-3) 1 ∧ jKd (m (-3) 0) = 20 ∧ jLn (m (-3) 0) = 16) ∧ (m (-3) 0) = (p0 + 7) ∧ aX11_init_58 d p0 (jUp (jNw m) p0 7 (m (-3) 0)) Q) :
    aX11_init_50 d p0 m Q := jWp_snd [(4, [true, false]), (12, [true, false]), (20, [true, false]), (28, [true, false]), (36, [true, false]), (43, [true, false]), (50, [true, false]), (58, [true, false]), (66, [true, false]), (74, [true, false]), (82, [true, false]), (90, [true, false]), (98, [true, false]), (106, [true, false]), (114, [true, false]), (122, [true, false]), (130, [true, false]), (138, [true, false]), (146, [true, false]), (154, [true, false]), (162, [true, false]), (170, [true, false]), (178, [true, false]), (185, [true, false]), (193, [true, false]), (201, [true, false]), (210, [true, false]), (219, [true, false]), (227, [true, false]), (235, [true, false]), (243, [true, false]), (251, [true, false]), (260, [true, false]), (268, [true, false]), (276, [true, false]), (284, [true, false]), (292, [true, false]), (300, [true, false]), (308, [true, false]), (316, [true, false]), (325, [true, false]), (333, [true, false]), (341, [true, false]), (349, [true, false]), (357, [true, false]), (365, [true, false]), (373, [true, false]), (381, [true, false]), (389, [true, false]), (397, [true, false]), (404, [true, false]), (411, [true, false]), (419, [true, false]), (428, [true, false]), (451, [true, false]), (458, [true, false]), (467, [true, false]), (469, [true, true]), (475, [true, true]), (484, [true, true]), (487, [true, true]), (490, [false, false])] jcX11_init 5 rfl h
set_option maxRecDepth 100000 in
theorem gX11_init_58 (d : Nat) (p0 : Int) (m : jM) (Q : Int → jM → Prop)
    (h : (m (-3) 0 < m (-3) 1 ∧ jKd (m (-3) 0) = 20 ∧ jLn (m (-3) 0) = 96) ∧ (m (-3) 0) = (p0 + 8) ∧ aX11_init_66 d p0 (jUp (jNw m) p0 8 (m (-3) 0)) Q) :
    aX11_init_58 d p0 m Q := jWp_snd [(4, [true, false]), (12, [true, false]), (20, [true, false]), (28, [true, false]), (36, [true, false]), (43, [true, false]), (50, [true, false]), (58, [true, false]), (66, [true, false]), (74, [true, false]), (82, [true, false]), (90, [true, false]), (98, [true, false]), (106, [true, false]), (114, [true, false]), (122, [true, false]), (130, [true, false]), (138, [true, false]), (146, [true, false]), (154, [true, false]), (162, [true, false]), (170, [true, false]), (178, [true, false]), (185, [true, false]), (193, [true, false]), (201, [true, false]), (210, [true, false]), (219, [true, false]), (227, [true, false]), (235, [true, false]), (243, [true, false]), (251, [true, false]), (260, [true, false]), (268, [true, false]), (276, [true, false]), (284, [true, false]), (292, [true, false]), (300, [true, false]), (308, [true, false]), (316, [true, false]), (325, [true, false]), (333, [true, false]), (341, [true, false]), (349, [true, false]), (357, [true, false]), (365, [true, false]), (373, [true, false]), (381, [true, false]), (389, [true, false]), (397, [true, false]), (404, [true, false]), (411, [true, false]), (419, [true, false]), (428, [true, false]), (451, [true, false]), (458, [true, false]), (467, [true, false]), (469, [true, true]), (475, [true, true]), (484, [true, true]), (487, [true, true]), (490, [false, false])] jcX11_init 5 rfl h
set_option maxRecDepth 100000 in
theorem gX11_init_66 (d : Nat) (p0 : Int) (m : jM) (Q : Int → jM → Prop)
    (h : (m (-3) 0 < m (-3) 1 ∧ jKd (m (-3) 0) = 20 ∧ jLn (m (-3) 0) = 96) ∧ (m (-3) 0) = (p0 + 9) ∧ aX11_init_74 d p0 (jUp (jNw m) p0 9 (m (-3) 0)) Q) :
    aX11_init_66 d p0 m Q := jWp_snd [(4, [true, false]), (12, [true, false]), (20, [true, false]), (28, [true, false]), (36, [true, false]), (43, [true, false]), (50, [true, false]), (58, [true, false]), (66, [true, false]), (74, [true, false]), (82, [true, false]), (90, [true, false]), (98, [true, false]), (106, [true, false]), (114, [true, false]), (122, [true, false]), (130, [true, false]), (138, [true, false]), (146, [true, false]), (154, [true, false]), (162, [true, false]), (170, [true, false]), (178, [true, false]), (185, [true, false]), (193, [true, false]), (201, [true, false]), (210, [true, false]), (219, [true, false]), (227, [true, false]), (235, [true, false]), (243, [true, false]), (251, [true, false]), (260, [true, false]), (268, [true, false]), (276, [true, false]), (284, [true, false]), (292, [true, false]), (300, [true, false]), (308, [true, false]), (316, [true, false]), (325, [true, false]), (333, [true, false]), (341, [true, false]), (349, [true, false]), (357, [true, false]), (365, [true, false]), (373, [true, false]), (381, [true, false]), (389, [true, false]), (397, [true, false]), (404, [true, false]), (411, [true, false]), (419, [true, false]), (428, [true, false]), (451, [true, false]), (458, [true, false]), (467, [true, false]), (469, [true, true]), (475, [true, true]), (484, [true, true]), (487, [true, true]), (490, [false, false])] jcX11_init 5 rfl h
set_option maxRecDepth 100000 in
theorem gX11_init_74 (d : Nat) (p0 : Int) (m : jM) (Q : Int → jM → Prop)
    (h : (m (-3) 0 < m (-3) 1 ∧ jKd (m (-3) 0) = 20 ∧ jLn (m (-3) 0) = 96) ∧ (m (-3) 0) = (p0 + 10) ∧ aX11_init_82 d p0 (jUp (jNw m) p0 10 (m (-3) 0)) Q) :
    aX11_init_74 d p0 m Q := jWp_snd [(4, [true, false]), (12, [true, false]), (20, [true, false]), (28, [true, false]), (36, [true, false]), (43, [true, false]), (50, [true, false]), (58, [true, false]), (66, [true, false]), (74, [true, false]), (82, [true, false]), (90, [true, false]), (98, [true, false]), (106, [true, false]), (114, [true, false]), (122, [true, false]), (130, [true, false]), (138, [true, false]), (146, [true, false]), (154, [true, false]), (162, [true, false]), (170, [true, false]), (178, [true, false]), (185, [true, false]), (193, [true, false]), (201, [true, false]), (210, [true, false]), (219, [true, false]), (227, [true, false]), (235, [true, false]), (243, [true, false]), (251, [true, false]), (260, [true, false]), (268, [true, false]), (276, [true, false]), (284, [true, false]), (292, [true, false]), (300, [true, false]), (308, [true, false]), (316, [true, false]), (325, [true, false]), (333, [true, false]), (341, [true, false]), (349, [true, false]), (357, [true, false]), (365, [true, false]), (373, [true, false]), (381, [true, false]), (389, [true, false]), (397, [true, false]), (404, [true, false]), (411, [true, false]), (419, [true, false]), (428, [true, false]), (451, [true, false]), (458, [true, false]), (467, [true, false]), (469, [true, true]), (475, [true, true]), (484, [true, true]), (487, [true, true]), (490, [false, false])] jcX11_init 5 rfl h
set_option maxRecDepth 100000 in
theorem gX11_init_82 (d : Nat) (p0 : Int) (m : jM) (Q : Int → jM → Prop)
    (h : (m (-3) 0 < m (-3) 1 ∧ jKd (m (-3) 0) = 20 ∧ jLn (m (-3) 0) = 96) ∧ (m (-3) 0) = (p0 + 11) ∧ aX11_init_90 d p0 (jUp (jNw m) p0 11 (m (-3) 0)) Q) :
    aX11_init_82 d p0 m Q := jWp_snd [(4, [true, false]), (12, [true, false]), (20, [true, false]), (28, [true, false]), (36, [true, false]), (43, [true, false]), (50, [true, false]), (58, [true, false]), (66, [true, false]), (74, [true, false]), (82, [true, false]), (90, [true, false]), (98, [true, false]), (106, [true, false]), (114, [true, false]), (122, [true, false]), (130, [true, false]), (138, [true, false]), (146, [true, false]), (154, [true, false]), (162, [true, false]), (170, [true, false]), (178, [true, false]), (185, [true, false]), (193, [true, false]), (201, [true, false]), (210, [true, false]), (219, [true, false]), (227, [true, false]), (235, [true, false]), (243, [true, false]), (251, [true, false]), (260, [true, false]), (268, [true, false]), (276, [true, false]), (284, [true, false]), (292, [true, false]), (300, [true, false]), (308, [true, false]), (316, [true, false]), (325, [true, false]), (333, [true, false]), (341, [true, false]), (349, [true, false]), (357, [true, false]), (365, [true, false]), (373, [true, false]), (381, [true, false]), (389, [true, false]), (397, [true, false]), (404, [true, false]), (411, [true, false]), (419, [true, false]), (428, [true, false]), (451, [true, false]), (458, [true, false]), (467, [true, false]), (469, [true, true]), (475, [true, true]), (484, [true, true]), (487, [true, true]), (490, [false, false])] jcX11_init 5 rfl h
set_option maxRecDepth 100000 in
theorem gX11_init_90 (d : Nat) (p0 : Int) (m : jM) (Q : Int → jM → Prop)
    (h : (m (-3) 0 < m (-3) 1 ∧ jKd (m (-3) 0) = 20 ∧ jLn (m (-3) 0) = 96) ∧ (m (-3) 0) = (p0 + 12) ∧ aX11_init_98 d p0 (jUp (jNw m) p0 12 (m (-3) 0)) Q) :
    aX11_init_90 d p0 m Q := jWp_snd [(4, [true, false]), (12, [true, false]), (20, [true, false]), (28, [true, false]), (36, [true, false]), (43, [true, false]), (50, [true, false]), (58, [true, false]), (66, [true, false]), (74, [true, false]), (82, [true, false]), (90, [true, false]), (98, [true, false]), (106, [true, false]), (114, [true, false]), (122, [true, false]), (130, [true, false]), (138, [true, false]), (146, [true, false]), (154, [true, false]), (162, [true, false]), (170, [true, false]), (178, [true, false]), (185, [true, false]), (193, [true, false]), (201, [true, false]), (210, [true, false]), (219, [true, false]), (227, [true, false]), (235, [true, false]), (243, [true, false]), (251, [true, false]), (260, [true, false]), (268, [true, false]), (276, [true, false]), (284, [true, false]), (292, [true, false]), (300, [true, false]), (308, [true, false]), (316, [true, false]), (325, [true, false]), (333, [true, false]), (341, [true, false]), (349, [true, false]), (357, [true, false]), (365, [true, false]), (373, [true, false]), (381, [true, false]), (389, [true, false]), (397, [true, false]), (404, [true, false]), (411, [true, false]), (419, [true, false]), (428, [true, false]), (451, [true, false]), (458, [true, false]), (467, [true, false]), (469, [true, true]), (475, [true, true]), (484, [true, true]), (487, [true, true]), (490, [false, false])] jcX11_init 5 rfl h
set_option maxRecDepth 100000 in
theorem gX11_init_98 (d : Nat) (p0 : Int) (m : jM) (Q : Int → jM → Prop)
    (h : (m (-3) 0 < m (-3) 1 ∧ jKd (m (-3) 0) = 20 ∧ jLn (m (-3) 0) = 96) ∧ (m (-3) 0) = (p0 + 13) ∧ aX11_init_106 d p0 (jUp (jNw m) p0 13 (m (-3) 0)) Q) :
    aX11_init_98 d p0 m Q := jWp_snd [(4, [true, false]), (12, [true, false]), (20, [true, false]), (28, [true, false]), (36, [true, false]), (43, [true, false]), (50, [true, false]), (58, [true, false]), (66, [true, false]), (74, [true, false]), (82, [true, false]), (90, [true, false]), (98, [true, false]), (106, [true, false]), (114, [true, false]), (122, [true, false]), (130, [true, false]), (138, [true, false]), (146, [true, false]), (154, [true, false]), (162, [true, false]), (170, [true, false]), (178, [true, false]), (185, [true, false]), (193, [true, false]), (201, [true, false]), (210, [true, false]), (219, [true, false]), (227, [true, false]), (235, [true, false]), (243, [true, false]), (251, [true, false]), (260, [true, false]), (268, [true, false]), (276, [true, false]), (284, [true, false]), (292, [true, false]), (300, [true, false]), (308, [true, false]), (316, [true, false]), (325, [true, false]), (333, [true, false]), (341, [true, false]), (349, [true, false]), (357, [true, false]), (365, [true, false]), (373, [true, false]), (381, [true, false]), (389, [true, false]), (397, [true, false]), (404, [true, false]), (411, [true, false]), (419, [true, false]), (428, [true, false]), (451, [true, false]), (458, [true, false]), (467, [true, false]), (469, [true, true]), (475, [true, true]), (484, [true, true]), (487, [true, true]), (490, [false, false])] jcX11_init 5 rfl h
set_option maxRecDepth 100000 in
theorem gX11_init_106 (d : Nat) (p0 : Int) (m : jM) (Q : Int → jM → Prop)
    (h : (m (-3) 0 < m (-3) 1 ∧ jKd (m (-3) 0) = 20 ∧ jLn (m (-3) 0) = 96) ∧ (m (-3) 0) = (p0 + 14) ∧ aX11_init_114 d p0 (jUp (jNw m) p0 14 (m (-3) 0)) Q) :
    aX11_init_106 d p0 m Q := jWp_snd [(4, [true, false]), (12, [true, false]), (20, [true, false]), (28, [true, false]), (36, [true, false]), (43, [true, false]), (50, [true, false]), (58, [true, false]), (66, [true, false]), (74, [true, false]), (82, [true, false]), (90, [true, false]), (98, [true, false]), (106, [true, false]), (114, [true, false]), (122, [true, false]), (130, [true, false]), (138, [true, false]), (146, [true, false]), (154, [true, false]), (162, [true, false]), (170, [true, false]), (178, [true, false]), (185, [true, false]), (193, [true, false]), (201, [true, false]), (210, [true, false]), (219, [true, false]), (227, [true, false]), (235, [true, false]), (243, [true, false]), (251, [true, false]), (260, [true, false]), (268, [true, false]), (276, [true, false]), (284, [true, false]), (292, [true, false]), (300, [true, false]), (308, [true, false]), (316, [true, false]), (325, [true, false]), (333, [true, false]), (341, [true, false]), (349, [true, false]), (357, [true, false]), (365, [true, false]), (373, [true, false]), (381, [true, false]), (389, [true, false]), (397, [true, false]), (404, [true, false]), (411, [true, false]), (419, [true, false]), (428, [true, false]), (451, [true, false]), (458, [true, false]), (467, [true, false]), (469, [true, true]), (475, [true, true]), (484, [true, true]), (487, [true, true]), (490, [false, false])] jcX11_init 5 rfl h
set_option maxRecDepth 100000 in
theorem gX11_init_114 (d : Nat) (p0 : Int) (m : jM) (Q : Int → jM → Prop)
    (h : (m (-3) 0 < m (-3) 1 ∧ jKd (m (-3) 0) = 20 ∧ jLn (m (-3) 0) = 60) ∧ (m (-3) 0) = (p0 + 15) ∧ aX11_init_122 d p0 (jUp (jNw m) p0 15 (m (-3) 0)) Q) :
    aX11_init_114 d p0 m Q := jWp_snd [(4, [true, false]), (12, [true, false]), (20, [true, false]), (28, [true, false]), (36, [true, false]), (43, [true, false]), (50, [true, false]), (58, [true, false]), (66, [true, false]), (74, [true, false]), (82, [true, false]), (90, [true, false]), (98, [true, false]), (106, [true, false]), (114, [true, false]), (122, [true, false]), (130, [true, false]), (138, [true, false]), (146, [true, false]), (154, [true, false]), (162, [true, false]), (170, [true, false]), (178, [true, false]), (185, [true, false]), (193, [true, false]), (201, [true, false]), (210, [true, false]), (219, [true, false]), (227, [true, false]), (235, [true, false]), (243, [true, false]), (251, [true, false]), (260, [true, false]), (268, [true, false]), (276, [true, false]), (284, [true, false]), (292, [true, false]), (300, [true, false]), (308, [true, false]), (316, [true, false]), (325, [true, false]), (333, [true, false]), (341, [true, false]), (349, [true, false]), (357, [true, false]), (365, [true, false]), (373, [true, false]), (381, [true, false]), (389, [true, false]), (397, [true, false]), (404, [true, false]), (411, [true, false]), (419, [true, false]), (428, [true, false]), (451, [true, false]), (458, [true, false]), (467, [true, false]), (469, [true, true]), (475, [true, true]), (484, [true, true]), (487, [true, true]), (490, [false, false])] jcX11_init 5 rfl h
set_option maxRecDepth 100000 in
theorem gX11_init_122 (d : Nat) (p0 : Int) (m : jM) (Q : Int → jM → Prop)
    (h : (m (-3) 0 < m (-3) 1 ∧ jKd (m (-3) 0) = 20 ∧ jLn (m (-3) 0) = 24) ∧ (m (-3) 0) = (p0 + 16) ∧ aX11_init_130 d p0 (jUp (jNw m) p0 25 (m (-3) 0)) Q) :
    aX11_init_122 d p0 m Q := jWp_snd [(4, [true, false]), (12, [true, false]), (20, [true, false]), (28, [true, false]), (36, [true, false]), (43, [true, false]), (50, [true, false]), (58, [true, false]), (66, [true, false]), (74, [true, false]), (82, [true, false]), (90, [true, false]), (98, [true, false]), (106, [true, false]), (114, [true, false]), (122, [true, false]), (130, [true, false]), (138, [true, false]), (146, [true, false]), (154, [true, false]), (162, [true, false]), (170, [true, false]), (178, [true, false]), (185, [true, false]), (193, [true, false]), (201, [true, false]), (210, [true, false]), (219, [true, false]), (227, [true, false]), (235, [true, false]), (243, [true, false]), (251, [true, false]), (260, [true, false]), (268, [true, false]), (276, [true, false]), (284, [true, false]), (292, [true, false]), (300, [true, false]), (308, [true, false]), (316, [true, false]), (325, [true, false]), (333, [true, false]), (341, [true, false]), (349, [true, false]), (357, [true, false]), (365, [true, false]), (373, [true, false]), (381, [true, false]), (389, [true, false]), (397, [true, false]), (404, [true, false]), (411, [true, false]), (419, [true, false]), (428, [true, false]), (451, [true, false]), (458, [true, false]), (467, [true, false]), (469, [true, true]), (475, [true, true]), (484, [true, true]), (487, [true, true]), (490, [false, false])] jcX11_init 5 rfl h
set_option maxRecDepth 100000 in
theorem gX11_init_130 (d : Nat) (p0 : Int) (m : jM) (Q : Int → jM → Prop)
    (h : (m (-3) 0 < m (-3) 1 ∧ jKd (m (-3) 0) = 20 ∧ jLn (m (-3) 0) = 24) ∧ (m (-3) 0) = (p0 + 17) ∧ aX11_init_138 d p0 (jUp (jNw m) p0 26 (m (-3) 0)) Q) :
    aX11_init_130 d p0 m Q := jWp_snd [(4, [true, false]), (12, [true, false]), (20, [true, false]), (28, [true, false]), (36, [true, false]), (43, [true, false]), (50, [true, false]), (58, [true, false]), (66, [true, false]), (74, [true, false]), (82, [true, false]), (90, [true, false]), (98, [true, false]), (106, [true, false]), (114, [true, false]), (122, [true, false]), (130, [true, false]), (138, [true, false]), (146, [true, false]), (154, [true, false]), (162, [true, false]), (170, [true, false]), (178, [true, false]), (185, [true, false]), (193, [true, false]), (201, [true, false]), (210, [true, false]), (219, [true, false]), (227, [true, false]), (235, [true, false]), (243, [true, false]), (251, [true, false]), (260, [true, false]), (268, [true, false]), (276, [true, false]), (284, [true, false]), (292, [true, false]), (300, [true, false]), (308, [true, false]), (316, [true, false]), (325, [true, false]), (333, [true, false]), (341, [true, false]), (349, [true, false]), (357, [true, false]), (365, [true, false]), (373, [true, false]), (381, [true, false]), (389, [true, false]), (397, [true, false]), (404, [true, false]), (411, [true, false]), (419, [true, false]), (428, [true, false]), (451, [true, false]), (458, [true, false]), (467, [true, false]), (469, [true, true]), (475, [true, true]), (484, [true, true]), (487, [true, true]), (490, [false, false])] jcX11_init 5 rfl h
set_option maxRecDepth 100000 in
theorem gX11_init_138 (d : Nat) (p0 : Int) (m : jM) (Q : Int → jM → Prop)
    (h : (m (-3) 0 < m (-3) 1 ∧ jKd (m (-3) 0) = 20 ∧ jLn (m (-3) 0) = 24) ∧ (m (-3) 0) = (p0 + 18) ∧ aX11_init_146 d p0 (jUp (jNw m) p0 27 (m (-3) 0)) Q) :
    aX11_init_138 d p0 m Q := jWp_snd [(4, [true, false]), (12, [true, false]), (20, [true, false]), (28, [true, false]), (36, [true, false]), (43, [true, false]), (50, [true, false]), (58, [true, false]), (66, [true, false]), (74, [true, false]), (82, [true, false]), (90, [true, false]), (98, [true, false]), (106, [true, false]), (114, [true, false]), (122, [true, false]), (130, [true, false]), (138, [true, false]), (146, [true, false]), (154, [true, false]), (162, [true, false]), (170, [true, false]), (178, [true, false]), (185, [true, false]), (193, [true, false]), (201, [true, false]), (210, [true, false]), (219, [true, false]), (227, [true, false]), (235, [true, false]), (243, [true, false]), (251, [true, false]), (260, [true, false]), (268, [true, false]), (276, [true, false]), (284, [true, false]), (292, [true, false]), (300, [true, false]), (308, [true, false]), (316, [true, false]), (325, [true, false]), (333, [true, false]), (341, [true, false]), (349, [true, false]), (357, [true, false]), (365, [true, false]), (373, [true, false]), (381, [true, false]), (389, [true, false]), (397, [true, false]), (404, [true, false]), (411, [true, false]), (419, [true, false]), (428, [true, false]), (451, [true, false]), (458, [true, false]), (467, [true, false]), (469, [true, true]), (475, [true, true]), (484, [true, true]), (487, [true, true]), (490, [false, false])] jcX11_init 5 rfl h
set_option maxRecDepth 100000 in
theorem gX11_init_146 (d : Nat) (p0 : Int) (m : jM) (Q : Int → jM → Prop)
    (h : (m (-3) 0 < m (-3) 1 ∧ jKd (m (-3) 0) = 20 ∧ jLn (m (-3) 0) = 24) ∧ (m (-3) 0) = (p0 + 19) ∧ aX11_init_154 d p0 (jUp (jNw m) p0 28 (m (-3) 0)) Q) :
    aX11_init_146 d p0 m Q := jWp_snd [(4, [true, false]), (12, [true, false]), (20, [true, false]), (28, [true, false]), (36, [true, false]), (43, [true, false]), (50, [true, false]), (58, [true, false]), (66, [true, false]), (74, [true, false]), (82, [true, false]), (90, [true, false]), (98, [true, false]), (106, [true, false]), (114, [true, false]), (122, [true, false]), (130, [true, false]), (138, [true, false]), (146, [true, false]), (154, [true, false]), (162, [true, false]), (170, [true, false]), (178, [true, false]), (185, [true, false]), (193, [true, false]), (201, [true, false]), (210, [true, false]), (219, [true, false]), (227, [true, false]), (235, [true, false]), (243, [true, false]), (251, [true, false]), (260, [true, false]), (268, [true, false]), (276, [true, false]), (284, [true, false]), (292, [true, false]), (300, [true, false]), (308, [true, false]), (316, [true, false]), (325, [true, false]), (333, [true, false]), (341, [true, false]), (349, [true, false]), (357, [true, false]), (365, [true, false]), (373, [true, false]), (381, [true, false]), (389, [true, false]), (397, [true, false]), (404, [true, false]), (411, [true, false]), (419, [true, false]), (428, [true, false]), (451, [true, false]), (458, [true, false]), (467, [true, false]), (469, [true, true]), (475, [true, true]), (484, [true, true]), (487, [true, true]), (490, [false, false])] jcX11_init 5 rfl h
set_option maxRecDepth 100000 in
theorem gX11_init_154 (d : Nat) (p0 : Int) (m : jM) (Q : Int → jM → Prop)
    (h : (m (-3) 0 < m (-3) 1 ∧ jKd (m (-3) 0) = 20 ∧ jLn (m (-3) 0) = 24) ∧ (m (-3) 0) = (p0 + 20) ∧ aX11_init_162 d p0 (jUp (jNw m) p0 29 (m (-3) 0)) Q) :
    aX11_init_154 d p0 m Q := jWp_snd [(4, [true, false]), (12, [true, false]), (20, [true, false]), (28, [true, false]), (36, [true, false]), (43, [true, false]), (50, [true, false]), (58, [true, false]), (66, [true, false]), (74, [true, false]), (82, [true, false]), (90, [true, false]), (98, [true, false]), (106, [true, false]), (114, [true, false]), (122, [true, false]), (130, [true, false]), (138, [true, false]), (146, [true, false]), (154, [true, false]), (162, [true, false]), (170, [true, false]), (178, [true, false]), (185, [true, false]), (193, [true, false]), (201, [true, false]), (210, [true, false]), (219, [true, false]), (227, [true, false]), (235, [true, false]), (243, [true, false]), (251, [true, false]), (260, [true, false]), (268, [true, false]), (276, [true, false]), (284, [true, false]), (292, [true, false]), (300, [true, false]), (308, [true, false]), (316, [true, false]), (325, [true, false]), (333, [true, false]), (341, [true, false]), (349, [true, false]), (357, [true, false]), (365, [true, false]), (373, [true, false]), (381, [true, false]), (389, [true, false]), (397, [true, false]), (404, [true, false]), (411, [true, false]), (419, [true, false]), (428, [true, false]), (451, [true, false]), (458, [true, false]), (467, [true, false]), (469, [true, true]), (475, [true, true]), (484, [true, true]), (487, [true, true]), (490, [false, false])] jcX11_init 5 rfl h
set_option maxRecDepth 100000 in
theorem gX11_init_162 (d : Nat) (p0 : Int) (m : jM) (Q : Int → jM → Prop)
    (h : (m (-3) 0 < m (-3) 1 ∧ jKd (m (-3) 0) = 20 ∧ jLn (m (-3) 0) = 24) ∧ (m (-3) 0) = (p0 + 21) ∧ aX11_init_170 d p0 (jUp (jNw m) p0 30 (m (-3) 0)) Q) :
    aX11_init_162 d p0 m Q := jWp_snd [(4, [true, false]), (12, [true, false]), (20, [true, false]), (28, [true, false]), (36, [true, false]), (43, [true, false]), (50, [true, false]), (58, [true, false]), (66, [true, false]), (74, [true, false]), (82, [true, false]), (90, [true, false]), (98, [true, false]), (106, [true, false]), (114, [true, false]), (122, [true, false]), (130, [true, false]), (138, [true, false]), (146, [true, false]), (154, [true, false]), (162, [true, false]), (170, [true, false]), (178, [true, false]), (185, [true, false]), (193, [true, false]), (201, [true, false]), (210, [true, false]), (219, [true, false]), (227, [true, false]), (235, [true, false]), (243, [true, false]), (251, [true, false]), (260, [true, false]), (268, [true, false]), (276, [true, false]), (284, [true, false]), (292, [true, false]), (300, [true, false]), (308, [true, false]), (316, [true, false]), (325, [true, false]), (333, [true, false]), (341, [true, false]), (349, [true, false]), (357, [true, false]), (365, [true, false]), (373, [true, false]), (381, [true, false]), (389, [true, false]), (397, [true, false]), (404, [true, false]), (411, [true, false]), (419, [true, false]), (428, [true, false]), (451, [true, false]), (458, [true, false]), (467, [true, false]), (469, [true, true]), (475, [true, true]), (484, [true, true]), (487, [true, true]), (490, [false, false])] jcX11_init 5 rfl h
set_option maxRecDepth 100000 in
theorem gX11_init_170 (d : Nat) (p0 : Int) (m : jM) (Q : Int → jM → Prop)
    (h : (m (-3) 0 < m (-3) 1 ∧ jKd (m (-3) 0) = 20 ∧ jLn (m (-3) 0) = 24) ∧ (m (-3) 0) = (p0 + 22) ∧ aX11_init_178 d p0 (jUp (jNw m) p0 31 (m (-3) 0)) Q) :
    aX11_init_170 d p0 m Q := jWp_snd [(4, [true, false]), (12, [true, false]), (20, [true, false]), (28, [true, false]), (36, [true, false]), (43, [true, false]), (50, [true, false]), (58, [true, false]), (66, [true, false]), (74, [true, false]), (82, [true, false]), (90, [true, false]), (98, [true, false]), (106, [true, false]), (114, [true, false]), (122, [true, false]), (130, [true, false]), (138, [true, false]), (146, [true, false]), (154, [true, false]), (162, [true, false]), (170, [true, false]), (178, [true, false]), (185, [true, false]), (193, [true, false]), (201, [true, false]), (210, [true, false]), (219, [true, false]), (227, [true, false]), (235, [true, false]), (243, [true, false]), (251, [true, false]), (260, [true, false]), (268, [true, false]), (276, [true, false]), (284, [true, false]), (292, [true, false]), (300, [true, false]), (308, [true, false]), (316, [true, false]), (325, [true, false]), (333, [true, false]), (341, [true, false]), (349, [true, false]), (357, [true, false]), (365, [true, false]), (373, [true, false]), (381, [true, false]), (389, [true, false]), (397, [true, false]), (404, [true, false]), (411, [true, false]), (419, [true, false]), (428, [true, false]), (451, [true, false]), (458, [true, false]), (467, [true, false]), (469, [true, true]), (475, [true, true]), (484, [true, true]), (487, [true, true]), (490, [false, false])] jcX11_init 5 rfl h
set_option maxRecDepth 100000 in
theorem gX11_init_178 (d : Nat) (p0 : Int) (m : jM) (Q : Int → jM → Prop)
    (h : (m (-3) 0 < m (-3) 1 ∧ jKd (m (-3) 0) = 20 ∧ jLn (m (-3) 0) = 4) ∧ (m (-3) 0) = (p0 + 23) ∧ aX11_init_185 d p0 (jUp (jNw m) p0 32 (m (-3) 0)) Q) :
    aX11_init_178 d p0 m Q := jWp_snd [(4, [true, false]), (12, [true, false]), (20, [true, false]), (28, [true, false]), (36, [true, false]), (43, [true, false]), (50, [true, false]), (58, [true, false]), (66, [true, false]), (74, [true, false]), (82, [true, false]), (90, [true, false]), (98, [true, false]), (106, [true, false]), (114, [true, false]), (122, [true, false]), (130, [true, false]), (138, [true, false]), (146, [true, false]), (154, [true, false]), (162, [true, false]), (170, [true, false]), (178, [true, false]), (185, [true, false]), (193, [true, false]), (201, [true, false]), (210, [true, false]), (219, [true, false]), (227, [true, false]), (235, [true, false]), (243, [true, false]), (251, [true, false]), (260, [true, false]), (268, [true, false]), (276, [true, false]), (284, [true, false]), (292, [true, false]), (300, [true, false]), (308, [true, false]), (316, [true, false]), (325, [true, false]), (333, [true, false]), (341, [true, false]), (349, [true, false]), (357, [true, false]), (365, [true, false]), (373, [true, false]), (381, [true, false]), (389, [true, false]), (397, [true, false]), (404, [true, false]), (411, [true, false]), (419, [true, false]), (428, [true, false]), (451, [true, false]), (458, [true, false]), (467, [true, false]), (469, [true, true]), (475, [true, true]), (484, [true, true]), (487, [true, true]), (490, [false, false])] jcX11_init 5 rfl h
set_option maxRecDepth 100000 in
theorem gX11_init_185 (d : Nat) (p0 : Int) (m : jM) (Q : Int → jM → Prop)
    (h : (m (-3) 0 < m (-3) 1 ∧ jKd (m (-3) 0) = 21 ∧ jLn (m (-3) 0) = 64) ∧ (m (-3) 0) = (p0 + 24) ∧ aX11_init_193 d p0 (jUp (jNw m) p0 40 (m (-3) 0)) Q) :
    aX11_init_185 d p0 m Q := jWp_snd [(4, [true, false]), (12, [true, false]), (20, [true, false]), (28, [true, false]), (36, [true, false]), (43, [true, false]), (50, [true, false]), (58, [true, false]), (66, [true, false]), (74, [true, false]), (82, [true, false]), (90, [true, false]), (98, [true, false]), (106, [true, false]), (114, [true, false]), (122, [true, false]), (130, [true, false]), (138, [true, false]), (146, [true, false]), (154, [true, false]), (162, [true, false]), (170, [true, false]), (178, [true, false]), (185, [true, false]), (193, [true, false]), (201, [true, false]), (210, [true, false]), (219, [true, false]), (227, [true, false]), (235, [true, false]), (243, [true, false]), (251, [true, false]), (260, [true, false]), (268, [true, false]), (276, [true, false]), (284, [true, false]), (292, [true, false]), (300, [true, false]), (308, [true, false]), (316, [true, false]), (325, [true, false]), (333, [true, false]), (341, [true, false]), (349, [true, false]), (357, [true, false]), (365, [true, false]), (373, [true, false]), (381, [true, false]), (389, [true, false]), (397, [true, false]), (404, [true, false]), (411, [true, false]), (419, [true, false]), (428, [true, false]), (451, [true, false]), (458, [true, false]), (467, [true, false]), (469, [true, true]), (475, [true, true]), (484, [true, true]), (487, [true, true]), (490, [false, false])] jcX11_init 5 rfl h
set_option maxRecDepth 100000 in
theorem gX11_init_193 (d : Nat) (p0 : Int) (m : jM) (Q : Int → jM → Prop)
    (h : (m (-3) 0 < m (-3) 1 ∧ jKd (m (-3) 0) = 21 ∧ jLn (m (-3) 0) = 64) ∧ (m (-3) 0) = (p0 + 25) ∧ aX11_init_201 d p0 (jUp (jNw m) p0 41 (m (-3) 0)) Q) :
    aX11_init_193 d p0 m Q := jWp_snd [(4, [true, false]), (12, [true, false]), (20, [true, false]), (28, [true, false]), (36, [true, false]), (43, [true, false]), (50, [true, false]), (58, [true, false]), (66, [true, false]), (74, [true, false]), (82, [true, false]), (90, [true, false]), (98, [true, false]), (106, [true, false]), (114, [true, false]), (122, [true, false]), (130, [true, false]), (138, [true, false]), (146, [true, false]), (154, [true, false]), (162, [true, false]), (170, [true, false]), (178, [true, false]), (185, [true, false]), (193, [true, false]), (201, [true, false]), (210, [true, false]), (219, [true, false]), (227, [true, false]), (235, [true, false]), (243, [true, false]), (251, [true, false]), (260, [true, false]), (268, [true, false]), (276, [true, false]), (284, [true, false]), (292, [true, false]), (300, [true, false]), (308, [true, false]), (316, [true, false]), (325, [true, false]), (333, [true, false]), (341, [true, false]), (349, [true, false]), (357, [true, false]), (365, [true, false]), (373, [true, false]), (381, [true, false]), (389, [true, false]), (397, [true, false]), (404, [true, false]), (411, [true, false]), (419, [true, false]), (428, [true, false]), (451, [true, false]), (458, [true, false]), (467, [true, false]), (469, [true, true]), (475, [true, true]), (484, [true, true]), (487, [true, true]), (490, [false, false])] jcX11_init 5 rfl h
set_option maxRecDepth 100000 in
theorem gX11_init_201 (d : Nat) (p0 : Int) (m : jM) (Q : Int → jM → Prop)
    (h : (m (-3) 0 < m (-3) 1 ∧ jKd (m (-3) 0) = 21 ∧ jLn (m (-3) 0) = 2304) ∧ (m (-3) 0) = (p0 + 26) ∧ aX11_init_210 d p0 (jUp (jNw m) p0 42 (m (-3) 0)) Q) :
    aX11_init_201 d p0 m Q := jWp_snd [(4, [true, false]), (12, [true, false]), (20, [true, false]), (28, [true, false]), (36, [true, false]), (43, [true, false]), (50, [true, false]), (58, [true, false]), (66, [true, false]), (74, [true, false]), (82, [true, false]), (90, [true, false]), (98, [true, false]), (106, [true, false]), (114, [true, false]), (122, [true, false]), (130, [true, false]), (138, [true, false]), (146, [true, false]), (154, [true, false]), (162, [true, false]), (170, [true, false]), (178, [true, false]), (185, [true, false]), (193, [true, false]), (201, [true, false]), (210, [true, false]), (219, [true, false]), (227, [true, false]), (235, [true, false]), (243, [true, false]), (251, [true, false]), (260, [true, false]), (268, [true, false]), (276, [true, false]), (284, [true, false]), (292, [true, false]), (300, [true, false]), (308, [true, false]), (316, [true, false]), (325, [true, false]), (333, [true, false]), (341, [true, false]), (349, [true, false]), (357, [true, false]), (365, [true, false]), (373, [true, false]), (381, [true, false]), (389, [true, false]), (397, [true, false]), (404, [true, false]), (411, [true, false]), (419, [true, false]), (428, [true, false]), (451, [true, false]), (458, [true, false]), (467, [true, false]), (469, [true, true]), (475, [true, true]), (484, [true, true]), (487, [true, true]), (490, [false, false])] jcX11_init 5 rfl h
set_option maxRecDepth 100000 in
theorem gX11_init_210 (d : Nat) (p0 : Int) (m : jM) (Q : Int → jM → Prop)
    (h : (m (-3) 0 < m (-3) 1 ∧ jKd (m (-3) 0) = 20 ∧ jLn (m (-3) 0) = 2304) ∧ (m (-3) 0) = (p0 + 27) ∧ aX11_init_219 d p0 (jUp (jNw m) p0 43 (m (-3) 0)) Q) :
    aX11_init_210 d p0 m Q := jWp_snd [(4, [true, false]), (12, [true, false]), (20, [true, false]), (28, [true, false]), (36, [true, false]), (43, [true, false]), (50, [true, false]), (58, [true, false]), (66, [true, false]), (74, [true, false]), (82, [true, false]), (90, [true, false]), (98, [true, false]), (106, [true, false]), (114, [true, false]), (122, [true, false]), (130, [true, false]), (138, [true, false]), (146, [true, false]), (154, [true, false]), (162, [true, false]), (170, [true, false]), (178, [true, false]), (185, [true, false]), (193, [true, false]), (201, [true, false]), (210, [true, false]), (219, [true, false]), (227, [true, false]), (235, [true, false]), (243, [true, false]), (251, [true, false]), (260, [true, false]), (268, [true, false]), (276, [true, false]), (284, [true, false]), (292, [true, false]), (300, [true, false]), (308, [true, false]), (316, [true, false]), (325, [true, false]), (333, [true, false]), (341, [true, false]), (349, [true, false]), (357, [true, false]), (365, [true, false]), (373, [true, false]), (381, [true, false]), (389, [true, false]), (397, [true, false]), (404, [true, false]), (411, [true, false]), (419, [true, false]), (428, [true, false]), (451, [true, false]), (458, [true, false]), (467, [true, false]), (469, [true, true]), (475, [true, true]), (484, [true, true]), (487, [true, true]), (490, [false, false])] jcX11_init 5 rfl h
set_option maxRecDepth 100000 in
theorem gX11_init_219 (d : Nat) (p0 : Int) (m : jM) (Q : Int → jM → Prop)
    (h : (m (-3) 0 < m (-3) 1 ∧ jKd (m (-3) 0) = 20 ∧ jLn (m (-3) 0) = 8) ∧ (m (-3) 0) = (p0 + 28) ∧ aX11_init_227 d p0 (jUp (jNw m) p0 44 (m (-3) 0)) Q) :
    aX11_init_219 d p0 m Q := jWp_snd [(4, [true, false]), (12, [true, false]), (20, [true, false]), (28, [true, false]), (36, [true, false]), (43, [true, false]), (50, [true, false]), (58, [true, false]), (66, [true, false]), (74, [true, false]), (82, [true, false]), (90, [true, false]), (98, [true, false]), (106, [true, false]), (114, [true, false]), (122, [true, false]), (130, [true, false]), (138, [true, false]), (146, [true, false]), (154, [true, false]), (162, [true, false]), (170, [true, false]), (178, [true, false]), (185, [true, false]), (193, [true, false]), (201, [true, false]), (210, [true, false]), (219, [true, false]), (227, [true, false]), (235, [true, false]), (243, [true, false]), (251, [true, false]), (260, [true, false]), (268, [true, false]), (276, [true, false]), (284, [true, false]), (292, [true, false]), (300, [true, false]), (308, [true, false]), (316, [true, false]), (325, [true, false]), (333, [true, false]), (341, [true, false]), (349, [true, false]), (357, [true, false]), (365, [true, false]), (373, [true, false]), (381, [true, false]), (389, [true, false]), (397, [true, false]), (404, [true, false]), (411, [true, false]), (419, [true, false]), (428, [true, false]), (451, [true, false]), (458, [true, false]), (467, [true, false]), (469, [true, true]), (475, [true, true]), (484, [true, true]), (487, [true, true]), (490, [false, false])] jcX11_init 5 rfl h
set_option maxRecDepth 100000 in
theorem gX11_init_227 (d : Nat) (p0 : Int) (m : jM) (Q : Int → jM → Prop)
    (h : (m (-3) 0 < m (-3) 1 ∧ jKd (m (-3) 0) = 21 ∧ jLn (m (-3) 0) = 8) ∧ (m (-3) 0) = (p0 + 29) ∧ aX11_init_235 d p0 (jUp (jNw m) p0 45 (m (-3) 0)) Q) :
    aX11_init_227 d p0 m Q := jWp_snd [(4, [true, false]), (12, [true, false]), (20, [true, false]), (28, [true, false]), (36, [true, false]), (43, [true, false]), (50, [true, false]), (58, [true, false]), (66, [true, false]), (74, [true, false]), (82, [true, false]), (90, [true, false]), (98, [true, false]), (106, [true, false]), (114, [true, false]), (122, [true, false]), (130, [true, false]), (138, [true, false]), (146, [true, false]), (154, [true, false]), (162, [true, false]), (170, [true, false]), (178, [true, false]), (185, [true, false]), (193, [true, false]), (201, [true, false]), (210, [true, false]), (219, [true, false]), (227, [true, false]), (235, [true, false]), (243, [true, false]), (251, [true, false]), (260, [true, false]), (268, [true, false]), (276, [true, false]), (284, [true, false]), (292, [true, false]), (300, [true, false]), (308, [true, false]), (316, [true, false]), (325, [true, false]), (333, [true, false]), (341, [true, false]), (349, [true, false]), (357, [true, false]), (365, [true, false]), (373, [true, false]), (381, [true, false]), (389, [true, false]), (397, [true, false]), (404, [true, false]), (411, [true, false]), (419, [true, false]), (428, [true, false]), (451, [true, false]), (458, [true, false]), (467, [true, false]), (469, [true, true]), (475, [true, true]), (484, [true, true]), (487, [true, true]), (490, [false, false])] jcX11_init 5 rfl h
set_option maxRecDepth 100000 in
theorem gX11_init_235 (d : Nat) (p0 : Int) (m : jM) (Q : Int → jM → Prop)
    (h : (m (-3) 0 < m (-3) 1 ∧ jKd (m (-3) 0) = 21 ∧ jLn (m (-3) 0) = 13) ∧ (m (-3) 0) = (p0 + 30) ∧ aX11_init_243 d p0 (jUp (jNw m) p0 46 (m (-3) 0)) Q) :
    aX11_init_235 d p0 m Q := jWp_snd [(4, [true, false]), (12, [true, false]), (20, [true, false]), (28, [true, false]), (36, [true, false]), (43, [true, false]), (50, [true, false]), (58, [true, false]), (66, [true, false]), (74, [true, false]), (82, [true, false]), (90, [true, false]), (98, [true, false]), (106, [true, false]), (114, [true, false]), (122, [true, false]), (130, [true, false]), (138, [true, false]), (146, [true, false]), (154, [true, false]), (162, [true, false]), (170, [true, false]), (178, [true, false]), (185, [true, false]), (193, [true, false]), (201, [true, false]), (210, [true, false]), (219, [true, false]), (227, [true, false]), (235, [true, false]), (243, [true, false]), (251, [true, false]), (260, [true, false]), (268, [true, false]), (276, [true, false]), (284, [true, false]), (292, [true, false]), (300, [true, false]), (308, [true, false]), (316, [true, false]), (325, [true, false]), (333, [true, false]), (341, [true, false]), (349, [true, false]), (357, [true, false]), (365, [true, false]), (373, [true, false]), (381, [true, false]), (389, [true, false]), (397, [true, false]), (404, [true, false]), (411, [true, false]), (419, [true, false]), (428, [true, false]), (451, [true, false]), (458, [true, false]), (467, [true, false]), (469, [true, true]), (475, [true, true]), (484, [true, true]), (487, [true, true]), (490, [false, false])] jcX11_init 5 rfl h
set_option maxRecDepth 100000 in
theorem gX11_init_243 (d : Nat) (p0 : Int) (m : jM) (Q : Int → jM → Prop)
    (h : (m (-3) 0 < m (-3) 1 ∧ jKd (m (-3) 0) = 20 ∧ jLn (m (-3) 0) = 104) ∧ (m (-3) 0) = (p0 + 31) ∧ aX11_init_251 d p0 (jUp (jNw m) p0 47 (m (-3) 0)) Q) :
    aX11_init_243 d p0 m Q := jWp_snd [(4, [true, false]), (12, [true, false]), (20, [true, false]), (28, [true, false]), (36, [true, false]), (43, [true, false]), (50, [true, false]), (58, [true, false]), (66, [true, false]), (74, [true, false]), (82, [true, false]), (90, [true, false]), (98, [true, false]), (106, [true, false]), (114, [true, false]), (122, [true, false]), (130, [true, false]), (138, [true, false]), (146, [true, false]), (154, [true, false]), (162, [true, false]), (170, [true, false]), (178, [true, false]), (185, [true, false]), (193, [true, false]), (201, [true, false]), (210, [true, false]), (219, [true, false]), (227, [true, false]), (235, [true, false]), (243, [true, false]), (251, [true, false]), (260, [true, false]), (268, [true, false]), (276, [true, false]), (284, [true, false]), (292, [true, false]), (300, [true, false]), (308, [true, false]), (316, [true, false]), (325, [true, false]), (333, [true, false]), (341, [true, false]), (349, [true, false]), (357, [true, false]), (365, [true, false]), (373, [true, false]), (381, [true, false]), (389, [true, false]), (397, [true, false]), (404, [true, false]), (411, [true, false]), (419, [true, false]), (428, [true, false]), (451, [true, false]), (458, [true, false]), (467, [true, false]), (469, [true, true]), (475, [true, true]), (484, [true, true]), (487, [true, true]), (490, [false, false])] jcX11_init 5 rfl h
set_option maxRecDepth 100000 in
theorem gX11_init_251 (d : Nat) (p0 : Int) (m : jM) (Q : Int → jM → Prop)
    (h : (m (-3) 0 < m (-3) 1 ∧ jKd (m (-3) 0) = 21 ∧ jLn (m (-3) 0) = 2304) ∧ (m (-3) 0) = (p0 + 32) ∧ aX11_init_260 d p0 (jUp (jNw m) p0 49 (m (-3) 0)) Q) :
    aX11_init_251 d p0 m Q := jWp_snd [(4, [true, false]), (12, [true, false]), (20, [true, false]), (28, [true, false]), (36, [true, false]), (43, [true, false]), (50, [true, false]), (58, [true, false]), (66, [true, false]), (74, [true, false]), (82, [true, false]), (90, [true, false]), (98, [true, false]), (106, [true, false]), (114, [true, false]), (122, [true, false]), (130, [true, false]), (138, [true, false]), (146, [true, false]), (154, [true, false]), (162, [true, false]), (170, [true, false]), (178, [true, false]), (185, [true, false]), (193, [true, false]), (201, [true, false]), (210, [true, false]), (219, [true, false]), (227, [true, false]), (235, [true, false]), (243, [true, false]), (251, [true, false]), (260, [true, false]), (268, [true, false]), (276, [true, false]), (284, [true, false]), (292, [true, false]), (300, [true, false]), (308, [true, false]), (316, [true, false]), (325, [true, false]), (333, [true, false]), (341, [true, false]), (349, [true, false]), (357, [true, false]), (365, [true, false]), (373, [true, false]), (381, [true, false]), (389, [true, false]), (397, [true, false]), (404, [true, false]), (411, [true, false]), (419, [true, false]), (428, [true, false]), (451, [true, false]), (458, [true, false]), (467, [true, false]), (469, [true, true]), (475, [true, true]), (484, [true, true]), (487, [true, true]), (490, [false, false])] jcX11_init 5 rfl h
set_option maxRecDepth 100000 in
theorem gX11_init_260 (d : Nat) (p0 : Int) (m : jM) (Q : Int → jM → Prop)
    (h : (m (-3) 0 < m (-3) 1 ∧ jKd (m (-3) 0) = 21 ∧ jLn (m (-3) 0) = 8) ∧ (m (-3) 0) = (p0 + 33) ∧ aX11_init_268 d p0 (jUp (jNw m) p0 51 (m (-3) 0)) Q) :
    aX11_init_260 d p0 m Q := jWp_snd [(4, [true, false]), (12, [true, false]), (20, [true, false]), (28, [true, false]), (36, [true, false]), (43, [true, false]), (50, [true, false]), (58, [true, false]), (66, [true, false]), (74, [true, false]), (82, [true, false]), (90, [true, false]), (98, [true, false]), (106, [true, false]), (114, [true, false]), (122, [true, false]), (130, [true, false]), (138, [true, false]), (146, [true, false]), (154, [true, false]), (162, [true, false]), (170, [true, false]), (178, [true, false]), (185, [true, false]), (193, [true, false]), (201, [true, false]), (210, [true, false]), (219, [true, false]), (227, [true, false]), (235, [true, false]), (243, [true, false]), (251, [true, false]), (260, [true, false]), (268, [true, false]), (276, [true, false]), (284, [true, false]), (292, [true, false]), (300, [true, false]), (308, [true, false]), (316, [true, false]), (325, [true, false]), (333, [true, false]), (341, [true, false]), (349, [true, false]), (357, [true, false]), (365, [true, false]), (373, [true, false]), (381, [true, false]), (389, [true, false]), (397, [true, false]), (404, [true, false]), (411, [true, false]), (419, [true, false]), (428, [true, false]), (451, [true, false]), (458, [true, false]), (467, [true, false]), (469, [true, true]), (475, [true, true]), (484, [true, true]), (487, [true, true]), (490, [false, false])] jcX11_init 5 rfl h
set_option maxRecDepth 100000 in
theorem gX11_init_268 (d : Nat) (p0 : Int) (m : jM) (Q : Int → jM → Prop)
    (h : (m (-3) 0 < m (-3) 1 ∧ jKd (m (-3) 0) = 21 ∧ jLn (m (-3) 0) = 8) ∧ (m (-3) 0) = (p0 + 34) ∧ aX11_init_276 d p0 (jUp (jNw m) p0 52 (m (-3) 0)) Q) :
    aX11_init_268 d p0 m Q := jWp_snd [(4, [true, false]), (12, [true, false]), (20, [true, false]), (28, [true, false]), (36, [true, false]), (43, [true, false]), (50, [true, false]), (58, [true, false]), (66, [true, false]), (74, [true, false]), (82, [true, false]), (90, [true, false]), (98, [true, false]), (106, [true, false]), (114, [true, false]), (122, [true, false]), (130, [true, false]), (138, [true, false]), (146, [true, false]), (154, [true, false]), (162, [true, false]), (170, [true, false]), (178, [true, false]), (185, [true, false]), (193, [true, false]), (201, [true, false]), (210, [true, false]), (219, [true, false]), (227, [true, false]), (235, [true, false]), (243, [true, false]), (251, [true, false]), (260, [true, false]), (268, [true, false]), (276, [true, false]), (284, [true, false]), (292, [true, false]), (300, [true, false]), (308, [true, false]), (316, [true, false]), (325, [true, false]), (333, [true, false]), (341, [true, false]), (349, [true, false]), (357, [true, false]), (365, [true, false]), (373, [true, false]), (381, [true, false]), (389, [true, false]), (397, [true, false]), (404, [true, false]), (411, [true, false]), (419, [true, false]), (428, [true, false]), (451, [true, false]), (458, [true, false]), (467, [true, false]), (469, [true, true]), (475, [true, true]), (484, [true, true]), (487, [true, true]), (490, [false, false])] jcX11_init 5 rfl h
set_option maxRecDepth 100000 in
theorem gX11_init_276 (d : Nat) (p0 : Int) (m : jM) (Q : Int → jM → Prop)
    (h : (m (-3) 0 < m (-3) 1 ∧ jKd (m (-3) 0) = 20 ∧ jLn (m (-3) 0) = 120) ∧ (m (-3) 0) = (p0 + 35) ∧ aX11_init_284 d p0 (jUp (jNw m) p0 53 (m (-3) 0)) Q) :
    aX11_init_276 d p0 m Q := jWp_snd [(4, [true, false]), (12, [true, false]), (20, [true, false]), (28, [true, false]), (36, [true, false]), (43, [true, false]), (50, [true, false]), (58, [true, false]), (66, [true, false]), (74, [true, false]), (82, [true, false]), (90, [true, false]), (98, [true, false]), (106, [true, false]), (114, [true, false]), (122, [true, false]), (130, [true, false]), (138, [true, false]), (146, [true, false]), (154, [true, false]), (162, [true, false]), (170, [true, false]), (178, [true, false]), (185, [true, false]), (193, [true, false]), (201, [true, false]), (210, [true, false]), (219, [true, false]), (227, [true, false]), (235, [true, false]), (243, [true, false]), (251, [true, false]), (260, [true, false]), (268, [true, false]), (276, [true, false]), (284, [true, false]), (292, [true, false]), (300, [true, false]), (308, [true, false]), (316, [true, false]), (325, [true, false]), (333, [true, false]), (341, [true, false]), (349, [true, false]), (357, [true, false]), (365, [true, false]), (373, [true, false]), (381, [true, false]), (389, [true, false]), (397, [true, false]), (404, [true, false]), (411, [true, false]), (419, [true, false]), (428, [true, false]), (451, [true, false]), (458, [true, false]), (467, [true, false]), (469, [true, true]), (475, [true, true]), (484, [true, true]), (487, [true, true]), (490, [false, false])] jcX11_init 5 rfl h
set_option maxRecDepth 100000 in
theorem gX11_init_284 (d : Nat) (p0 : Int) (m : jM) (Q : Int → jM → Prop)
    (h : (m (-3) 0 < m (-3) 1 ∧ jKd (m (-3) 0) = 20 ∧ jLn (m (-3) 0) = 120) ∧ (m (-3) 0) = (p0 + 36) ∧ aX11_init_292 d p0 (jUp (jNw m) p0 54 (m (-3) 0)) Q) :
    aX11_init_284 d p0 m Q := jWp_snd [(4, [true, false]), (12, [true, false]), (20, [true, false]), (28, [true, false]), (36, [true, false]), (43, [true, false]), (50, [true, false]), (58, [true, false]), (66, [true, false]), (74, [true, false]), (82, [true, false]), (90, [true, false]), (98, [true, false]), (106, [true, false]), (114, [true, false]), (122, [true, false]), (130, [true, false]), (138, [true, false]), (146, [true, false]), (154, [true, false]), (162, [true, false]), (170, [true, false]), (178, [true, false]), (185, [true, false]), (193, [true, false]), (201, [true, false]), (210, [true, false]), (219, [true, false]), (227, [true, false]), (235, [true, false]), (243, [true, false]), (251, [true, false]), (260, [true, false]), (268, [true, false]), (276, [true, false]), (284, [true, false]), (292, [true, false]), (300, [true, false]), (308, [true, false]), (316, [true, false]), (325, [true, false]), (333, [true, false]), (341, [true, false]), (349, [true, false]), (357, [true, false]), (365, [true, false]), (373, [true, false]), (381, [true, false]), (389, [true, false]), (397, [true, false]), (404, [true, false]), (411, [true, false]), (419, [true, false]), (428, [true, false]), (451, [true, false]), (458, [true, false]), (467, [true, false]), (469, [true, true]), (475, [true, true]), (484, [true, true]), (487, [true, true]), (490, [false, false])] jcX11_init 5 rfl h
set_option maxRecDepth 100000 in
theorem gX11_init_292 (d : Nat) (p0 : Int) (m : jM) (Q : Int → jM → Prop)
    (h : (m (-3) 0 < m (-3) 1 ∧ jKd (m (-3) 0) = 20 ∧ jLn (m (-3) 0) = 120) ∧ (m (-3) 0) = (p0 + 37) ∧ aX11_init_300 d p0 (jUp (jNw m) p0 55 (m (-3) 0)) Q) :
    aX11_init_292 d p0 m Q := jWp_snd [(4, [true, false]), (12, [true, false]), (20, [true, false]), (28, [true, false]), (36, [true, false]), (43, [true, false]), (50, [true, false]), (58, [true, false]), (66, [true, false]), (74, [true, false]), (82, [true, false]), (90, [true, false]), (98, [true, false]), (106, [true, false]), (114, [true, false]), (122, [true, false]), (130, [true, false]), (138, [true, false]), (146, [true, false]), (154, [true, false]), (162, [true, false]), (170, [true, false]), (178, [true, false]), (185, [true, false]), (193, [true, false]), (201, [true, false]), (210, [true, false]), (219, [true, false]), (227, [true, false]), (235, [true, false]), (243, [true, false]), (251, [true, false]), (260, [true, false]), (268, [true, false]), (276, [true, false]), (284, [true, false]), (292, [true, false]), (300, [true, false]), (308, [true, false]), (316, [true, false]), (325, [true, false]), (333, [true, false]), (341, [true, false]), (349, [true, false]), (357, [true, false]), (365, [true, false]), (373, [true, false]), (381, [true, false]), (389, [true, false]), (397, [true, false]), (404, [true, false]), (411, [true, false]), (419, [true, false]), (428, [true, false]), (451, [true, false]), (458, [true, false]), (467, [true, false]), (469, [true, true]), (475, [true, true]), (484, [true, true]), (487, [true, true]), (490, [false, false])] jcX11_init 5 rfl h
set_option maxRecDepth 100000 in
theorem gX11_init_300 (d : Nat) (p0 : Int) (m : jM) (Q : Int → jM → Prop)
    (h : (m (-3) 0 < m (-3) 1 ∧ jKd (m (-3) 0) = 20 ∧ jLn (m (-3) 0) = 120) ∧ (m (-3) 0) = (p0 + 38) ∧ aX11_init_308 d p0 (jUp (jNw m) p0 56 (m (-3) 0)) Q) :
    aX11_init_300 d p0 m Q := jWp_snd [(4, [true, false]), (12, [true, false]), (20, [true, false]), (28, [true, false]), (36, [true, false]), (43, [true, false]), (50, [true, false]), (58, [true, false]), (66, [true, false]), (74, [true, false]), (82, [true, false]), (90, [true, false]), (98, [true, false]), (106, [true, false]), (114, [true, false]), (122, [true, false]), (130, [true, false]), (138, [true, false]), (146, [true, false]), (154, [true, false]), (162, [true, false]), (170, [true, false]), (178, [true, false]), (185, [true, false]), (193, [true, false]), (201, [true, false]), (210, [true, false]), (219, [true, false]), (227, [true, false]), (235, [true, false]), (243, [true, false]), (251, [true, false]), (260, [true, false]), (268, [true, false]), (276, [true, false]), (284, [true, false]), (292, [true, false]), (300, [true, false]), (308, [true, false]), (316, [true, false]), (325, [true, false]), (333, [true, false]), (341, [true, false]), (349, [true, false]), (357, [true, false]), (365, [true, false]), (373, [true, false]), (381, [true, false]), (389, [true, false]), (397, [true, false]), (404, [true, false]), (411, [true, false]), (419, [true, false]), (428, [true, false]), (451, [true, false]), (458, [true, false]), (467, [true, false]), (469, [true, true]), (475, [true, true]), (484, [true, true]), (487, [true, true]), (490, [false, false])] jcX11_init 5 rfl h
set_option maxRecDepth 100000 in
theorem gX11_init_308 (d : Nat) (p0 : Int) (m : jM) (Q : Int → jM → Prop)
    (h : (m (-3) 0 < m (-3) 1 ∧ jKd (m (-3) 0) = 21 ∧ jLn (m (-3) 0) = 120) ∧ (m (-3) 0) = (p0 + 39) ∧ aX11_init_316 d p0 (jUp (jNw m) p0 57 (m (-3) 0)) Q) :
    aX11_init_308 d p0 m Q := jWp_snd [(4, [true, false]), (12, [true, false]), (20, [true, false]), (28, [true, false]), (36, [true, false]), (43, [true, false]), (50, [true, false]), (58, [true, false]), (66, [true, false]), (74, [true, false]), (82, [true, false]), (90, [true, false]), (98, [true, false]), (106, [true, false]), (114, [true, false]), (122, [true, false]), (130, [true, false]), (138, [true, false]), (146, [true, false]), (154, [true, false]), (162, [true, false]), (170, [true, false]), (178, [true, false]), (185, [true, false]), (193, [true, false]), (201, [true, false]), (210, [true, false]), (219, [true, false]), (227, [true, false]), (235, [true, false]), (243, [true, false]), (251, [true, false]), (260, [true, false]), (268, [true, false]), (276, [true, false]), (284, [true, false]), (292, [true, false]), (300, [true, false]), (308, [true, false]), (316, [true, false]), (325, [true, false]), (333, [true, false]), (341, [true, false]), (349, [true, false]), (357, [true, false]), (365, [true, false]), (373, [true, false]), (381, [true, false]), (389, [true, false]), (397, [true, false]), (404, [true, false]), (411, [true, false]), (419, [true, false]), (428, [true, false]), (451, [true, false]), (458, [true, false]), (467, [true, false]), (469, [true, true]), (475, [true, true]), (484, [true, true]), (487, [true, true]), (490, [false, false])] jcX11_init 5 rfl h
set_option maxRecDepth 100000 in
theorem gX11_init_316 (d : Nat) (p0 : Int) (m : jM) (Q : Int → jM → Prop)
    (h : (m (-3) 0 < m (-3) 1 ∧ jKd (m (-3) 0) = 21 ∧ jLn (m (-3) 0) = 1920) ∧ (m (-3) 0) = (p0 + 40) ∧ aX11_init_325 d p0 (jUp (jNw m) p0 58 (m (-3) 0)) Q) :
    aX11_init_316 d p0 m Q := jWp_snd [(4, [true, false]), (12, [true, false]), (20, [true, false]), (28, [true, false]), (36, [true, false]), (43, [true, false]), (50, [true, false]), (58, [true, false]), (66, [true, false]), (74, [true, false]), (82, [true, false]), (90, [true, false]), (98, [true, false]), (106, [true, false]), (114, [true, false]), (122, [true, false]), (130, [true, false]), (138, [true, false]), (146, [true, false]), (154, [true, false]), (162, [true, false]), (170, [true, false]), (178, [true, false]), (185, [true, false]), (193, [true, false]), (201, [true, false]), (210, [true, false]), (219, [true, false]), (227, [true, false]), (235, [true, false]), (243, [true, false]), (251, [true, false]), (260, [true, false]), (268, [true, false]), (276, [true, false]), (284, [true, false]), (292, [true, false]), (300, [true, false]), (308, [true, false]), (316, [true, false]), (325, [true, false]), (333, [true, false]), (341, [true, false]), (349, [true, false]), (357, [true, false]), (365, [true, false]), (373, [true, false]), (381, [true, false]), (389, [true, false]), (397, [true, false]), (404, [true, false]), (411, [true, false]), (419, [true, false]), (428, [true, false]), (451, [true, false]), (458, [true, false]), (467, [true, false]), (469, [true, true]), (475, [true, true]), (484, [true, true]), (487, [true, true]), (490, [false, false])] jcX11_init 5 rfl h
set_option maxRecDepth 100000 in
theorem gX11_init_325 (d : Nat) (p0 : Int) (m : jM) (Q : Int → jM → Prop)
    (h : (m (-3) 0 < m (-3) 1 ∧ jKd (m (-3) 0) = 20 ∧ jLn (m (-3) 0) = 8) ∧ (m (-3) 0) = (p0 + 41) ∧ aX11_init_333 d p0 (jUp (jNw m) p0 59 (m (-3) 0)) Q) :
    aX11_init_325 d p0 m Q := jWp_snd [(4, [true, false]), (12, [true, false]), (20, [true, false]), (28, [true, false]), (36, [true, false]), (43, [true, false]), (50, [true, false]), (58, [true, false]), (66, [true, false]), (74, [true, false]), (82, [true, false]), (90, [true, false]), (98, [true, false]), (106, [true, false]), (114, [true, false]), (122, [true, false]), (130, [true, false]), (138, [true, false]), (146, [true, false]), (154, [true, false]), (162, [true, false]), (170, [true, false]), (178, [true, false]), (185, [true, false]), (193, [true, false]), (201, [true, false]), (210, [true, false]), (219, [true, false]), (227, [true, false]), (235, [true, false]), (243, [true, false]), (251, [true, false]), (260, [true, false]), (268, [true, false]), (276, [true, false]), (284, [true, false]), (292, [true, false]), (300, [true, false]), (308, [true, false]), (316, [true, false]), (325, [true, false]), (333, [true, false]), (341, [true, false]), (349, [true, false]), (357, [true, false]), (365, [true, false]), (373, [true, false]), (381, [true, false]), (389, [true, false]), (397, [true, false]), (404, [true, false]), (411, [true, false]), (419, [true, false]), (428, [true, false]), (451, [true, false]), (458, [true, false]), (467, [true, false]), (469, [true, true]), (475, [true, true]), (484, [true, true]), (487, [true, true]), (490, [false, false])] jcX11_init 5 rfl h
set_option maxRecDepth 100000 in
theorem gX11_init_333 (d : Nat) (p0 : Int) (m : jM) (Q : Int → jM → Prop)
    (h : (m (-3) 0 < m (-3) 1 ∧ jKd (m (-3) 0) = 20 ∧ jLn (m (-3) 0) = 8) ∧ (m (-3) 0) = (p0 + 42) ∧ aX11_init_341 d p0 (jUp (jNw m) p0 60 (m (-3) 0)) Q) :
    aX11_init_333 d p0 m Q := jWp_snd [(4, [true, false]), (12, [true, false]), (20, [true, false]), (28, [true, false]), (36, [true, false]), (43, [true, false]), (50, [true, false]), (58, [true, false]), (66, [true, false]), (74, [true, false]), (82, [true, false]), (90, [true, false]), (98, [true, false]), (106, [true, false]), (114, [true, false]), (122, [true, false]), (130, [true, false]), (138, [true, false]), (146, [true, false]), (154, [true, false]), (162, [true, false]), (170, [true, false]), (178, [true, false]), (185, [true, false]), (193, [true, false]), (201, [true, false]), (210, [true, false]), (219, [true, false]), (227, [true, false]), (235, [true, false]), (243, [true, false]), (251, [true, false]), (260, [true, false]), (268, [true, false]), (276, [true, false]), (284, [true, false]), (292, [true, false]), (300, [true, false]), (308, [true, false]), (316, [true, false]), (325, [true, false]), (333, [true, false]), (341, [true, false]), (349, [true, false]), (357, [true, false]), (365, [true, false]), (373, [true, false]), (381, [true, false]), (389, [true, false]), (397, [true, false]), (404, [true, false]), (411, [true, false]), (419, [true, false]), (428, [true, false]), (451, [true, false]), (458, [true, false]), (467, [true, false]), (469, [true, true]), (475, [true, true]), (484, [true, true]), (487, [true, true]), (490, [false, false])] jcX11_init 5 rfl h
set_option maxRecDepth 100000 in
theorem gX11_init_341 (d : Nat) (p0 : Int) (m : jM) (Q : Int → jM → Prop)
    (h : (m (-3) 0 < m (-3) 1 ∧ jKd (m (-3) 0) = 20 ∧ jLn (m (-3) 0) = 120) ∧ (m (-3) 0) = (p0 + 43) ∧ aX11_init_349 d p0 (jUp (jNw m) p0 65 (m (-3) 0)) Q) :
    aX11_init_341 d p0 m Q := jWp_snd [(4, [true, false]), (12, [true, false]), (20, [true, false]), (28, [true, false]), (36, [true, false]), (43, [true, false]), (50, [true, false]), (58, [true, false]), (66, [true, false]), (74, [true, false]), (82, [true, false]), (90, [true, false]), (98, [true, false]), (106, [true, false]), (114, [true, false]), (122, [true, false]), (130, [true, false]), (138, [true, false]), (146, [true, false]), (154, [true, false]), (162, [true, false]), (170, [true, false]), (178, [true, false]), (185, [true, false]), (193, [true, false]), (201, [true, false]), (210, [true, false]), (219, [true, false]), (227, [true, false]), (235, [true, false]), (243, [true, false]), (251, [true, false]), (260, [true, false]), (268, [true, false]), (276, [true, false]), (284, [true, false]), (292, [true, false]), (300, [true, false]), (308, [true, false]), (316, [true, false]), (325, [true, false]), (333, [true, false]), (341, [true, false]), (349, [true, false]), (357, [true, false]), (365, [true, false]), (373, [true, false]), (381, [true, false]), (389, [true, false]), (397, [true, false]), (404, [true, false]), (411, [true, false]), (419, [true, false]), (428, [true, false]), (451, [true, false]), (458, [true, false]), (467, [true, false]), (469, [true, true]), (475, [true, true]), (484, [true, true]), (487, [true, true]), (490, [false, false])] jcX11_init 5 rfl h
set_option maxRecDepth 100000 in
theorem gX11_init_349 (d : Nat) (p0 : Int) (m : jM) (Q : Int → jM → Prop)
    (h : (m (-3) 0 < m (-3) 1 ∧ jKd (m (-3) 0) = 20 ∧ jLn (m (-3) 0) = 64) ∧ (m (-3) 0) = (p0 + 44) ∧ aX11_init_357 d p0 (jUp (jNw m) p0 66 (m (-3) 0)) Q) :
    aX11_init_349 d p0 m Q := jWp_snd [(4, [true, false]), (12, [true, false]), (20, [true, false]), (28, [true, false]), (36, [true, false]), (43, [true, false]), (50, [true, false]), (58, [true, false]), (66, [true, false]), (74, [true, false]), (82, [true, false]), (90, [true, false]), (98, [true, false]), (106, [true, false]), (114, [true, false]), (122, [true, false]), (130, [true, false]), (138, [true, false]), (146, [true, false]), (154, [true, false]), (162, [true, false]), (170, [true, false]), (178, [true, false]), (185, [true, false]), (193, [true, false]), (201, [true, false]), (210, [true, false]), (219, [true, false]), (227, [true, false]), (235, [true, false]), (243, [true, false]), (251, [true, false]), (260, [true, false]), (268, [true, false]), (276, [true, false]), (284, [true, false]), (292, [true, false]), (300, [true, false]), (308, [true, false]), (316, [true, false]), (325, [true, false]), (333, [true, false]), (341, [true, false]), (349, [true, false]), (357, [true, false]), (365, [true, false]), (373, [true, false]), (381, [true, false]), (389, [true, false]), (397, [true, false]), (404, [true, false]), (411, [true, false]), (419, [true, false]), (428, [true, false]), (451, [true, false]), (458, [true, false]), (467, [true, false]), (469, [true, true]), (475, [true, true]), (484, [true, true]), (487, [true, true]), (490, [false, false])] jcX11_init 5 rfl h
set_option maxRecDepth 100000 in
theorem gX11_init_357 (d : Nat) (p0 : Int) (m : jM) (Q : Int → jM → Prop)
    (h : (m (-3) 0 < m (-3) 1 ∧ jKd (m (-3) 0) = 20 ∧ jLn (m (-3) 0) = 8) ∧ (m (-3) 0) = (p0 + 45) ∧ aX11_init_365 d p0 (jUp (jNw m) p0 67 (m (-3) 0)) Q) :
    aX11_init_357 d p0 m Q := jWp_snd [(4, [true, false]), (12, [true, false]), (20, [true, false]), (28, [true, false]), (36, [true, false]), (43, [true, false]), (50, [true, false]), (58, [true, false]), (66, [true, false]), (74, [true, false]), (82, [true, false]), (90, [true, false]), (98, [true, false]), (106, [true, false]), (114, [true, false]), (122, [true, false]), (130, [true, false]), (138, [true, false]), (146, [true, false]), (154, [true, false]), (162, [true, false]), (170, [true, false]), (178, [true, false]), (185, [true, false]), (193, [true, false]), (201, [true, false]), (210, [true, false]), (219, [true, false]), (227, [true, false]), (235, [true, false]), (243, [true, false]), (251, [true, false]), (260, [true, false]), (268, [true, false]), (276, [true, false]), (284, [true, false]), (292, [true, false]), (300, [true, false]), (308, [true, false]), (316, [true, false]), (325, [true, false]), (333, [true, false]), (341, [true, false]), (349, [true, false]), (357, [true, false]), (365, [true, false]), (373, [true, false]), (381, [true, false]), (389, [true, false]), (397, [true, false]), (404, [true, false]), (411, [true, false]), (419, [true, false]), (428, [true, false]), (451, [true, false]), (458, [true, false]), (467, [true, false]), (469, [true, true]), (475, [true, true]), (484, [true, true]), (487, [true, true]), (490, [false, false])] jcX11_init 5 rfl h
set_option maxRecDepth 100000 in
theorem gX11_init_365 (d : Nat) (p0 : Int) (m : jM) (Q : Int → jM → Prop)
    (h : (m (-3) 0 < m (-3) 1 ∧ jKd (m (-3) 0) = 20 ∧ jLn (m (-3) 0) = 16) ∧ (m (-3) 0) = (p0 + 46) ∧ aX11_init_373 d p0 (jUp (jNw m) p0 69 (m (-3) 0)) Q) :
    aX11_init_365 d p0 m Q := jWp_snd [(4, [true, false]), (12, [true, false]), (20, [true, false]), (28, [true, false]), (36, [true, false]), (43, [true, false]), (50, [true, false]), (58, [true, false]), (66, [true, false]), (74, [true, false]), (82, [true, false]), (90, [true, false]), (98, [true, false]), (106, [true, false]), (114, [true, false]), (122, [true, false]), (130, [true, false]), (138, [true, false]), (146, [true, false]), (154, [true, false]), (162, [true, false]), (170, [true, false]), (178, [true, false]), (185, [true, false]), (193, [true, false]), (201, [true, false]), (210, [true, false]), (219, [true, false]), (227, [true, false]), (235, [true, false]), (243, [true, false]), (251, [true, false]), (260, [true, false]), (268, [true, false]), (276, [true, false]), (284, [true, false]), (292, [true, false]), (300, [true, false]), (308, [true, false]), (316, [true, false]), (325, [true, false]), (333, [true, false]), (341, [true, false]), (349, [true, false]), (357, [true, false]), (365, [true, false]), (373, [true, false]), (381, [true, false]), (389, [true, false]), (397, [true, false]), (404, [true, false]), (411, [true, false]), (419, [true, false]), (428, [true, false]), (451, [true, false]), (458, [true, false]), (467, [true, false]), (469, [true, true]), (475, [true, true]), (484, [true, true]), (487, [true, true]), (490, [false, false])] jcX11_init 5 rfl h
set_option maxRecDepth 100000 in
theorem gX11_init_373 (d : Nat) (p0 : Int) (m : jM) (Q : Int → jM → Prop)
    (h : (m (-3) 0 < m (-3) 1 ∧ jKd (m (-3) 0) = 20 ∧ jLn (m (-3) 0) = 48) ∧ (m (-3) 0) = (p0 + 47) ∧ aX11_init_381 d p0 (jUp (jNw m) p0 70 (m (-3) 0)) Q) :
    aX11_init_373 d p0 m Q := jWp_snd [(4, [true, false]), (12, [true, false]), (20, [true, false]), (28, [true, false]), (36, [true, false]), (43, [true, false]), (50, [true, false]), (58, [true, false]), (66, [true, false]), (74, [true, false]), (82, [true, false]), (90, [true, false]), (98, [true, false]), (106, [true, false]), (114, [true, false]), (122, [true, false]), (130, [true, false]), (138, [true, false]), (146, [true, false]), (154, [true, false]), (162, [true, false]), (170, [true, false]), (178, [true, false]), (185, [true, false]), (193, [true, false]), (201, [true, false]), (210, [true, false]), (219, [true, false]), (227, [true, false]), (235, [true, false]), (243, [true, false]), (251, [true, false]), (260, [true, false]), (268, [true, false]), (276, [true, false]), (284, [true, false]), (292, [true, false]), (300, [true, false]), (308, [true, false]), (316, [true, false]), (325, [true, false]), (333, [true, false]), (341, [true, false]), (349, [true, false]), (357, [true, false]), (365, [true, false]), (373, [true, false]), (381, [true, false]), (389, [true, false]), (397, [true, false]), (404, [true, false]), (411, [true, false]), (419, [true, false]), (428, [true, false]), (451, [true, false]), (458, [true, false]), (467, [true, false]), (469, [true, true]), (475, [true, true]), (484, [true, true]), (487, [true, true]), (490, [false, false])] jcX11_init 5 rfl h
set_option maxRecDepth 100000 in
theorem gX11_init_381 (d : Nat) (p0 : Int) (m : jM) (Q : Int → jM → Prop)
    (h : (m (-3) 0 < m (-3) 1 ∧ jKd (m (-3) 0) = 21 ∧ jLn (m (-3) 0) = 64) ∧ (m (-3) 0) = (p0 + 48) ∧ aX11_init_389 d p0 (jUp (jNw m) p0 71 (m (-3) 0)) Q) :
    aX11_init_381 d p0 m Q := jWp_snd [(4, [true, false]), (12, [true, false]), (20, [true, false]), (28, [true, false]), (36, [true, false]), (43, [true, false]), (50, [true, false]), (58, [true, false]), (66, [true, false]), (74, [true, false]), (82, [true, false]), (90, [true, false]), (98, [true, false]), (106, [true, false]), (114, [true, false]), (122, [true, false]), (130, [true, false]), (138, [true, false]), (146, [true, false]), (154, [true, false]), (162, [true, false]), (170, [true, false]), (178, [true, false]), (185, [true, false]), (193, [true, false]), (201, [true, false]), (210, [true, false]), (219, [true, false]), (227, [true, false]), (235, [true, false]), (243, [true, false]), (251, [true, false]), (260, [true, false]), (268, [true, false]), (276, [true, false]), (284, [true, false]), (292, [true, false]), (300, [true, false]), (308, [true, false]), (316, [true, false]), (325, [true, false]), (333, [true, false]), (341, [true, false]), (349, [true, false]), (357, [true, false]), (365, [true, false]), (373, [true, false]), (381, [true, false]), (389, [true, false]), (397, [true, false]), (404, [true, false]), (411, [true, false]), (419, [true, false]), (428, [true, false]), (451, [true, false]), (458, [true, false]), (467, [true, false]), (469, [true, true]), (475, [true, true]), (484, [true, true]), (487, [true, true]), (490, [false, false])] jcX11_init 5 rfl h
set_option maxRecDepth 100000 in
theorem gX11_init_389 (d : Nat) (p0 : Int) (m : jM) (Q : Int → jM → Prop)
    (h : (m (-3) 0 < m (-3) 1 ∧ jKd (m (-3) 0) = 20 ∧ jLn (m (-3) 0) = 64) ∧ (m (-3) 0) = (p0 + 49) ∧ aX11_init_397 d p0 (jUp (jNw m) p0 72 (m (-3) 0)) Q) :
    aX11_init_389 d p0 m Q := jWp_snd [(4, [true, false]), (12, [true, false]), (20, [true, false]), (28, [true, false]), (36, [true, false]), (43, [true, false]), (50, [true, false]), (58, [true, false]), (66, [true, false]), (74, [true, false]), (82, [true, false]), (90, [true, false]), (98, [true, false]), (106, [true, false]), (114, [true, false]), (122, [true, false]), (130, [true, false]), (138, [true, false]), (146, [true, false]), (154, [true, false]), (162, [true, false]), (170, [true, false]), (178, [true, false]), (185, [true, false]), (193, [true, false]), (201, [true, false]), (210, [true, false]), (219, [true, false]), (227, [true, false]), (235, [true, false]), (243, [true, false]), (251, [true, false]), (260, [true, false]), (268, [true, false]), (276, [true, false]), (284, [true, false]), (292, [true, false]), (300, [true, false]), (308, [true, false]), (316, [true, false]), (325, [true, false]), (333, [true, false]), (341, [true, false]), (349, [true, false]), (357, [true, false]), (365, [true, false]), (373, [true, false]), (381, [true, false]), (389, [true, false]), (397, [true, false]), (404, [true, false]), (411, [true, false]), (419, [true, false]), (428, [true, false]), (451, [true, false]), (458, [true, false]), (467, [true, false]), (469, [true, true]), (475, [true, true]), (484, [true, true]), (487, [true, true]), (490, [false, false])] jcX11_init 5 rfl h
set_option maxRecDepth 100000 in
theorem gX11_init_397 (d : Nat) (p0 : Int) (m : jM) (Q : Int → jM → Prop)
    (h : (m (-3) 0 < m (-3) 1 ∧ jKd (m (-3) 0) = 20 ∧ jLn (m (-3) 0) = 4) ∧ (m (-3) 0) = (p0 + 50) ∧ aX11_init_404 d p0 (jUp (jNw m) p0 73 (m (-3) 0)) Q) :
    aX11_init_397 d p0 m Q := jWp_snd [(4, [true, false]), (12, [true, false]), (20, [true, false]), (28, [true, false]), (36, [true, false]), (43, [true, false]), (50, [true, false]), (58, [true, false]), (66, [true, false]), (74, [true, false]), (82, [true, false]), (90, [true, false]), (98, [true, false]), (106, [true, false]), (114, [true, false]), (122, [true, false]), (130, [true, false]), (138, [true, false]), (146, [true, false]), (154, [true, false]), (162, [true, false]), (170, [true, false]), (178, [true, false]), (185, [true, false]), (193, [true, false]), (201, [true, false]), (210, [true, false]), (219, [true, false]), (227, [true, false]), (235, [true, false]), (243, [true, false]), (251, [true, false]), (260, [true, false]), (268, [true, false]), (276, [true, false]), (284, [true, false]), (292, [true, false]), (300, [true, false]), (308, [true, false]), (316, [true, false]), (325, [true, false]), (333, [true, false]), (341, [true, false]), (349, [true, false]), (357, [true, false]), (365, [true, false]), (373, [true, false]), (381, [true, false]), (389, [true, false]), (397, [true, false]), (404, [true, false]), (411, [true, false]), (419, [true, false]), (428, [true, false]), (451, [true, false]), (458, [true, false]), (467, [true, false]), (469, [true, true]), (475, [true, true]), (484, [true, true]), (487, [true, true]), (490, [false, false])] jcX11_init 5 rfl h
set_option maxRecDepth 100000 in
theorem gX11_init_404 (d : Nat) (p0 : Int) (m : jM) (Q : Int → jM → Prop)
    (h : (m (-3) 0 < m (-3) 1 ∧ jKd (m (-3) 0) = 20 ∧ jLn (m (-3) 0) = 4) ∧ (m (-3) 0) = (p0 + 51) ∧ aX11_init_411 d p0 (jUp (jNw m) p0 74 (m (-3) 0)) Q) :
    aX11_init_404 d p0 m Q := jWp_snd [(4, [true, false]), (12, [true, false]), (20, [true, false]), (28, [true, false]), (36, [true, false]), (43, [true, false]), (50, [true, false]), (58, [true, false]), (66, [true, false]), (74, [true, false]), (82, [true, false]), (90, [true, false]), (98, [true, false]), (106, [true, false]), (114, [true, false]), (122, [true, false]), (130, [true, false]), (138, [true, false]), (146, [true, false]), (154, [true, false]), (162, [true, false]), (170, [true, false]), (178, [true, false]), (185, [true, false]), (193, [true, false]), (201, [true, false]), (210, [true, false]), (219, [true, false]), (227, [true, false]), (235, [true, false]), (243, [true, false]), (251, [true, false]), (260, [true, false]), (268, [true, false]), (276, [true, false]), (284, [true, false]), (292, [true, false]), (300, [true, false]), (308, [true, false]), (316, [true, false]), (325, [true, false]), (333, [true, false]), (341, [true, false]), (349, [true, false]), (357, [true, false]), (365, [true, false]), (373, [true, false]), (381, [true, false]), (389, [true, false]), (397, [true, false]), (404, [true, false]), (411, [true, false]), (419, [true, false]), (428, [true, false]), (451, [true, false]), (458, [true, false]), (467, [true, false]), (469, [true, true]), (475, [true, true]), (484, [true, true]), (487, [true, true]), (490, [false, false])] jcX11_init 5 rfl h
set_option maxRecDepth 100000 in
theorem gX11_init_411 (d : Nat) (p0 : Int) (m : jM) (Q : Int → jM → Prop)
    (h : (m (-3) 0 < m (-3) 1 ∧ jKd (m (-3) 0) = 20 ∧ jLn (m (-3) 0) = 16) ∧ (m (-3) 0) = (p0 + 52) ∧ aX11_init_419 d p0 (jUp (jNw m) p0 75 (m (-3) 0)) Q) :
    aX11_init_411 d p0 m Q := jWp_snd [(4, [true, false]), (12, [true, false]), (20, [true, false]), (28, [true, false]), (36, [true, false]), (43, [true, false]), (50, [true, false]), (58, [true, false]), (66, [true, false]), (74, [true, false]), (82, [true, false]), (90, [true, false]), (98, [true, false]), (106, [true, false]), (114, [true, false]), (122, [true, false]), (130, [true, false]), (138, [true, false]), (146, [true, false]), (154, [true, false]), (162, [true, false]), (170, [true, false]), (178, [true, false]), (185, [true, false]), (193, [true, false]), (201, [true, false]), (210, [true, false]), (219, [true, false]), (227, [true, false]), (235, [true, false]), (243, [true, false]), (251, [true, false]), (260, [true, false]), (268, [true, false]), (276, [true, false]), (284, [true, false]), (292, [true, false]), (300, [true, false]), (308, [true, false]), (316, [true, false]), (325, [true, false]), (333, [true, false]), (341, [true, false]), (349, [true, false]), (357, [true, false]), (365, [true, false]), (373, [true, false]), (381, [true, false]), (389, [true, false]), (397, [true, false]), (404, [true, false]), (411, [true, false]), (419, [true, false]), (428, [true, false]), (451, [true, false]), (458, [true, false]), (467, [true, false]), (469, [true, true]), (475, [true, true]), (484, [true, true]), (487, [true, true]), (490, [false, false])] jcX11_init 5 rfl h
set_option maxRecDepth 100000 in
theorem gX11_init_419 (d : Nat) (p0 : Int) (m : jM) (Q : Int → jM → Prop)
    (h : (m (-3) 0 < m (-3) 1 ∧ jKd (m (-3) 0) = 20 ∧ jLn (m (-3) 0) = 672) ∧ (m (-3) 0) = (p0 + 53) ∧ aX11_init_428 d p0 (jUp (jNw m) p0 76 (m (-3) 0)) Q) :
    aX11_init_419 d p0 m Q := jWp_snd [(4, [true, false]), (12, [true, false]), (20, [true, false]), (28, [true, false]), (36, [true, false]), (43, [true, false]), (50, [true, false]), (58, [true, false]), (66, [true, false]), (74, [true, false]), (82, [true, false]), (90, [true, false]), (98, [true, false]), (106, [true, false]), (114, [true, false]), (122, [true, false]), (130, [true, false]), (138, [true, false]), (146, [true, false]), (154, [true, false]), (162, [true, false]), (170, [true, false]), (178, [true, false]), (185, [true, false]), (193, [true, false]), (201, [true, false]), (210, [true, false]), (219, [true, false]), (227, [true, false]), (235, [true, false]), (243, [true, false]), (251, [true, false]), (260, [true, false]), (268, [true, false]), (276, [true, false]), (284, [true, false]), (292, [true, false]), (300, [true, false]), (308, [true, false]), (316, [true, false]), (325, [true, false]), (333, [true, false]), (341, [true, false]), (349, [true, false]), (357, [true, false]), (365, [true, false]), (373, [true, false]), (381, [true, false]), (389, [true, false]), (397, [true, false]), (404, [true, false]), (411, [true, false]), (419, [true, false]), (428, [true, false]), (451, [true, false]), (458, [true, false]), (467, [true, false]), (469, [true, true]), (475, [true, true]), (484, [true, true]), (487, [true, true]), (490, [false, false])] jcX11_init 5 rfl h
set_option maxRecDepth 100000 in
theorem gX11_init_428 (d : Nat) (p0 : Int) (m : jM) (Q : Int → jM → Prop)
    (h : (m (-3) 0 < m (-3) 1 ∧ jKd (m (-3) 0) = 20 ∧ jLn (m (-3) 0) = 4) ∧ ((0 : Int) ≤ 0 ∧ (0 : Int) < 4) ∧ ((0 : Int) ≤ 1 ∧ (1 : Int) < 4) ∧ ((0 : Int) ≤ 2 ∧ (2 : Int) < 4) ∧ ((0 : Int) ≤ 3 ∧ (3 : Int) < 4) ∧ (m (-3) 0) = (p0 + 54) ∧ aX11_init_451 d p0 (jUp (jUp (jUp (jUp (jUp (jNw m) (m (-3) 0) 0 (-1)) (m (-3) 0) 1 (-1)) (m (-3) 0) 2 (-1)) (m (-3) 0) 3 (-1)) p0 77 (m (-3) 0)) Q) :
    aX11_init_428 d p0 m Q := jWp_snd [(4, [true, false]), (12, [true, false]), (20, [true, false]), (28, [true, false]), (36, [true, false]), (43, [true, false]), (50, [true, false]), (58, [true, false]), (66, [true, false]), (74, [true, false]), (82, [true, false]), (90, [true, false]), (98, [true, false]), (106, [true, false]), (114, [true, false]), (122, [true, false]), (130, [true, false]), (138, [true, false]), (146, [true, false]), (154, [true, false]), (162, [true, false]), (170, [true, false]), (178, [true, false]), (185, [true, false]), (193, [true, false]), (201, [true, false]), (210, [true, false]), (219, [true, false]), (227, [true, false]), (235, [true, false]), (243, [true, false]), (251, [true, false]), (260, [true, false]), (268, [true, false]), (276, [true, false]), (284, [true, false]), (292, [true, false]), (300, [true, false]), (308, [true, false]), (316, [true, false]), (325, [true, false]), (333, [true, false]), (341, [true, false]), (349, [true, false]), (357, [true, false]), (365, [true, false]), (373, [true, false]), (381, [true, false]), (389, [true, false]), (397, [true, false]), (404, [true, false]), (411, [true, false]), (419, [true, false]), (428, [true, false]), (451, [true, false]), (458, [true, false]), (467, [true, false]), (469, [true, true]), (475, [true, true]), (484, [true, true]), (487, [true, true]), (490, [false, false])] jcX11_init 21 rfl h
set_option maxRecDepth 100000 in
theorem gX11_init_451 (d : Nat) (p0 : Int) (m : jM) (Q : Int → jM → Prop)
    (h : (m (-3) 0 < m (-3) 1 ∧ jKd (m (-3) 0) = 20 ∧ jLn (m (-3) 0) = 4) ∧ (m (-3) 0) = (p0 + 55) ∧ aX11_init_458 d p0 (jUp (jNw m) p0 78 (m (-3) 0)) Q) :
    aX11_init_451 d p0 m Q := jWp_snd [(4, [true, false]), (12, [true, false]), (20, [true, false]), (28, [true, false]), (36, [true, false]), (43, [true, false]), (50, [true, false]), (58, [true, false]), (66, [true, false]), (74, [true, false]), (82, [true, false]), (90, [true, false]), (98, [true, false]), (106, [true, false]), (114, [true, false]), (122, [true, false]), (130, [true, false]), (138, [true, false]), (146, [true, false]), (154, [true, false]), (162, [true, false]), (170, [true, false]), (178, [true, false]), (185, [true, false]), (193, [true, false]), (201, [true, false]), (210, [true, false]), (219, [true, false]), (227, [true, false]), (235, [true, false]), (243, [true, false]), (251, [true, false]), (260, [true, false]), (268, [true, false]), (276, [true, false]), (284, [true, false]), (292, [true, false]), (300, [true, false]), (308, [true, false]), (316, [true, false]), (325, [true, false]), (333, [true, false]), (341, [true, false]), (349, [true, false]), (357, [true, false]), (365, [true, false]), (373, [true, false]), (381, [true, false]), (389, [true, false]), (397, [true, false]), (404, [true, false]), (411, [true, false]), (419, [true, false]), (428, [true, false]), (451, [true, false]), (458, [true, false]), (467, [true, false]), (469, [true, true]), (475, [true, true]), (484, [true, true]), (487, [true, true]), (490, [false, false])] jcX11_init 5 rfl h
set_option maxRecDepth 100000 in
theorem gX11_init_458 (d : Nat) (p0 : Int) (m : jM) (Q : Int → jM → Prop)
    (h : (m (-3) 0 < m (-3) 1 ∧ jKd (m (-3) 0) = 21 ∧ jLn (m (-3) 0) = 160) ∧ (m (-3) 0) = (p0 + 56) ∧ aX11_init_467 d p0 (jUp (jNw m) p0 79 (m (-3) 0)) Q) :
    aX11_init_458 d p0 m Q := jWp_snd [(4, [true, false]), (12, [true, false]), (20, [true, false]), (28, [true, false]), (36, [true, false]), (43, [true, false]), (50, [true, false]), (58, [true, false]), (66, [true, false]), (74, [true, false]), (82, [true, false]), (90, [true, false]), (98, [true, false]), (106, [true, false]), (114, [true, false]), (122, [true, false]), (130, [true, false]), (138, [true, false]), (146, [true, false]), (154, [true, false]), (162, [true, false]), (170, [true, false]), (178, [true, false]), (185, [true, false]), (193, [true, false]), (201, [true, false]), (210, [true, false]), (219, [true, false]), (227, [true, false]), (235, [true, false]), (243, [true, false]), (251, [true, false]), (260, [true, false]), (268, [true, false]), (276, [true, false]), (284, [true, false]), (292, [true, false]), (300, [true, false]), (308, [true, false]), (316, [true, false]), (325, [true, false]), (333, [true, false]), (341, [true, false]), (349, [true, false]), (357, [true, false]), (365, [true, false]), (373, [true, false]), (381, [true, false]), (389, [true, false]), (397, [true, false]), (404, [true, false]), (411, [true, false]), (419, [true, false]), (428, [true, false]), (451, [true, false]), (458, [true, false]), (467, [true, false]), (469, [true, true]), (475, [true, true]), (484, [true, true]), (487, [true, true]), (490, [false, false])] jcX11_init 5 rfl h
set_option maxRecDepth 100000 in
theorem gX11_init_467 (d : Nat) (p0 : Int) (m : jM) (Q : Int → jM → Prop)
    (h : aX11_init_469 d p0 0 m Q) :
    aX11_init_467 d p0 m Q := jWp_snd [(4, [true, false]), (12, [true, false]), (20, [true, false]), (28, [true, false]), (36, [true, false]), (43, [true, false]), (50, [true, false]), (58, [true, false]), (66, [true, false]), (74, [true, false]), (82, [true, false]), (90, [true, false]), (98, [true, false]), (106, [true, false]), (114, [true, false]), (122, [true, false]), (130, [true, false]), (138, [true, false]), (146, [true, false]), (154, [true, false]), (162, [true, false]), (170, [true, false]), (178, [true, false]), (185, [true, false]), (193, [true, false]), (201, [true, false]), (210, [true, false]), (219, [true, false]), (227, [true, false]), (235, [true, false]), (243, [true, false]), (251, [true, false]), (260, [true, false]), (268, [true, false]), (276, [true, false]), (284, [true, false]), (292, [true, false]), (300, [true, false]), (308, [true, false]), (316, [true, false]), (325, [true, false]), (333, [true, false]), (341, [true, false]), (349, [true, false]), (357, [true, false]), (365, [true, false]), (373, [true, false]), (381, [true, false]), (389, [true, false]), (397, [true, false]), (404, [true, false]), (411, [true, false]), (419, [true, false]), (428, [true, false]), (451, [true, false]), (458, [true, false]), (467, [true, false]), (469, [true, true]), (475, [true, true]), (484, [true, true]), (487, [true, true]), (490, [false, false])] jcX11_init 3 rfl h
set_option maxRecDepth 100000 in
theorem gX11_init_469 (d : Nat) (p0 x1 : Int) (m : jM) (Q : Int → jM → Prop)
    (h : (x1 < 64 → aX11_init_475 d p0 x1 m Q) ∧ (¬ x1 < 64 → aX11_init_490 d  m Q)) :
    aX11_init_469 d p0 x1 m Q := jWp_snd [(4, [true, false]), (12, [true, false]), (20, [true, false]), (28, [true, false]), (36, [true, false]), (43, [true, false]), (50, [true, false]), (58, [true, false]), (66, [true, false]), (74, [true, false]), (82, [true, false]), (90, [true, false]), (98, [true, false]), (106, [true, false]), (114, [true, false]), (122, [true, false]), (130, [true, false]), (138, [true, false]), (146, [true, false]), (154, [true, false]), (162, [true, false]), (170, [true, false]), (178, [true, false]), (185, [true, false]), (193, [true, false]), (201, [true, false]), (210, [true, false]), (219, [true, false]), (227, [true, false]), (235, [true, false]), (243, [true, false]), (251, [true, false]), (260, [true, false]), (268, [true, false]), (276, [true, false]), (284, [true, false]), (292, [true, false]), (300, [true, false]), (308, [true, false]), (316, [true, false]), (325, [true, false]), (333, [true, false]), (341, [true, false]), (349, [true, false]), (357, [true, false]), (365, [true, false]), (373, [true, false]), (381, [true, false]), (389, [true, false]), (397, [true, false]), (404, [true, false]), (411, [true, false]), (419, [true, false]), (428, [true, false]), (451, [true, false]), (458, [true, false]), (467, [true, false]), (469, [true, true]), (475, [true, true]), (484, [true, true]), (487, [true, true]), (490, [false, false])] jcX11_init 4 rfl h
set_option maxRecDepth 100000 in
theorem gX11_init_475 (d : Nat) (p0 x1 : Int) (m : jM) (Q : Int → jM → Prop)
    (h : m p0 3 = (p0 + 3) ∧ ((0 : Int) ≤ x1 ∧ (x1 : Int) < 64) ∧ aX11_init_484 d p0 x1 (jUp m (p0 + 3) x1 (-1)) Q) :
    aX11_init_475 d p0 x1 m Q := jWp_snd [(4, [true, false]), (12, [true, false]), (20, [true, false]), (28, [true, false]), (36, [true, false]), (43, [true, false]), (50, [true, false]), (58, [true, false]), (66, [true, false]), (74, [true, false]), (82, [true, false]), (90, [true, false]), (98, [true, false]), (106, [true, false]), (114, [true, false]), (122, [true, false]), (130, [true, false]), (138, [true, false]), (146, [true, false]), (154, [true, false]), (162, [true, false]), (170, [true, false]), (178, [true, false]), (185, [true, false]), (193, [true, false]), (201, [true, false]), (210, [true, false]), (219, [true, false]), (227, [true, false]), (235, [true, false]), (243, [true, false]), (251, [true, false]), (260, [true, false]), (268, [true, false]), (276, [true, false]), (284, [true, false]), (292, [true, false]), (300, [true, false]), (308, [true, false]), (316, [true, false]), (325, [true, false]), (333, [true, false]), (341, [true, false]), (349, [true, false]), (357, [true, false]), (365, [true, false]), (373, [true, false]), (381, [true, false]), (389, [true, false]), (397, [true, false]), (404, [true, false]), (411, [true, false]), (419, [true, false]), (428, [true, false]), (451, [true, false]), (458, [true, false]), (467, [true, false]), (469, [true, true]), (475, [true, true]), (484, [true, true]), (487, [true, true]), (490, [false, false])] jcX11_init 6 rfl h
set_option maxRecDepth 100000 in
theorem gX11_init_484 (d : Nat) (p0 x1 : Int) (m : jM) (Q : Int → jM → Prop)
    (h : aX11_init_487 d p0 (w32 (x1 + 1)) m Q) :
    aX11_init_484 d p0 x1 m Q := jWp_snd [(4, [true, false]), (12, [true, false]), (20, [true, false]), (28, [true, false]), (36, [true, false]), (43, [true, false]), (50, [true, false]), (58, [true, false]), (66, [true, false]), (74, [true, false]), (82, [true, false]), (90, [true, false]), (98, [true, false]), (106, [true, false]), (114, [true, false]), (122, [true, false]), (130, [true, false]), (138, [true, false]), (146, [true, false]), (154, [true, false]), (162, [true, false]), (170, [true, false]), (178, [true, false]), (185, [true, false]), (193, [true, false]), (201, [true, false]), (210, [true, false]), (219, [true, false]), (227, [true, false]), (235, [true, false]), (243, [true, false]), (251, [true, false]), (260, [true, false]), (268, [true, false]), (276, [true, false]), (284, [true, false]), (292, [true, false]), (300, [true, false]), (308, [true, false]), (316, [true, false]), (325, [true, false]), (333, [true, false]), (341, [true, false]), (349, [true, false]), (357, [true, false]), (365, [true, false]), (373, [true, false]), (381, [true, false]), (389, [true, false]), (397, [true, false]), (404, [true, false]), (411, [true, false]), (419, [true, false]), (428, [true, false]), (451, [true, false]), (458, [true, false]), (467, [true, false]), (469, [true, true]), (475, [true, true]), (484, [true, true]), (487, [true, true]), (490, [false, false])] jcX11_init 2 rfl h
set_option maxRecDepth 100000 in
theorem gX11_init_487 (d : Nat) (p0 x1 : Int) (m : jM) (Q : Int → jM → Prop)
    (h : aX11_init_469 d p0 x1 m Q) :
    aX11_init_487 d p0 x1 m Q := jWp_snd [(4, [true, false]), (12, [true, false]), (20, [true, false]), (28, [true, false]), (36, [true, false]), (43, [true, false]), (50, [true, false]), (58, [true, false]), (66, [true, false]), (74, [true, false]), (82, [true, false]), (90, [true, false]), (98, [true, false]), (106, [true, false]), (114, [true, false]), (122, [true, false]), (130, [true, false]), (138, [true, false]), (146, [true, false]), (154, [true, false]), (162, [true, false]), (170, [true, false]), (178, [true, false]), (185, [true, false]), (193, [true, false]), (201, [true, false]), (210, [true, false]), (219, [true, false]), (227, [true, false]), (235, [true, false]), (243, [true, false]), (251, [true, false]), (260, [true, false]), (268, [true, false]), (276, [true, false]), (284, [true, false]), (292, [true, false]), (300, [true, false]), (308, [true, false]), (316, [true, false]), (325, [true, false]), (333, [true, false]), (341, [true, false]), (349, [true, false]), (357, [true, false]), (365, [true, false]), (373, [true, false]), (381, [true, false]), (389, [true, false]), (397, [true, false]), (404, [true, false]), (411, [true, false]), (419, [true, false]), (428, [true, false]), (451, [true, false]), (458, [true, false]), (467, [true, false]), (469, [true, true]), (475, [true, true]), (484, [true, true]), (487, [true, true]), (490, [false, false])] jcX11_init 2 rfl h
set_option maxRecDepth 100000 in
theorem gX11_init_490 (d : Nat) (m : jM) (Q : Int → jM → Prop)
    (h : m (-3) 0 = m (-3) 1 ∧ Q 0 m) :
    aX11_init_490 d  m Q := jWp_snd [(4, [true, false]), (12, [true, false]), (20, [true, false]), (28, [true, false]), (36, [true, false]), (43, [true, false]), (50, [true, false]), (58, [true, false]), (66, [true, false]), (74, [true, false]), (82, [true, false]), (90, [true, false]), (98, [true, false]), (106, [true, false]), (114, [true, false]), (122, [true, false]), (130, [true, false]), (138, [true, false]), (146, [true, false]), (154, [true, false]), (162, [true, false]), (170, [true, false]), (178, [true, false]), (185, [true, false]), (193, [true, false]), (201, [true, false]), (210, [true, false]), (219, [true, false]), (227, [true, false]), (235, [true, false]), (243, [true, false]), (251, [true, false]), (260, [true, false]), (268, [true, false]), (276, [true, false]), (284, [true, false]), (292, [true, false]), (300, [true, false]), (308, [true, false]), (316, [true, false]), (325, [true, false]), (333, [true, false]), (341, [true, false]), (349, [true, false]), (357, [true, false]), (365, [true, false]), (373, [true, false]), (381, [true, false]), (389, [true, false]), (397, [true, false]), (404, [true, false]), (411, [true, false]), (419, [true, false]), (428, [true, false]), (451, [true, false]), (458, [true, false]), (467, [true, false]), (469, [true, true]), (475, [true, true]), (484, [true, true]), (487, [true, true]), (490, [false, false])] jcX11_init 2 rfl h
set_option maxRecDepth 100000 in
theorem gX11_isWho (d : Nat) (x0 x1 : Int) (m : jM) (Q : Int → jM → Prop)
    (h : jK d zX11_in [jL x0, jL 0, jL 1] m (fun v1 m1 => (v1 = 0 → Q 0 m1) ∧ (¬ v1 = 0 → jK d zX11_in [jL x1, jL 0, jL 7] m1 (fun v2 m2 => (v2 = 0 → Q 0 m2) ∧ (¬ v2 = 0 → Q 1 m2))))) :
    jK (d + 1) zX11_isWho [jI x0, jI x1] m Q := jWp_sn0 [] jcX11_isWho 16 rfl h
set_option maxRecDepth 100000 in
theorem gX11_isPair (d : Nat) (x0 x1 : Int) (m : jM) (Q : Int → jM → Prop)
    (h : jK d zX11_in [jL x0, jL 0, jL 7] m (fun v1 m1 => (v1 = 0 → Q 0 m1) ∧ (¬ v1 = 0 → jK d zX11_in [jL x1, jL 0, jL 7] m1 (fun v2 m2 => (v2 = 0 → Q 0 m2) ∧ (¬ v2 = 0 → Q 1 m2))))) :
    jK (d + 1) zX11_isPair [jI x0, jI x1] m Q := jWp_sn0 [] jcX11_isPair 16 rfl h
set_option maxRecDepth 100000 in
theorem gX11_isJudge (d : Nat) (x1 : Int) (m : jM) (Q : Int → jM → Prop)
    (h : ((0 : Int) ≤ x1 ∧ (x1 : Int) < 16) ∧ ((m 105 x1) = 1 → Q 1 m) ∧ (¬ (m 105 x1) = 1 → Q 0 m)) :
    jK (d + 1) zX11_isJudge [jO 11 104, jI x1] m Q := jWp_sn0 [] jcX11_isJudge 10 rfl h
set_option maxRecDepth 100000 in
theorem gX11_isCase (d : Nat) (x1 : Int) (m : jM) (Q : Int → jM → Prop)
    (h : ((0 : Int) ≤ (w32 (8 + x1)) ∧ ((w32 (8 + x1)) : Int) < 16) ∧ ((m 105 (w32 (8 + x1))) = 1 → Q 1 m) ∧ (¬ (m 105 (w32 (8 + x1))) = 1 → Q 0 m)) :
    jK (d + 1) zX11_isCase [jO 11 104, jI x1] m Q := jWp_sn0 [] jcX11_isCase 12 rfl h
set_option maxRecDepth 100000 in
theorem gX11_here (d : Nat) (x1 x2 x3 : Int) (m : jM) (Q : Int → jM → Prop)
    (h : jK d zX11_isWho [jI x1, jI x2] m (fun v1 m1 => (v1 = 0 → Q (-2) m1) ∧ (¬ v1 = 0 → jK d zX11_in [jL x3, jL 0, jL 1] m1 (fun v2 m2 => (v2 = 0 → Q (-2) m2) ∧ (¬ v2 = 0 → ((0 : Int) ≤ (w32 ((w32 (8 * x1)) + x2)) ∧ ((w32 ((w32 (8 * x1)) + x2)) : Int) < 16) ∧ ((0 : Int) ≤ (w32 ((w32 (8 * x1)) + x2)) ∧ ((w32 ((w32 (8 * x1)) + x2)) : Int) < 16) ∧ Q (m2 105 (w32 ((w32 (8 * x1)) + x2))) (jUp m2 105 (w32 ((w32 (8 * x1)) + x2)) x3)))))) :
    jK (d + 1) zX11_here [jO 11 104, jI x1, jI x2, jI x3] m Q := jWp_sn0 [] jcX11_here 31 rfl h
set_option maxRecDepth 100000 in
theorem gX11_trait (d : Nat) (x1 x2 x3 x4 : Int) (m : jM) (Q : Int → jM → Prop)
    (h : jK d zX11_isWho [jI x1, jI x2] m (fun v1 m1 => (v1 = 0 → Q (-2) m1) ∧ (¬ v1 = 0 → jK d zX11_in [jL x3, jL 0, jL 2] m1 (fun v2 m2 => (v2 = 0 → Q (-2) m2) ∧ (¬ v2 = 0 → jK d zX11_in [jL x4, jL (-999), jL 999] m2 (fun v3 m3 => (v3 = 0 → Q (-2) m3) ∧ (¬ v3 = 0 → ((0 : Int) ≤ (w32 ((w32 ((w32 ((w32 (8 * x1)) + x2)) * 3)) + x3)) ∧ ((w32 ((w32 ((w32 ((w32 (8 * x1)) + x2)) * 3)) + x3)) : Int) < 48) ∧ ((0 : Int) ≤ (w32 ((w32 ((w32 ((w32 (8 * x1)) + x2)) * 3)) + x3)) ∧ ((w32 ((w32 ((w32 ((w32 (8 * x1)) + x2)) * 3)) + x3)) : Int) < 48) ∧ Q (m3 106 (w32 ((w32 ((w32 ((w32 (8 * x1)) + x2)) * 3)) + x3))) (jUp m3 106 (w32 ((w32 ((w32 ((w32 (8 * x1)) + x2)) * 3)) + x3)) x4)))))))) :
    jK (d + 1) zX11_trait [jO 11 104, jI x1, jI x2, jI x3, jI x4] m Q := jWp_sn0 [] jcX11_trait 39 rfl h
set_option maxRecDepth 100000 in
theorem gX11_feed (d : Nat) (x1 : Int) (m : jM) (Q : Int → jM → Prop)
    (h : jK d zX11_in [jL x1, jL 0, jL 255] m (fun v1 m1 => (v1 = 0 → Q (-2) m1) ∧ (¬ v1 = 0 → ((m1 104 16) = 60 → Q (-4) m1) ∧ (¬ (m1 104 16) = 60 → ((0 : Int) ≤ (m1 104 16) ∧ ((m1 104 16) : Int) < 60) ∧ Q ((jUp (jUp m1 119 (m1 104 16) x1) 104 16 (w32 (((jUp m1 119 (m1 104 16) x1) 104 16) + 1))) 104 16) (jUp (jUp m1 119 (m1 104 16) x1) 104 16 (w32 (((jUp m1 119 (m1 104 16) x1) 104 16) + 1))))))) :
    jK (d + 1) zX11_feed [jO 11 104, jI x1] m Q := jWp_sn0 [] jcX11_feed 26 rfl h
set_option maxRecDepth 100000 in
theorem gX11_byteAt (d : Nat) (x1 : Int) (m : jM) (Q : Int → jM → Prop)
    (h : (x1 < (m 104 16) → ((0 : Int) ≤ x1 ∧ (x1 : Int) < 60) ∧ Q (m 119 x1) m) ∧ (¬ x1 < (m 104 16) → Q (-1) m)) :
    jK (d + 1) zX11_byteAt [jO 11 104, jI x1] m Q := jWp_sn0 [] jcX11_byteAt 11 rfl h
set_option maxRecDepth 100000 in
theorem gX11_isLetter (d : Nat) (x0 : Int) (m : jM) (Q : Int → jM → Prop)
    (h : jK d zX11_in [jL x0, jL 97, jL 122] m (fun v1 m1 => (if v1 = 0 ∨ v1 = 1 then Q v1 m1 else False))) :
    jK (d + 1) zX11_isLetter [jI x0] m Q := jWp_sn0 [] jcX11_isLetter 7 rfl h
set_option maxRecDepth 100000 in
theorem gX11_isDigit (d : Nat) (x0 : Int) (m : jM) (Q : Int → jM → Prop)
    (h : jK d zX11_in [jL x0, jL 48, jL 57] m (fun v1 m1 => (if v1 = 0 ∨ v1 = 1 then Q v1 m1 else False))) :
    jK (d + 1) zX11_isDigit [jI x0] m Q := jWp_sn0 [] jcX11_isDigit 7 rfl h
set_option maxRecDepth 100000 in
theorem gX11_isThree (d : Nat) (x1 x2 x3 : Int) (m : jM) (Q : Int → jM → Prop)
    (h : ((m 104 17) = (w32 ((m 104 19) + 3)) → jK d zX11_byteAt [jO 11 104, jI (m 104 19)] m (fun v1 m1 => (v1 = x1 → jK d zX11_byteAt [jO 11 104, jI (w32 ((m1 104 19) + 1))] m1 (fun v2 m2 => (v2 = x2 → jK d zX11_byteAt [jO 11 104, jI (w32 ((m2 104 19) + 2))] m2 (fun v3 m3 => (v3 = x3 → Q 1 m3) ∧ (¬ v3 = x3 → Q 0 m3))) ∧ (¬ v2 = x2 → Q 0 m2))) ∧ (¬ v1 = x1 → Q 0 m1))) ∧ (¬ (m 104 17) = (w32 ((m 104 19) + 3)) → Q 0 m)) :
    jK (d + 1) zX11_isThree [jO 11 104, jI x1, jI x2, jI x3] m Q := jWp_sn0 [] jcX11_isThree 33 rfl h
set_option maxRecDepth 100000 in
theorem gX11_word (d : Nat) (m : jM) (Q : Int → jM → Prop)
    (h : jK d zX11_isThree [jO 11 104, jI 109, jI 105, jI 110] m (fun v1 m1 => (v1 = 0 → jK d zX11_isThree [jO 11 104, jI 109, jI 97, jI 120] m1 (fun v2 m2 => (v2 = 0 → jK d zX11_isThree [jO 11 104, jI 100, jI 105, jI 118] m2 (fun v3 m3 => (v3 = 0 → jK d zX11_isThree [jO 11 104, jI 109, jI 111, jI 100] m3 (fun v4 m4 => (v4 = 0 → ((m4 104 17) = (w32 ((m4 104 19) + 1)) → jK d zX11_byteAt [jO 11 104, jI (m4 104 19)] m4 (fun v5 m5 => jK d zX11_in [jL v5, jL 97, jL 99] m5 (fun v6 m6 => (v6 = 0 → jK d zX11_in [jL v5, jL 120, jL 122] m6 (fun v7 m7 => (v7 = 0 → jK d zX11_in [jL v5, jL 112, jL 115] m7 (fun v8 m8 => (v8 = 0 → Q (-1) m8) ∧ (¬ v8 = 0 → Q (w32 ((w32 (30 + v5)) - 112)) m8))) ∧ (¬ v7 = 0 → Q (w32 ((w32 (23 + v5)) - 120)) m7))) ∧ (¬ v6 = 0 → Q (w32 ((w32 (20 + v5)) - 97)) m6)))) ∧ (¬ (m4 104 17) = (w32 ((m4 104 19) + 1)) → Q (-1) m4)) ∧ (¬ v4 = 0 → Q 11 m4))) ∧ (¬ v3 = 0 → Q 10 m3))) ∧ (¬ v2 = 0 → Q 9 m2))) ∧ (¬ v1 = 0 → Q 8 m1))) :
    jK (d + 1) zX11_word [jO 11 104] m Q := jWp_sn0 [] jcX11_word 62 rfl h
set_option maxRecDepth 100000 in
theorem gX11_isSignByte (d : Nat) (x0 : Int) (m : jM) (Q : Int → jM → Prop)
    (h : (x0 = 43 → Q 1 m) ∧ (¬ x0 = 43 → (x0 = 45 → Q 1 m) ∧ (¬ x0 = 45 → (x0 = 42 → Q 1 m) ∧ (¬ x0 = 42 → (x0 = 40 → Q 1 m) ∧ (¬ x0 = 40 → (x0 = 41 → Q 1 m) ∧ (¬ x0 = 41 → (x0 = 124 → Q 1 m) ∧ (¬ x0 = 124 → (x0 = 44 → Q 1 m) ∧ (¬ x0 = 44 → (x0 = 60 → Q 1 m) ∧ (¬ x0 = 60 → (x0 = 63 → Q 1 m) ∧ (¬ x0 = 63 → (x0 = 58 → Q 1 m) ∧ (¬ x0 = 58 → Q 0 m))))))))))) :
    jK (d + 1) zX11_isSignByte [jI x0] m Q := jWp_sn0 [] jcX11_isSignByte 34 rfl h
def aX11_next_0 (d : Nat) (m : jM) (Q : Int → jM → Prop) : Prop := jA (d + 1) zX11_next 0 [some (jO 11 104), none] [] m Q
def aX11_next_73 (d : Nat) (m : jM) (Q : Int → jM → Prop) : Prop := jA (d + 1) zX11_next 73 [some (jO 11 104), none] [] m Q
def aX11_next_140 (d : Nat) (m : jM) (Q : Int → jM → Prop) : Prop := jA (d + 1) zX11_next 140 [some (jO 11 104), none] [] m Q
set_option maxRecDepth 100000 in
theorem gX11_next (d : Nat) (m : jM) (Q : Int → jM → Prop)
    (h : aX11_next_0 d  m Q) :
    jK (d + 1) zX11_next [jO 11 104] m Q := jWp_c0 [true, false] h
set_option maxRecDepth 100000 in
theorem gX11_next_0 (d : Nat) (m : jM) (Q : Int → jM → Prop)
    (h : jK d zX11_byteAt [jO 11 104, jI (m 104 17)] m (fun v1 m1 => (v1 = 32 → aX11_next_0 d  (jUp m1 104 17 (w32 ((m1 104 17) + 1))) Q) ∧ (¬ v1 = 32 → jK d zX11_byteAt [jO 11 104, jI ((jUp m1 104 19 (m1 104 17)) 104 17)] (jUp m1 104 19 (m1 104 17)) (fun v2 m2 => (v2 = (-1) → Q 0 (jUp (jUp (jUp m2 104 18 4) 104 20 (-1)) 104 18 0)) ∧ (¬ v2 = (-1) → jK d zX11_isLetter [jI v2] (jUp (jUp m2 104 18 4) 104 20 (-1)) (fun v3 m3 => (v3 = 0 → jK d zX11_isDigit [jI v2] m3 (fun v4 m4 => (v4 = 0 → jK d zX11_isSignByte [jI v2] m4 (fun v5 m5 => (v5 = 0 → Q 0 m5) ∧ (¬ v5 = 0 → Q 0 (jUp (jUp (jUp m5 104 18 3) 104 20 v2) 104 17 (w32 (((jUp (jUp m5 104 18 3) 104 20 v2) 104 17) + 1)))))) ∧ (¬ v4 = 0 → aX11_next_140 d  (jUp m4 104 20 0) Q))) ∧ (¬ v3 = 0 → aX11_next_73 d  m3 Q))))))) :
    aX11_next_0 d  m Q := jWp_snd [(0, [true, false]), (73, [true, false]), (140, [true, false])] jcX11_next 47 rfl h
set_option maxRecDepth 100000 in
theorem gX11_next_73 (d : Nat) (m : jM) (Q : Int → jM → Prop)
    (h : jK d zX11_byteAt [jO 11 104, jI (m 104 17)] m (fun v1 m1 => jK d zX11_isLetter [jI v1] m1 (fun v2 m2 => (v2 = 0 → jK d zX11_word [jO 11 104] m2 (fun v3 m3 => (((jUp m3 104 20 v3) 104 20) = (-1) → Q 0 (jUp (jUp m3 104 20 v3) 104 18 4)) ∧ (¬ ((jUp m3 104 20 v3) 104 20) = (-1) → Q 0 (jUp (jUp m3 104 20 v3) 104 18 1)))) ∧ (¬ v2 = 0 → aX11_next_73 d  (jUp m2 104 17 (w32 ((m2 104 17) + 1))) Q)))) :
    aX11_next_73 d  m Q := jWp_snd [(0, [true, false]), (73, [true, false]), (140, [true, false])] jcX11_next 21 rfl h
set_option maxRecDepth 100000 in
theorem gX11_next_140 (d : Nat) (m : jM) (Q : Int → jM → Prop)
    (h : jK d zX11_byteAt [jO 11 104, jI (m 104 17)] m (fun v1 m1 => jK d zX11_isDigit [jI v1] m1 (fun v2 m2 => (v2 = 0 → ((w32 ((m2 104 19) + 4)) < (m2 104 17) → Q 0 (jUp m2 104 18 4)) ∧ (¬ (w32 ((m2 104 19) + 4)) < (m2 104 17) → Q 0 (jUp m2 104 18 2))) ∧ (¬ v2 = 0 → ((m2 104 17) < (w32 ((m2 104 19) + 4)) → jK d zX11_byteAt [jO 11 104, jI (m2 104 17)] m2 (fun v3 m3 => aX11_next_140 d  (jUp (jUp m3 104 20 (w32 ((w32 ((w32 (10 * (m2 104 20))) + v3)) - 48))) 104 17 (w32 (((jUp m3 104 20 (w32 ((w32 ((w32 (10 * (m2 104 20))) + v3)) - 48))) 104 17) + 1))) Q)) ∧ (¬ (m2 104 17) < (w32 ((m2 104 19) + 4)) → aX11_next_140 d  (jUp m2 104 17 (w32 ((m2 104 17) + 1))) Q))))) :
    aX11_next_140 d  m Q := jWp_snd [(0, [true, false]), (73, [true, false]), (140, [true, false])] jcX11_next 34 rfl h
set_option maxRecDepth 100000 in
theorem gX11_fail (d : Nat) (m : jM) (Q : Int → jM → Prop)
    (h : ((m 104 22) = 0 → Q 0 (jUp (jUp m 104 22 1) 104 23 ((jUp m 104 22 1) 104 19))) ∧ (¬ (m 104 22) = 0 → Q 0 m)) :
    jK (d + 1) zX11_fail [jO 11 104] m Q := jWp_sn0 [] jcX11_fail 12 rfl h
set_option maxRecDepth 100000 in
theorem gX11_isSign (d : Nat) (x1 : Int) (m : jM) (Q : Int → jM → Prop)
    (h : ((m 104 22) = 0 → ((m 104 18) = 3 → ((m 104 20) = x1 → Q 1 m) ∧ (¬ (m 104 20) = x1 → Q 0 m)) ∧ (¬ (m 104 18) = 3 → Q 0 m)) ∧ (¬ (m 104 22) = 0 → Q 0 m)) :
    jK (d + 1) zX11_isSign [jO 11 104, jI x1] m Q := jWp_sn0 [] jcX11_isSign 15 rfl h
set_option maxRecDepth 100000 in
theorem gX11_takes (d : Nat) (x1 : Int) (m : jM) (Q : Int → jM → Prop)
    (h : jK d zX11_isSign [jO 11 104, jI x1] m (fun v1 m1 => (v1 = 0 → jK d zX11_fail [jO 11 104] m1 (fun v2 m2 => Q 0 m2)) ∧ (¬ v1 = 0 → jK d zX11_next [jO 11 104] m1 (fun v3 m3 => Q 0 m3)))) :
    jK (d + 1) zX11_takes [jO 11 104, jI x1] m Q := jWp_sn0 [] jcX11_takes 9 rfl h
set_option maxRecDepth 100000 in
theorem gX11_part (d : Nat) (x1 x2 : Int) (m : jM) (Q : Int → jM → Prop)
    (h : ((m 104 22) = 0 → ((m 104 24) = 24 → jK d zX11_fail [jO 11 104] m (fun v1 m1 => Q 0 m1)) ∧ (¬ (m 104 24) = 24 → ((0 : Int) ≤ (m 104 24) ∧ ((m 104 24) : Int) < 24) ∧ ((0 : Int) ≤ (m 104 24) ∧ ((m 104 24) : Int) < 24) ∧ ((0 : Int) ≤ (m 104 24) ∧ ((m 104 24) : Int) < 24) ∧ ((0 : Int) ≤ (m 104 24) ∧ ((m 104 24) : Int) < 24) ∧ ((0 : Int) ≤ (m 104 24) ∧ ((m 104 24) : Int) < 24) ∧ ((0 : Int) ≤ (m 104 24) ∧ ((m 104 24) : Int) < 24) ∧ ((0 : Int) ≤ (m 104 24) ∧ ((m 104 24) : Int) < 24) ∧ Q (m 104 24) (jUp (jUp (jUp (jUp (jUp (jUp (jUp (jUp m 104 24 (w32 ((m 104 24) + 1))) 120 (m 104 24) x1) 121 (m 104 24) x2) 122 (m 104 24) 0) 123 (m 104 24) 0) 124 (m 104 24) 0) 125 (m 104 24) 0) 126 (m 104 24) ((jUp (jUp (jUp (jUp (jUp (jUp (jUp m 104 24 (w32 ((m 104 24) + 1))) 120 (m 104 24) x1) 121 (m 104 24) x2) 122 (m 104 24) 0) 123 (m 104 24) 0) 124 (m 104 24) 0) 125 (m 104 24) 0) 104 19)))) ∧ (¬ (m 104 22) = 0 → jK d zX11_fail [jO 11 104] m (fun v2 m2 => Q 0 m2))) :
    jK (d + 1) zX11_part [jO 11 104, jI x1, jI x2] m Q := jWp_sn0 [] jcX11_part 55 rfl h
set_option maxRecDepth 100000 in
theorem gX11_opens (d : Nat) (m : jM) (Q : Int → jM → Prop)
    (h : ((m 104 22) = 0 → ((m 104 21) = 5 → jK d zX11_fail [jO 11 104] m (fun v1 m1 => Q 0 m1)) ∧ (¬ (m 104 21) = 5 → Q 1 (jUp m 104 21 (w32 ((m 104 21) + 1))))) ∧ (¬ (m 104 22) = 0 → jK d zX11_fail [jO 11 104] m (fun v2 m2 => Q 0 m2))) :
    jK (d + 1) zX11_opens [jO 11 104] m Q := jWp_sn0 [] jcX11_opens 16 rfl h
set_option maxRecDepth 100000 in
theorem gX11_expression (d : Nat) (m : jM) (Q : Int → jM → Prop)
    (h : jK d zX11_sum [jO 11 104] m (fun v1 m1 => jK d zX11_isSign [jO 11 104, jI 60] m1 (fun v2 m2 => (v2 = 0 → Q v1 m2) ∧ (¬ v2 = 0 → jK d zX11_part [jO 11 104, jI 12, jI 0] m2 (fun v3 m3 => ((m3 104 22) = 0 → jK d zX11_next [jO 11 104] m3 (fun v4 m4 => ((0 : Int) ≤ v3 ∧ (v3 : Int) < 24) ∧ jK d zX11_sum [jO 11 104] (jUp m4 122 v3 v1) (fun v5 m5 => ((0 : Int) ≤ v3 ∧ (v3 : Int) < 24) ∧ jK d zX11_takes [jO 11 104, jI 63] (jUp m5 123 v3 v5) (fun v6 m6 => ((m6 104 22) = 0 → jK d zX11_expression [jO 11 104] m6 (fun v7 m7 => ((0 : Int) ≤ v3 ∧ (v3 : Int) < 24) ∧ jK d zX11_takes [jO 11 104, jI 58] (jUp m7 124 v3 v7) (fun v8 m8 => ((m8 104 22) = 0 → jK d zX11_expression [jO 11 104] m8 (fun v9 m9 => ((0 : Int) ≤ v3 ∧ (v3 : Int) < 24) ∧ Q v3 (jUp m9 125 v3 v9))) ∧ (¬ (m8 104 22) = 0 → Q 0 m8)))) ∧ (¬ (m6 104 22) = 0 → Q 0 m6))))) ∧ (¬ (m3 104 22) = 0 → Q 0 m3)))))) :
    jK (d + 1) zX11_expression [jO 11 104] m Q := jWp_sn0 [] jcX11_expression 55 rfl h
def aX11_sum_5 (d : Nat) (x1 : Int) (m : jM) (Q : Int → jM → Prop) : Prop := jA (d + 1) zX11_sum 5 [some (jO 11 104), some (jI x1), none] [] m Q
def aX11_sum_23 (d : Nat) (x1 : Int) (m : jM) (Q : Int → jM → Prop) : Prop := jA (d + 1) zX11_sum 23 [some (jO 11 104), some (jI x1), none] [] m Q
set_option maxRecDepth 100000 in
theorem gX11_sum (d : Nat) (m : jM) (Q : Int → jM → Prop)
    (h : jK d zX11_product [jO 11 104] m (fun v1 m1 => aX11_sum_5 d v1 m1 Q)) :
    jK (d + 1) zX11_sum [jO 11 104] m Q := jWp_sn0 [(5, [true, true, false]), (23, [true, true, false])] jcX11_sum 4 rfl h
set_option maxRecDepth 100000 in
theorem gX11_sum_5 (d : Nat) (x1 : Int) (m : jM) (Q : Int → jM → Prop)
    (h : jK d zX11_isSign [jO 11 104, jI 43] m (fun v1 m1 => (v1 = 0 → jK d zX11_isSign [jO 11 104, jI 45] m1 (fun v2 m2 => (v2 = 0 → Q x1 m2) ∧ (¬ v2 = 0 → aX11_sum_23 d x1 m2 Q))) ∧ (¬ v1 = 0 → aX11_sum_23 d x1 m1 Q))) :
    aX11_sum_5 d x1 m Q := jWp_snd [(5, [true, true, false]), (23, [true, true, false])] jcX11_sum 11 rfl h
set_option maxRecDepth 100000 in
theorem gX11_sum_23 (d : Nat) (x1 : Int) (m : jM) (Q : Int → jM → Prop)
    (h : ((m 104 20) = 43 → jK d zX11_part [jO 11 104, jI 3, jI 0] m (fun v1 m1 => ((m1 104 22) = 0 → jK d zX11_next [jO 11 104] m1 (fun v2 m2 => ((0 : Int) ≤ v1 ∧ (v1 : Int) < 24) ∧ jK d zX11_product [jO 11 104] (jUp m2 122 v1 x1) (fun v3 m3 => ((0 : Int) ≤ v1 ∧ (v1 : Int) < 24) ∧ aX11_sum_5 d v1 (jUp m3 123 v1 v3) Q))) ∧ (¬ (m1 104 22) = 0 → Q 0 m1))) ∧ (¬ (m 104 20) = 43 → jK d zX11_part [jO 11 104, jI 4, jI 0] m (fun v4 m4 => ((m4 104 22) = 0 → jK d zX11_next [jO 11 104] m4 (fun v5 m5 => ((0 : Int) ≤ v4 ∧ (v4 : Int) < 24) ∧ jK d zX11_product [jO 11 104] (jUp m5 122 v4 x1) (fun v6 m6 => ((0 : Int) ≤ v4 ∧ (v4 : Int) < 24) ∧ aX11_sum_5 d v4 (jUp m6 123 v4 v6) Q))) ∧ (¬ (m4 104 22) = 0 → Q 0 m4)))) :
    aX11_sum_23 d x1 m Q := jWp_snd [(5, [true, true, false]), (23, [true, true, false])] jcX11_sum 30 rfl h
def aX11_product_5 (d : Nat) (x1 : Int) (m : jM) (Q : Int → jM → Prop) : Prop := jA (d + 1) zX11_product 5 [some (jO 11 104), some (jI x1), none] [] m Q
set_option maxRecDepth 100000 in
theorem gX11_product (d : Nat) (m : jM) (Q : Int → jM → Prop)
    (h : jK d zX11_factor [jO 11 104] m (fun v1 m1 => aX11_product_5 d v1 m1 Q)) :
    jK (d + 1) zX11_product [jO 11 104] m Q := jWp_sn0 [(5, [true, true, false])] jcX11_product 4 rfl h
set_option maxRecDepth 100000 in
theorem gX11_product_5 (d : Nat) (x1 : Int) (m : jM) (Q : Int → jM → Prop)
    (h : jK d zX11_isSign [jO 11 104, jI 42] m (fun v1 m1 => (v1 = 0 → Q x1 m1) ∧ (¬ v1 = 0 → jK d zX11_part [jO 11 104, jI 5, jI 0] m1 (fun v2 m2 => ((m2 104 22) = 0 → jK d zX11_next [jO 11 104] m2 (fun v3 m3 => ((0 : Int) ≤ v2 ∧ (v2 : Int) < 24) ∧ jK d zX11_factor [jO 11 104] (jUp m3 122 v2 x1) (fun v4 m4 => ((0 : Int) ≤ v2 ∧ (v2 : Int) < 24) ∧ aX11_product_5 d v2 (jUp m4 123 v2 v4) Q))) ∧ (¬ (m2 104 22) = 0 → Q 0 m2))))) :
    aX11_product_5 d x1 m Q := jWp_snd [(5, [true, true, false])] jcX11_product 29 rfl h
def aX11_factor_107 (d : Nat) (m : jM) (Q : Int → jM → Prop) : Prop := jA (d + 1) zX11_factor 107 [some (jO 11 104), none] [] m Q
set_option maxRecDepth 100000 in
theorem gX11_factor (d : Nat) (m : jM) (Q : Int → jM → Prop)
    (h : ((m 104 22) = 0 → ((m 104 18) = 2 → jK d zX11_part [jO 11 104, jI 0, jI (m 104 20)] m (fun v1 m1 => ((m1 104 22) = 0 → jK d zX11_next [jO 11 104] m1 (fun v2 m2 => Q v1 m2)) ∧ (¬ (m1 104 22) = 0 → Q v1 m1))) ∧ (¬ (m 104 18) = 2 → ((m 104 18) = 1 → ((m 104 20) < 20 → aX11_factor_107 d  m Q) ∧ (¬ (m 104 20) < 20 → ((m 104 20) < 30 → jK d zX11_part [jO 11 104, jI 1, jI (w32 ((m 104 20) - 20))] m (fun v3 m3 => ((m3 104 22) = 0 → jK d zX11_next [jO 11 104] m3 (fun v4 m4 => Q v3 m4)) ∧ (¬ (m3 104 22) = 0 → Q v3 m3))) ∧ (¬ (m 104 20) < 30 → jK d zX11_part [jO 11 104, jI 2, jI (w32 ((m 104 20) - 30))] m (fun v5 m5 => ((m5 104 22) = 0 → jK d zX11_next [jO 11 104] m5 (fun v6 m6 => Q v5 m6)) ∧ (¬ (m5 104 22) = 0 → Q v5 m5))))) ∧ (¬ (m 104 18) = 1 → aX11_factor_107 d  m Q))) ∧ (¬ (m 104 22) = 0 → Q 0 m)) :
    jK (d + 1) zX11_factor [jO 11 104] m Q := jWp_sn0 [(107, [true, false])] jcX11_factor 36 rfl h
set_option maxRecDepth 100000 in
theorem gX11_factor_107 (d : Nat) (m : jM) (Q : Int → jM → Prop)
    (h : ((m 104 18) = 1 → jK d zX11_ofTwo [jO 11 104] m (fun v1 m1 => Q v1 m1)) ∧ (¬ (m 104 18) = 1 → jK d zX11_isSign [jO 11 104, jI 45] m (fun v2 m2 => (v2 = 0 → jK d zX11_isSign [jO 11 104, jI 40] m2 (fun v3 m3 => (v3 = 0 → jK d zX11_isSign [jO 11 104, jI 124] m3 (fun v4 m4 => (v4 = 0 → jK d zX11_fail [jO 11 104] m4 (fun v5 m5 => Q 0 m5)) ∧ (¬ v4 = 0 → jK d zX11_part [jO 11 104, jI 7, jI 0] m4 (fun v6 m6 => ((m6 104 22) = 0 → jK d zX11_opens [jO 11 104] m6 (fun v7 m7 => (v7 = 0 → Q 0 m7) ∧ (¬ v7 = 0 → jK d zX11_next [jO 11 104] m7 (fun v8 m8 => jK d zX11_expression [jO 11 104] m8 (fun v9 m9 => ((0 : Int) ≤ v6 ∧ (v6 : Int) < 24) ∧ jK d zX11_takes [jO 11 104, jI 124] (jUp m9 122 v6 v9) (fun v10 m10 => Q v6 (jUp m10 104 21 (w32 ((m10 104 21) - 1))))))))) ∧ (¬ (m6 104 22) = 0 → Q 0 m6))))) ∧ (¬ v3 = 0 → jK d zX11_opens [jO 11 104] m3 (fun v11 m11 => (v11 = 0 → Q 0 m11) ∧ (¬ v11 = 0 → jK d zX11_next [jO 11 104] m11 (fun v12 m12 => jK d zX11_expression [jO 11 104] m12 (fun v13 m13 => jK d zX11_takes [jO 11 104, jI 41] m13 (fun v14 m14 => Q v13 (jUp m14 104 21 (w32 ((m14 104 21) - 1))))))))))) ∧ (¬ v2 = 0 → jK d zX11_part [jO 11 104, jI 6, jI 0] m2 (fun v15 m15 => ((m15 104 22) = 0 → jK d zX11_next [jO 11 104] m15 (fun v16 m16 => jK d zX11_factor [jO 11 104] m16 (fun v17 m17 => ((0 : Int) ≤ v15 ∧ (v15 : Int) < 24) ∧ Q v15 (jUp m17 122 v15 v17)))) ∧ (¬ (m15 104 22) = 0 → Q 0 m15)))))) :
    aX11_factor_107 d  m Q := jWp_snd [(107, [true, false])] jcX11_factor 47 rfl h
set_option maxRecDepth 100000 in
theorem gX11_ofTwo (d : Nat) (m : jM) (Q : Int → jM → Prop)
    (h : jK d zX11_part [jO 11 104, jI (m 104 20), jI 0] m (fun v1 m1 => ((m1 104 22) = 0 → jK d zX11_next [jO 11 104] m1 (fun v2 m2 => jK d zX11_isSign [jO 11 104, jI 40] m2 (fun v3 m3 => (v3 = 0 → jK d zX11_fail [jO 11 104] m3 (fun v4 m4 => Q 0 m4)) ∧ (¬ v3 = 0 → jK d zX11_opens [jO 11 104] m3 (fun v5 m5 => (v5 = 0 → Q 0 m5) ∧ (¬ v5 = 0 → jK d zX11_next [jO 11 104] m5 (fun v6 m6 => jK d zX11_expression [jO 11 104] m6 (fun v7 m7 => ((0 : Int) ≤ v1 ∧ (v1 : Int) < 24) ∧ jK d zX11_takes [jO 11 104, jI 44] (jUp m7 122 v1 v7) (fun v8 m8 => ((m8 104 22) = 0 → jK d zX11_expression [jO 11 104] m8 (fun v9 m9 => ((0 : Int) ≤ v1 ∧ (v1 : Int) < 24) ∧ jK d zX11_takes [jO 11 104, jI 41] (jUp m9 123 v1 v9) (fun v10 m10 => Q v1 (jUp m10 104 21 (w32 ((m10 104 21) - 1)))))) ∧ (¬ (m8 104 22) = 0 → Q 0 m8)))))))))) ∧ (¬ (m1 104 22) = 0 → Q 0 m1))) :
    jK (d + 1) zX11_ofTwo [jO 11 104] m Q := jWp_sn0 [] jcX11_ofTwo 50 rfl h
def aX11_names_4 (d : Nat) (x1 x2 x3 : Int) (m : jM) (Q : Int → jM → Prop) : Prop := jA (d + 1) zX11_names 4 [some (jO 11 104), some (jI x1), some (jI x2), some (jI x3)] [] m Q
set_option maxRecDepth 100000 in
theorem gX11_names (d : Nat) (x1 : Int) (m : jM) (Q : Int → jM → Prop)
    (h : aX11_names_4 d x1 0 0 m Q) :
    jK (d + 1) zX11_names [jO 11 104, jI x1] m Q := jWp_sn0 [(4, [true, true, true, true])] jcX11_names 5 rfl h
set_option maxRecDepth 100000 in
theorem gX11_names_4 (d : Nat) (x1 x2 x3 : Int) (m : jM) (Q : Int → jM → Prop)
    (h : (x3 < 4 → ((0 : Int) ≤ (w32 ((w32 (4 * x1)) + x3)) ∧ ((w32 ((w32 (4 * x1)) + x3)) : Int) < 16) ∧ (0 < (m 111 (w32 ((w32 (4 * x1)) + x3))) → aX11_names_4 d x1 (iOr x2 (iShl 1 x3)) (w32 (x3 + 1)) m Q) ∧ (¬ 0 < (m 111 (w32 ((w32 (4 * x1)) + x3))) → aX11_names_4 d x1 x2 (w32 (x3 + 1)) m Q)) ∧ (¬ x3 < 4 → Q x2 m)) :
    aX11_names_4 d x1 x2 x3 m Q := jWp_snd [(4, [true, true, true, true])] jcX11_names 21 rfl h
def aX11_comesTo_8 (d : Nat) (x2 x3 : Int) (m : jM) (Q : Int → jM → Prop) : Prop := jA (d + 1) zX11_comesTo 8 [some (jO 11 104), none, some (jI x2), some (jI x3), none] [] m Q
def aX11_comesTo_16 (d : Nat) (x2 x3 x4 : Int) (m : jM) (Q : Int → jM → Prop) : Prop := jA (d + 1) zX11_comesTo 16 [some (jO 11 104), none, some (jI x2), some (jI x3), some (jI x4)] [] m Q
set_option maxRecDepth 100000 in
theorem gX11_comesTo (d : Nat) (x1 : Int) (m : jM) (Q : Int → jM → Prop)
    (h : jK d zX11_names [jO 11 104, jI x1] m (fun v1 m1 => aX11_comesTo_8 d v1 0 m1 Q)) :
    jK (d + 1) zX11_comesTo [jO 11 104, jI x1] m Q := jWp_sn0 [(8, [true, false, true, true, false]), (16, [true, false, true, true, true])] jcX11_comesTo 7 rfl h
set_option maxRecDepth 100000 in
theorem gX11_comesTo_8 (d : Nat) (x2 x3 : Int) (m : jM) (Q : Int → jM → Prop)
    (h : (x3 < 4 → aX11_comesTo_16 d x2 x3 0 m Q) ∧ (¬ x3 < 4 → Q x2 m)) :
    aX11_comesTo_8 d x2 x3 m Q := jWp_snd [(8, [true, false, true, true, false]), (16, [true, false, true, true, true])] jcX11_comesTo 6 rfl h
set_option maxRecDepth 100000 in
theorem gX11_comesTo_16 (d : Nat) (x2 x3 x4 : Int) (m : jM) (Q : Int → jM → Prop)
    (h : (x4 < 4 → ((iAnd (iShr x2 x4) 1) = 1 → jK d zX11_names [jO 11 104, jI x4] m (fun v1 m1 => aX11_comesTo_16 d (iOr x2 v1) x3 (w32 (x4 + 1)) m1 Q)) ∧ (¬ (iAnd (iShr x2 x4) 1) = 1 → aX11_comesTo_16 d x2 x3 (w32 (x4 + 1)) m Q)) ∧ (¬ x4 < 4 → aX11_comesTo_8 d x2 (w32 (x3 + 1)) m Q)) :
    aX11_comesTo_16 d x2 x3 x4 m Q := jWp_snd [(8, [true, false, true, true, false]), (16, [true, false, true, true, true])] jcX11_comesTo 19 rfl h
def aX11_weight_9 (d : Nat) (x1 x2 x3 : Int) (m : jM) (Q : Int → jM → Prop) : Prop := jA (d + 1) zX11_weight 9 [some (jO 11 104), some (jI x1), some (jI x2), some (jI x3)] [] m Q
set_option maxRecDepth 100000 in
theorem gX11_weight (d : Nat) (x1 : Int) (m : jM) (Q : Int → jM → Prop)
    (h : ((0 : Int) ≤ x1 ∧ (x1 : Int) < 4) ∧ aX11_weight_9 d x1 (m 109 x1) 0 m Q) :
    jK (d + 1) zX11_weight [jO 11 104, jI x1] m Q := jWp_sn0 [(9, [true, true, true, true])] jcX11_weight 8 rfl h
set_option maxRecDepth 100000 in
theorem gX11_weight_9 (d : Nat) (x1 x2 x3 : Int) (m : jM) (Q : Int → jM → Prop)
    (h : (x3 < 4 → ((0 : Int) ≤ (w32 ((w32 (4 * x1)) + x3)) ∧ ((w32 ((w32 (4 * x1)) + x3)) : Int) < 16) ∧ (0 < (m 111 (w32 ((w32 (4 * x1)) + x3))) → ((0 : Int) ≤ (w32 ((w32 (4 * x1)) + x3)) ∧ ((w32 ((w32 (4 * x1)) + x3)) : Int) < 16) ∧ jK d zX11_weight [jO 11 104, jI x3] m (fun v1 m1 => aX11_weight_9 d x1 (w32 (x2 + (w32 ((m 111 (w32 ((w32 (4 * x1)) + x3))) * v1)))) (w32 (x3 + 1)) m1 Q)) ∧ (¬ 0 < (m 111 (w32 ((w32 (4 * x1)) + x3))) → aX11_weight_9 d x1 x2 (w32 (x3 + 1)) m Q)) ∧ (¬ x3 < 4 → Q x2 m)) :
    aX11_weight_9 d x1 x2 x3 m Q := jWp_snd [(9, [true, true, true, true])] jcX11_weight 30 rfl h
def aX11_trades_2 (d : Nat) (x1 x2 : Int) (m : jM) (Q : Int → jM → Prop) : Prop := jA (d + 1) zX11_trades 2 [some (jO 11 104), some (jI x1), some (jI x2), none] [] m Q
set_option maxRecDepth 100000 in
theorem gX11_trades (d : Nat) (x1 : Int) (m : jM) (Q : Int → jM → Prop)
    (h : aX11_trades_2 d x1 0 m Q) :
    jK (d + 1) zX11_trades [jO 11 104, jI x1] m Q := jWp_sn0 [(2, [true, true, true, false])] jcX11_trades 3 rfl h
set_option maxRecDepth 100000 in
theorem gX11_trades_2 (d : Nat) (x1 x2 : Int) (m : jM) (Q : Int → jM → Prop)
    (h : (x2 < 4 → ((0 : Int) ≤ (w32 ((w32 (4 * x1)) + x2)) ∧ ((w32 ((w32 (4 * x1)) + x2)) : Int) < 16) ∧ ((0 : Int) ≤ x2 ∧ (x2 : Int) < 4) ∧ ((0 : Int) ≤ (w32 ((w32 (4 * x1)) + x2)) ∧ ((w32 ((w32 (4 * x1)) + x2)) : Int) < 16) ∧ ((0 : Int) ≤ x2 ∧ (x2 : Int) < 4) ∧ aX11_trades_2 d x1 (w32 (x2 + 1)) (jUp (jUp m 111 (w32 ((w32 (4 * x1)) + x2)) (m 127 x2)) 127 x2 (m 111 (w32 ((w32 (4 * x1)) + x2)))) Q) ∧ (¬ x2 < 4 → Q 0 m)) :
    aX11_trades_2 d x1 x2 m Q := jWp_snd [(2, [true, true, true, false])] jcX11_trades 32 rfl h
def aX11_isHeavy_2 (d : Nat) (x1 : Int) (m : jM) (Q : Int → jM → Prop) : Prop := jA (d + 1) zX11_isHeavy 2 [some (jO 11 104), some (jI x1)] [] m Q
set_option maxRecDepth 100000 in
theorem gX11_isHeavy (d : Nat) (m : jM) (Q : Int → jM → Prop)
    (h : aX11_isHeavy_2 d 0 m Q) :
    jK (d + 1) zX11_isHeavy [jO 11 104] m Q := jWp_sn0 [(2, [true, true])] jcX11_isHeavy 3 rfl h
set_option maxRecDepth 100000 in
theorem gX11_isHeavy_2 (d : Nat) (x1 : Int) (m : jM) (Q : Int → jM → Prop)
    (h : (x1 < 4 → jK d zX11_weight [jO 11 104, jI x1] m (fun v1 m1 => (60 < v1 → Q 1 m1) ∧ (¬ 60 < v1 → aX11_isHeavy_2 d (w32 (x1 + 1)) m1 Q))) ∧ (¬ x1 < 4 → Q 0 m)) :
    aX11_isHeavy_2 d x1 m Q := jWp_snd [(2, [true, true])] jcX11_isHeavy 11 rfl h
def aX11_text_77 (d : Nat) (x1 x2 x3 : Int) (m : jM) (Q : Int → jM → Prop) : Prop := jA (d + 1) zX11_text 77 [some (jO 11 104), some (jI x1), some (jI x2), some (jI x3), none, none] [] m Q
def aX11_text_97 (d : Nat) (x1 x2 x3 : Int) (m : jM) (Q : Int → jM → Prop) : Prop := jA (d + 1) zX11_text 97 [some (jO 11 104), some (jI x1), some (jI x2), some (jI x3), none, none] [] m Q
def aX11_text_211 (d : Nat) (x1 x4 : Int) (m : jM) (Q : Int → jM → Prop) : Prop := jA (d + 1) zX11_text 211 [some (jO 11 104), some (jI x1), none, none, some (jI x4), none] [] m Q
set_option maxRecDepth 100000 in
theorem gX11_text (d : Nat) (x1 : Int) (m : jM) (Q : Int → jM → Prop)
    (h : jK d zX11_in [jL x1, jL 0, jL 3] m (fun v1 m1 => (v1 = 0 → Q (-2) m1) ∧ (¬ v1 = 0 → jK d zX11_next [jO 11 104] (jUp (jUp (jUp (jUp m1 104 17 0) 104 21 0) 104 22 0) 104 24 0) (fun v2 m2 => jK d zX11_expression [jO 11 104] m2 (fun v3 m3 => ((m3 104 18) = 0 → (((jUp m3 104 16 0) 104 22) = 0 → aX11_text_77 d x1 v3 0 (jUp m3 104 16 0) Q) ∧ (¬ ((jUp m3 104 16 0) 104 22) = 0 → Q (w32 ((-100) - ((jUp m3 104 16 0) 104 23))) (jUp m3 104 16 0))) ∧ (¬ (m3 104 18) = 0 → jK d zX11_fail [jO 11 104] m3 (fun v4 m4 => (((jUp m4 104 16 0) 104 22) = 0 → aX11_text_77 d x1 v3 0 (jUp m4 104 16 0) Q) ∧ (¬ ((jUp m4 104 16 0) 104 22) = 0 → Q (w32 ((-100) - ((jUp m4 104 16 0) 104 23))) (jUp m4 104 16 0))))))))) :
    jK (d + 1) zX11_text [jO 11 104, jI x1] m Q := jWp_sn0 [(77, [true, true, true, true, false, false]), (97, [true, true, true, true, false, false]), (211, [true, true, false, false, true, false])] jcX11_text 40 rfl h
set_option maxRecDepth 100000 in
theorem gX11_text_77 (d : Nat) (x1 x2 x3 : Int) (m : jM) (Q : Int → jM → Prop)
    (h : (x3 < 4 → ((0 : Int) ≤ x3 ∧ (x3 : Int) < 4) ∧ aX11_text_77 d x1 x2 (w32 (x3 + 1)) (jUp m 127 x3 0) Q) ∧ (¬ x3 < 4 → aX11_text_97 d x1 x2 0 m Q)) :
    aX11_text_77 d x1 x2 x3 m Q := jWp_snd [(77, [true, true, true, true, false, false]), (97, [true, true, true, true, false, false]), (211, [true, true, false, false, true, false])] jcX11_text 11 rfl h
set_option maxRecDepth 100000 in
theorem gX11_text_97 (d : Nat) (x1 x2 x3 : Int) (m : jM) (Q : Int → jM → Prop)
    (h : (x3 < (m 104 24) → ((0 : Int) ≤ x3 ∧ (x3 : Int) < 24) ∧ ((m 120 x3) = 2 → ((0 : Int) ≤ x3 ∧ (x3 : Int) < 24) ∧ ((0 : Int) ≤ (m 121 x3) ∧ ((m 121 x3) : Int) < 4) ∧ ((0 : Int) ≤ (m 121 x3) ∧ ((m 121 x3) : Int) < 4) ∧ aX11_text_97 d x1 x2 (w32 (x3 + 1)) (jUp m 127 (m 121 x3) (w32 ((m 127 (m 121 x3)) + 1))) Q) ∧ (¬ (m 120 x3) = 2 → aX11_text_97 d x1 x2 (w32 (x3 + 1)) m Q)) ∧ (¬ x3 < (m 104 24) → jK d zX11_trades [jO 11 104, jI x1] m (fun v1 m1 => jK d zX11_comesTo [jO 11 104, jI x1] m1 (fun v2 m2 => ((iAnd (iShr v2 x1) 1) = 1 → jK d zX11_trades [jO 11 104, jI x1] m2 (fun v3 m3 => Q (-5) m3)) ∧ (¬ (iAnd (iShr v2 x1) 1) = 1 → ((0 : Int) ≤ x1 ∧ (x1 : Int) < 4) ∧ ((0 : Int) ≤ x1 ∧ (x1 : Int) < 4) ∧ jK d zX11_isHeavy [jO 11 104] (jUp m2 109 x1 (m2 104 24)) (fun v4 m4 => (v4 = 0 → ((0 : Int) ≤ x1 ∧ (x1 : Int) < 4) ∧ aX11_text_211 d x1 0 (jUp m4 110 x1 x2) Q) ∧ (¬ v4 = 0 → ((0 : Int) ≤ x1 ∧ (x1 : Int) < 4) ∧ jK d zX11_trades [jO 11 104, jI x1] (jUp m4 109 x1 (m2 109 x1)) (fun v5 m5 => Q (-4) m5)))))))) :
    aX11_text_97 d x1 x2 x3 m Q := jWp_snd [(77, [true, true, true, true, false, false]), (97, [true, true, true, true, false, false]), (211, [true, true, false, false, true, false])] jcX11_text 41 rfl h
set_option maxRecDepth 100000 in
theorem gX11_text_211 (d : Nat) (x1 x4 : Int) (m : jM) (Q : Int → jM → Prop)
    (h : (x4 < (m 104 24) → ((0 : Int) ≤ x4 ∧ (x4 : Int) < 24) ∧ ((0 : Int) ≤ (w32 ((w32 (24 * x1)) + x4)) ∧ ((w32 ((w32 (24 * x1)) + x4)) : Int) < 96) ∧ ((0 : Int) ≤ x4 ∧ (x4 : Int) < 24) ∧ ((0 : Int) ≤ (w32 ((w32 (24 * x1)) + x4)) ∧ ((w32 ((w32 (24 * x1)) + x4)) : Int) < 96) ∧ ((0 : Int) ≤ x4 ∧ (x4 : Int) < 24) ∧ ((0 : Int) ≤ (w32 ((w32 (24 * x1)) + x4)) ∧ ((w32 ((w32 (24 * x1)) + x4)) : Int) < 96) ∧ ((0 : Int) ≤ x4 ∧ (x4 : Int) < 24) ∧ ((0 : Int) ≤ (w32 ((w32 (24 * x1)) + x4)) ∧ ((w32 ((w32 (24 * x1)) + x4)) : Int) < 96) ∧ ((0 : Int) ≤ x4 ∧ (x4 : Int) < 24) ∧ ((0 : Int) ≤ (w32 ((w32 (24 * x1)) + x4)) ∧ ((w32 ((w32 (24 * x1)) + x4)) : Int) < 96) ∧ ((0 : Int) ≤ x4 ∧ (x4 : Int) < 24) ∧ ((0 : Int) ≤ (w32 ((w32 (24 * x1)) + x4)) ∧ ((w32 ((w32 (24 * x1)) + x4)) : Int) < 96) ∧ ((0 : Int) ≤ x4 ∧ (x4 : Int) < 24) ∧ ((0 : Int) ≤ (w32 ((w32 (24 * x1)) + x4)) ∧ ((w32 ((w32 (24 * x1)) + x4)) : Int) < 96) ∧ aX11_text_211 d x1 (w32 (x4 + 1)) (jUp (jUp (jUp (jUp (jUp (jUp (jUp m 112 (w32 ((w32 (24 * x1)) + x4)) (m 120 x4)) 113 (w32 ((w32 (24 * x1)) + x4)) ((jUp m 112 (w32 ((w32 (24 * x1)) + x4)) (m 120 x4)) 121 x4)) 114 (w32 ((w32 (24 * x1)) + x4)) ((jUp (jUp m 112 (w32 ((w32 (24 * x1)) + x4)) (m 120 x4)) 113 (w32 ((w32 (24 * x1)) + x4)) ((jUp m 112 (w32 ((w32 (24 * x1)) + x4)) (m 120 x4)) 121 x4)) 122 x4)) 115 (w32 ((w32 (24 * x1)) + x4)) ((jUp (jUp (jUp m 112 (w32 ((w32 (24 * x1)) + x4)) (m 120 x4)) 113 (w32 ((w32 (24 * x1)) + x4)) ((jUp m 112 (w32 ((w32 (24 * x1)) + x4)) (m 120 x4)) 121 x4)) 114 (w32 ((w32 (24 * x1)) + x4)) ((jUp (jUp m 112 (w32 ((w32 (24 * x1)) + x4)) (m 120 x4)) 113 (w32 ((w32 (24 * x1)) + x4)) ((jUp m 112 (w32 ((w32 (24 * x1)) + x4)) (m 120 x4)) 121 x4)) 122 x4)) 123 x4)) 116 (w32 ((w32 (24 * x1)) + x4)) ((jUp (jUp (jUp (jUp m 112 (w32 ((w32 (24 * x1)) + x4)) (m 120 x4)) 113 (w32 ((w32 (24 * x1)) + x4)) ((jUp m 112 (w32 ((w32 (24 * x1)) + x4)) (m 120 x4)) 121 x4)) 114 (w32 ((w32 (24 * x1)) + x4)) ((jUp (jUp m 112 (w32 ((w32 (24 * x1)) + x4)) (m 120 x4)) 113 (w32 ((w32 (24 * x1)) + x4)) ((jUp m 112 (w32 ((w32 (24 * x1)) + x4)) (m 120 x4)) 121 x4)) 122 x4)) 115 (w32 ((w32 (24 * x1)) + x4)) ((jUp (jUp (jUp m 112 (w32 ((w32 (24 * x1)) + x4)) (m 120 x4)) 113 (w32 ((w32 (24 * x1)) + x4)) ((jUp m 112 (w32 ((w32 (24 * x1)) + x4)) (m 120 x4)) 121 x4)) 114 (w32 ((w32 (24 * x1)) + x4)) ((jUp (jUp m 112 (w32 ((w32 (24 * x1)) + x4)) (m 120 x4)) 113 (w32 ((w32 (24 * x1)) + x4)) ((jUp m 112 (w32 ((w32 (24 * x1)) + x4)) (m 120 x4)) 121 x4)) 122 x4)) 123 x4)) 124 x4)) 117 (w32 ((w32 (24 * x1)) + x4)) ((jUp (jUp (jUp (jUp (jUp m 112 (w32 ((w32 (24 * x1)) + x4)) (m 120 x4)) 113 (w32 ((w32 (24 * x1)) + x4)) ((jUp m 112 (w32 ((w32 (24 * x1)) + x4)) (m 120 x4)) 121 x4)) 114 (w32 ((w32 (24 * x1)) + x4)) ((jUp (jUp m 112 (w32 ((w32 (24 * x1)) + x4)) (m 120 x4)) 113 (w32 ((w32 (24 * x1)) + x4)) ((jUp m 112 (w32 ((w32 (24 * x1)) + x4)) (m 120 x4)) 121 x4)) 122 x4)) 115 (w32 ((w32 (24 * x1)) + x4)) ((jUp (jUp (jUp m 112 (w32 ((w32 (24 * x1)) + x4)) (m 120 x4)) 113 (w32 ((w32 (24 * x1)) + x4)) ((jUp m 112 (w32 ((w32 (24 * x1)) + x4)) (m 120 x4)) 121 x4)) 114 (w32 ((w32 (24 * x1)) + x4)) ((jUp (jUp m 112 (w32 ((w32 (24 * x1)) + x4)) (m 120 x4)) 113 (w32 ((w32 (24 * x1)) + x4)) ((jUp m 112 (w32 ((w32 (24 * x1)) + x4)) (m 120 x4)) 121 x4)) 122 x4)) 123 x4)) 116 (w32 ((w32 (24 * x1)) + x4)) ((jUp (jUp (jUp (jUp m 112 (w32 ((w32 (24 * x1)) + x4)) (m 120 x4)) 113 (w32 ((w32 (24 * x1)) + x4)) ((jUp m 112 (w32 ((w32 (24 * x1)) + x4)) (m 120 x4)) 121 x4)) 114 (w32 ((w32 (24 * x1)) + x4)) ((jUp (jUp m 112 (w32 ((w32 (24 * x1)) + x4)) (m 120 x4)) 113 (w32 ((w32 (24 * x1)) + x4)) ((jUp m 112 (w32 ((w32 (24 * x1)) + x4)) (m 120 x4)) 121 x4)) 122 x4)) 115 (w32 ((w32 (24 * x1)) + x4)) ((jUp (jUp (jUp m 112 (w32 ((w32 (24 * x1)) + x4)) (m 120 x4)) 113 (w32 ((w32 (24 * x1)) + x4)) ((jUp m 112 (w32 ((w32 (24 * x1)) + x4)) (m 120 x4)) 121 x4)) 114 (w32 ((w32 (24 * x1)) + x4)) ((jUp (jUp m 112 (w32 ((w32 (24 * x1)) + x4)) (m 120 x4)) 113 (w32 ((w32 (24 * x1)) + x4)) ((jUp m 112 (w32 ((w32 (24 * x1)) + x4)) (m 120 x4)) 121 x4)) 122 x4)) 123 x4)) 124 x4)) 125 x4)) 118 (w32 ((w32 (24 * x1)) + x4)) ((jUp (jUp (jUp (jUp (jUp (jUp m 112 (w32 ((w32 (24 * x1)) + x4)) (m 120 x4)) 113 (w32 ((w32 (24 * x1)) + x4)) ((jUp m 112 (w32 ((w32 (24 * x1)) + x4)) (m 120 x4)) 121 x4)) 114 (w32 ((w32 (24 * x1)) + x4)) ((jUp (jUp m 112 (w32 ((w32 (24 * x1)) + x4)) (m 120 x4)) 113 (w32 ((w32 (24 * x1)) + x4)) ((jUp m 112 (w32 ((w32 (24 * x1)) + x4)) (m 120 x4)) 121 x4)) 122 x4)) 115 (w32 ((w32 (24 * x1)) + x4)) ((jUp (jUp (jUp m 112 (w32 ((w32 (24 * x1)) + x4)) (m 120 x4)) 113 (w32 ((w32 (24 * x1)) + x4)) ((jUp m 112 (w32 ((w32 (24 * x1)) + x4)) (m 120 x4)) 121 x4)) 114 (w32 ((w32 (24 * x1)) + x4)) ((jUp (jUp m 112 (w32 ((w32 (24 * x1)) + x4)) (m 120 x4)) 113 (w32 ((w32 (24 * x1)) + x4)) ((jUp m 112 (w32 ((w32 (24 * x1)) + x4)) (m 120 x4)) 121 x4)) 122 x4)) 123 x4)) 116 (w32 ((w32 (24 * x1)) + x4)) ((jUp (jUp (jUp (jUp m 112 (w32 ((w32 (24 * x1)) + x4)) (m 120 x4)) 113 (w32 ((w32 (24 * x1)) + x4)) ((jUp m 112 (w32 ((w32 (24 * x1)) + x4)) (m 120 x4)) 121 x4)) 114 (w32 ((w32 (24 * x1)) + x4)) ((jUp (jUp m 112 (w32 ((w32 (24 * x1)) + x4)) (m 120 x4)) 113 (w32 ((w32 (24 * x1)) + x4)) ((jUp m 112 (w32 ((w32 (24 * x1)) + x4)) (m 120 x4)) 121 x4)) 122 x4)) 115 (w32 ((w32 (24 * x1)) + x4)) ((jUp (jUp (jUp m 112 (w32 ((w32 (24 * x1)) + x4)) (m 120 x4)) 113 (w32 ((w32 (24 * x1)) + x4)) ((jUp m 112 (w32 ((w32 (24 * x1)) + x4)) (m 120 x4)) 121 x4)) 114 (w32 ((w32 (24 * x1)) + x4)) ((jUp (jUp m 112 (w32 ((w32 (24 * x1)) + x4)) (m 120 x4)) 113 (w32 ((w32 (24 * x1)) + x4)) ((jUp m 112 (w32 ((w32 (24 * x1)) + x4)) (m 120 x4)) 121 x4)) 122 x4)) 123 x4)) 124 x4)) 117 (w32 ((w32 (24 * x1)) + x4)) ((jUp (jUp (jUp (jUp (jUp m 112 (w32 ((w32 (24 * x1)) + x4)) (m 120 x4)) 113 (w32 ((w32 (24 * x1)) + x4)) ((jUp m 112 (w32 ((w32 (24 * x1)) + x4)) (m 120 x4)) 121 x4)) 114 (w32 ((w32 (24 * x1)) + x4)) ((jUp (jUp m 112 (w32 ((w32 (24 * x1)) + x4)) (m 120 x4)) 113 (w32 ((w32 (24 * x1)) + x4)) ((jUp m 112 (w32 ((w32 (24 * x1)) + x4)) (m 120 x4)) 121 x4)) 122 x4)) 115 (w32 ((w32 (24 * x1)) + x4)) ((jUp (jUp (jUp m 112 (w32 ((w32 (24 * x1)) + x4)) (m 120 x4)) 113 (w32 ((w32 (24 * x1)) + x4)) ((jUp m 112 (w32 ((w32 (24 * x1)) + x4)) (m 120 x4)) 121 x4)) 114 (w32 ((w32 (24 * x1)) + x4)) ((jUp (jUp m 112 (w32 ((w32 (24 * x1)) + x4)) (m 120 x4)) 113 (w32 ((w32 (24 * x1)) + x4)) ((jUp m 112 (w32 ((w32 (24 * x1)) + x4)) (m 120 x4)) 121 x4)) 122 x4)) 123 x4)) 116 (w32 ((w32 (24 * x1)) + x4)) ((jUp (jUp (jUp (jUp m 112 (w32 ((w32 (24 * x1)) + x4)) (m 120 x4)) 113 (w32 ((w32 (24 * x1)) + x4)) ((jUp m 112 (w32 ((w32 (24 * x1)) + x4)) (m 120 x4)) 121 x4)) 114 (w32 ((w32 (24 * x1)) + x4)) ((jUp (jUp m 112 (w32 ((w32 (24 * x1)) + x4)) (m 120 x4)) 113 (w32 ((w32 (24 * x1)) + x4)) ((jUp m 112 (w32 ((w32 (24 * x1)) + x4)) (m 120 x4)) 121 x4)) 122 x4)) 115 (w32 ((w32 (24 * x1)) + x4)) ((jUp (jUp (jUp m 112 (w32 ((w32 (24 * x1)) + x4)) (m 120 x4)) 113 (w32 ((w32 (24 * x1)) + x4)) ((jUp m 112 (w32 ((w32 (24 * x1)) + x4)) (m 120 x4)) 121 x4)) 114 (w32 ((w32 (24 * x1)) + x4)) ((jUp (jUp m 112 (w32 ((w32 (24 * x1)) + x4)) (m 120 x4)) 113 (w32 ((w32 (24 * x1)) + x4)) ((jUp m 112 (w32 ((w32 (24 * x1)) + x4)) (m 120 x4)) 121 x4)) 122 x4)) 123 x4)) 124 x4)) 125 x4)) 126 x4)) Q) ∧ (¬ x4 < (m 104 24) → Q (m 104 24) m)) :
    aX11_text_211 d x1 x4 m Q := jWp_snd [(77, [true, true, true, true, false, false]), (97, [true, true, true, true, false, false]), (211, [true, true, false, false, true, false])] jcX11_text 69 rfl h
def aX11_empty_31 (d : Nat) (x1 x2 x3 : Int) (m : jM) (Q : Int → jM → Prop) : Prop := jA (d + 1) zX11_empty 31 [some (jO 11 104), some (jI x1), some (jI x2), some (jI x3)] [] m Q
set_option maxRecDepth 100000 in
theorem gX11_empty (d : Nat) (x1 : Int) (m : jM) (Q : Int → jM → Prop)
    (h : jK d zX11_in [jL x1, jL 0, jL 3] m (fun v1 m1 => (v1 = 0 → Q (-2) m1) ∧ (¬ v1 = 0 → ((0 : Int) ≤ x1 ∧ (x1 : Int) < 4) ∧ ((0 : Int) ≤ x1 ∧ (x1 : Int) < 4) ∧ aX11_empty_31 d x1 (m1 109 x1) 0 (jUp m1 109 x1 0) Q))) :
    jK (d + 1) zX11_empty [jO 11 104, jI x1] m Q := jWp_sn0 [(31, [true, true, true, true])] jcX11_empty 19 rfl h
set_option maxRecDepth 100000 in
theorem gX11_empty_31 (d : Nat) (x1 x2 x3 : Int) (m : jM) (Q : Int → jM → Prop)
    (h : (x3 < 4 → ((0 : Int) ≤ (w32 ((w32 (4 * x1)) + x3)) ∧ ((w32 ((w32 (4 * x1)) + x3)) : Int) < 16) ∧ aX11_empty_31 d x1 x2 (w32 (x3 + 1)) (jUp m 111 (w32 ((w32 (4 * x1)) + x3)) 0) Q) ∧ (¬ x3 < 4 → Q x2 m)) :
    aX11_empty_31 d x1 x2 x3 m Q := jWp_snd [(31, [true, true, true, true])] jcX11_empty 15 rfl h
def aX11_told_76 (d : Nat) (x1 x3 x4 : Int) (m : jM) (Q : Int → jM → Prop) : Prop := jA (d + 1) zX11_told 76 [some (jO 11 104), some (jI x1), none, some (jI x3), some (jI x4)] [] m Q
set_option maxRecDepth 100000 in
theorem gX11_told (d : Nat) (x1 x2 : Int) (m : jM) (Q : Int → jM → Prop)
    (h : jK d zX11_in [jL x1, jL 0, jL 3] m (fun v1 m1 => (v1 = 0 → Q (-2) m1) ∧ (¬ v1 = 0 → jK d zX11_in [jL x2, jL 0, jL 4] m1 (fun v2 m2 => (v2 = 0 → Q (-2) m2) ∧ (¬ v2 = 0 → (x2 = 0 → ((0 : Int) ≤ x1 ∧ (x1 : Int) < 4) ∧ Q (m2 109 x1) m2) ∧ (¬ x2 = 0 → (x2 = 1 → jK d zX11_weight [jO 11 104, jI x1] m2 (fun v3 m3 => Q v3 m3)) ∧ (¬ x2 = 1 → (x2 = 2 → jK d zX11_names [jO 11 104, jI x1] m2 (fun v4 m4 => Q v4 m4)) ∧ (¬ x2 = 2 → (x2 = 4 → jK d zX11_comesTo [jO 11 104, jI x1] m2 (fun v5 m5 => Q v5 m5)) ∧ (¬ x2 = 4 → aX11_told_76 d x1 0 0 m2 Q))))))))) :
    jK (d + 1) zX11_told [jO 11 104, jI x1, jI x2] m Q := jWp_sn0 [(76, [true, true, false, true, true])] jcX11_told 28 rfl h
set_option maxRecDepth 100000 in
theorem gX11_told_76 (d : Nat) (x1 x3 x4 : Int) (m : jM) (Q : Int → jM → Prop)
    (h : (x4 < 4 → ((0 : Int) ≤ (w32 ((w32 (4 * x4)) + x1)) ∧ ((w32 ((w32 (4 * x4)) + x1)) : Int) < 16) ∧ (0 < (m 111 (w32 ((w32 (4 * x4)) + x1))) → aX11_told_76 d x1 (iOr x3 (iShl 1 x4)) (w32 (x4 + 1)) m Q) ∧ (¬ 0 < (m 111 (w32 ((w32 (4 * x4)) + x1))) → aX11_told_76 d x1 x3 (w32 (x4 + 1)) m Q)) ∧ (¬ x4 < 4 → Q x3 m)) :
    aX11_told_76 d x1 x3 x4 m Q := jWp_snd [(76, [true, true, false, true, true])] jcX11_told 21 rfl h
set_option maxRecDepth 100000 in
theorem gX11_fails (d : Nat) (x1 x2 x3 : Int) (m : jM) (Q : Int → jM → Prop)
    (h : ((0 : Int) ≤ x3 ∧ (x3 : Int) < 96) ∧ Q 0 (jUp (jUp (jUp (jUp (jUp m 104 33 x1) 104 34 ((jUp m 104 33 x1) 118 x3)) 104 35 1) 104 36 x2) 104 37 (-1))) :
    jK (d + 1) zX11_fails [jO 11 104, jI x1, jI x2, jI x3] m Q := jWp_sn0 [] jcX11_fails 21 rfl h
set_option maxRecDepth 100000 in
theorem gX11_valueOf (d : Nat) (x1 : Int) (m : jM) (Q : Int → jM → Prop)
    (h : ((0 : Int) ≤ x1 ∧ (x1 : Int) < 4) ∧ ((m 109 x1) = 0 → Q 0 m) ∧ (¬ (m 109 x1) = 0 → ((0 : Int) ≤ x1 ∧ (x1 : Int) < 4) ∧ jK d zX11_valueOf_ [jO 11 104, jI x1, jI (m 110 x1)] m (fun v1 m1 => Q v1 m1))) :
    jK (d + 1) zX11_valueOf [jO 11 104, jI x1] m Q := jWp_sn0 [] jcX11_valueOf 14 rfl h
set_option maxRecDepth 100000 in
theorem gX11_named (d : Nat) (x1 x2 : Int) (m : jM) (Q : Int → jM → Prop)
    (h : jK d zX11_valueOf [jO 11 104, jI x2] m (fun v1 m1 => ((m1 104 33) = 0 → Q v1 m1) ∧ (¬ (m1 104 33) = 0 → ((m1 104 35) = 1 → Q v1 (jUp (jUp m1 104 37 x1) 104 35 (w32 (((jUp m1 104 37 x1) 104 35) + 1)))) ∧ (¬ (m1 104 35) = 1 → Q v1 (jUp m1 104 35 (w32 ((m1 104 35) + 1))))))) :
    jK (d + 1) zX11_named [jO 11 104, jI x1, jI x2] m Q := jWp_sn0 [] jcX11_named 23 rfl h
set_option maxRecDepth 100000 in
theorem gX11_limited (d : Nat) (x1 x3 x4 : Int) (m : jM) (Q : Int → jM → Prop)
    (h : jK d zX11_in [jL x1, jL (-1000000000), jL 1000000000] m (fun v1 m1 => (v1 = 0 → jK d zX11_fails [jO 11 104, jI 2, jI x3, jI x4] m1 (fun v2 m2 => Q v2 m2)) ∧ (¬ v1 = 0 → Q x1 m1))) :
    jK (d + 1) zX11_limited [jO 11 104, jL x1, jI x3, jI x4] m Q := jWp_sn0 [] jcX11_limited 12 rfl h
set_option maxRecDepth 100000 in
theorem gX11_valueOf_ (d : Nat) (x1 x2 : Int) (m : jM) (Q : Int → jM → Prop)
    (h : ((0 : Int) ≤ (w32 ((w32 (24 * x1)) + x2)) ∧ ((w32 ((w32 (24 * x1)) + x2)) : Int) < 96) ∧ ((m 112 (w32 ((w32 (24 * x1)) + x2))) = 0 → ((0 : Int) ≤ (w32 ((w32 (24 * x1)) + x2)) ∧ ((w32 ((w32 (24 * x1)) + x2)) : Int) < 96) ∧ Q (m 113 (w32 ((w32 (24 * x1)) + x2))) m) ∧ (¬ (m 112 (w32 ((w32 (24 * x1)) + x2))) = 0 → ((m 112 (w32 ((w32 (24 * x1)) + x2))) = 1 → ((0 : Int) ≤ (w32 ((w32 (24 * x1)) + x2)) ∧ ((w32 ((w32 (24 * x1)) + x2)) : Int) < 96) ∧ ((m 113 (w32 ((w32 (24 * x1)) + x2))) < 3 → ((0 : Int) ≤ (w32 ((w32 (24 * x1)) + x2)) ∧ ((w32 ((w32 (24 * x1)) + x2)) : Int) < 96) ∧ ((0 : Int) ≤ (w32 ((w32 (3 * (m 104 38))) + (m 113 (w32 ((w32 (24 * x1)) + x2))))) ∧ ((w32 ((w32 (3 * (m 104 38))) + (m 113 (w32 ((w32 (24 * x1)) + x2))))) : Int) < 48) ∧ Q (m 106 (w32 ((w32 (3 * (m 104 38))) + (m 113 (w32 ((w32 (24 * x1)) + x2)))))) m) ∧ (¬ (m 113 (w32 ((w32 (24 * x1)) + x2))) < 3 → ((0 : Int) ≤ (w32 ((w32 (24 * x1)) + x2)) ∧ ((w32 ((w32 (24 * x1)) + x2)) : Int) < 96) ∧ ((0 : Int) ≤ (w32 ((w32 ((w32 (3 * (w32 (8 + (m 104 39))))) + (m 113 (w32 ((w32 (24 * x1)) + x2))))) - 3)) ∧ ((w32 ((w32 ((w32 (3 * (w32 (8 + (m 104 39))))) + (m 113 (w32 ((w32 (24 * x1)) + x2))))) - 3)) : Int) < 48) ∧ Q (m 106 (w32 ((w32 ((w32 (3 * (w32 (8 + (m 104 39))))) + (m 113 (w32 ((w32 (24 * x1)) + x2))))) - 3))) m)) ∧ (¬ (m 112 (w32 ((w32 (24 * x1)) + x2))) = 1 → ((m 112 (w32 ((w32 (24 * x1)) + x2))) = 2 → ((0 : Int) ≤ (w32 ((w32 (24 * x1)) + x2)) ∧ ((w32 ((w32 (24 * x1)) + x2)) : Int) < 96) ∧ jK d zX11_named [jO 11 104, jI x1, jI (m 113 (w32 ((w32 (24 * x1)) + x2)))] m (fun v1 m1 => Q v1 m1)) ∧ (¬ (m 112 (w32 ((w32 (24 * x1)) + x2))) = 2 → ((0 : Int) ≤ (w32 ((w32 (24 * x1)) + x2)) ∧ ((w32 ((w32 (24 * x1)) + x2)) : Int) < 96) ∧ jK d zX11_valueOf_ [jO 11 104, jI x1, jI (m 114 (w32 ((w32 (24 * x1)) + x2)))] m (fun v2 m2 => ((m2 104 33) = 0 → ((m 112 (w32 ((w32 (24 * x1)) + x2))) = 6 → jK d zX11_limited [jO 11 104, jL (w64 (-v2)), jI x1, jI (w32 ((w32 (24 * x1)) + x2))] m2 (fun v3 m3 => Q v3 m3)) ∧ (¬ (m 112 (w32 ((w32 (24 * x1)) + x2))) = 6 → ((m 112 (w32 ((w32 (24 * x1)) + x2))) = 7 → (v2 < 0 → Q (w64 (-v2)) m2) ∧ (¬ v2 < 0 → Q v2 m2)) ∧ (¬ (m 112 (w32 ((w32 (24 * x1)) + x2))) = 7 → ((0 : Int) ≤ (w32 ((w32 (24 * x1)) + x2)) ∧ ((w32 ((w32 (24 * x1)) + x2)) : Int) < 96) ∧ jK d zX11_valueOf_ [jO 11 104, jI x1, jI (m2 115 (w32 ((w32 (24 * x1)) + x2)))] m2 (fun v4 m4 => ((m4 104 33) = 0 → ((m 112 (w32 ((w32 (24 * x1)) + x2))) = 12 → (v2 < v4 → ((0 : Int) ≤ (w32 ((w32 (24 * x1)) + x2)) ∧ ((w32 ((w32 (24 * x1)) + x2)) : Int) < 96) ∧ jK d zX11_valueOf_ [jO 11 104, jI x1, jI (m4 116 (w32 ((w32 (24 * x1)) + x2)))] m4 (fun v5 m5 => Q v5 m5)) ∧ (¬ v2 < v4 → ((0 : Int) ≤ (w32 ((w32 (24 * x1)) + x2)) ∧ ((w32 ((w32 (24 * x1)) + x2)) : Int) < 96) ∧ jK d zX11_valueOf_ [jO 11 104, jI x1, jI (m4 117 (w32 ((w32 (24 * x1)) + x2)))] m4 (fun v6 m6 => Q v6 m6))) ∧ (¬ (m 112 (w32 ((w32 (24 * x1)) + x2))) = 12 → ((m 112 (w32 ((w32 (24 * x1)) + x2))) = 3 → jK d zX11_limited [jO 11 104, jL (w64 (v2 + v4)), jI x1, jI (w32 ((w32 (24 * x1)) + x2))] m4 (fun v7 m7 => Q v7 m7)) ∧ (¬ (m 112 (w32 ((w32 (24 * x1)) + x2))) = 3 → ((m 112 (w32 ((w32 (24 * x1)) + x2))) = 4 → jK d zX11_limited [jO 11 104, jL (w64 (v2 - v4)), jI x1, jI (w32 ((w32 (24 * x1)) + x2))] m4 (fun v8 m8 => Q v8 m8)) ∧ (¬ (m 112 (w32 ((w32 (24 * x1)) + x2))) = 4 → ((m 112 (w32 ((w32 (24 * x1)) + x2))) = 5 → jK d zX11_limited [jO 11 104, jL (w64 (v2 * v4)), jI x1, jI (w32 ((w32 (24 * x1)) + x2))] m4 (fun v9 m9 => Q v9 m9)) ∧ (¬ (m 112 (w32 ((w32 (24 * x1)) + x2))) = 5 → ((m 112 (w32 ((w32 (24 * x1)) + x2))) = 8 → (v2 < v4 → Q v2 m4) ∧ (¬ v2 < v4 → Q v4 m4)) ∧ (¬ (m 112 (w32 ((w32 (24 * x1)) + x2))) = 8 → ((m 112 (w32 ((w32 (24 * x1)) + x2))) = 9 → (v2 < v4 → Q v4 m4) ∧ (¬ v2 < v4 → Q v2 m4)) ∧ (¬ (m 112 (w32 ((w32 (24 * x1)) + x2))) = 9 → (v4 = 0 → jK d zX11_fails [jO 11 104, jI 1, jI x1, jI (w32 ((w32 (24 * x1)) + x2))] m4 (fun v10 m10 => Q v10 m10)) ∧ (¬ v4 = 0 → ((m 112 (w32 ((w32 (24 * x1)) + x2))) = 10 → jK d zJ9_floorDiv_f86c9 [jL v2, jL v4] m4 (fun v11 m11 => Q v11 m11)) ∧ (¬ (m 112 (w32 ((w32 (24 * x1)) + x2))) = 10 → jK d zJ9_floorMod_f86c9 [jL v2, jL v4] m4 (fun v12 m12 => Q v12 m12)))))))))) ∧ (¬ (m4 104 33) = 0 → Q 0 m4))))) ∧ (¬ (m2 104 33) = 0 → Q 0 m2)))))) :
    jK (d + 1) zX11_valueOf_ [jO 11 104, jI x1, jI x2] m Q := jWp_sn0 [] jcX11_valueOf_ 77 rfl h
set_option maxRecDepth 100000 in
theorem gX11_asked (d : Nat) (x1 x2 x3 : Int) (m : jM) (Q : Int → jM → Prop)
    (h : jK d zX11_valueOf [jO 11 104, jI x1] (jUp (jUp (jUp m 104 33 0) 104 38 x2) 104 39 x3) (fun v1 m1 => Q v1 m1)) :
    jK (d + 1) zX11_asked [jO 11 104, jI x1, jI x2, jI x3] m Q := jWp_sn0 [] jcX11_asked 14 rfl h
set_option maxRecDepth 100000 in
theorem gX11_value (d : Nat) (x1 x2 x3 : Int) (m : jM) (Q : Int → jM → Prop)
    (h : jK d zX11_in [jL x1, jL 0, jL 3] m (fun v1 m1 => (v1 = 0 → Q (-4611686018427387904) m1) ∧ (¬ v1 = 0 → jK d zX11_isPair [jI x2, jI x3] m1 (fun v2 m2 => (v2 = 0 → Q (-4611686018427387904) m2) ∧ (¬ v2 = 0 → jK d zX11_asked [jO 11 104, jI x1, jI x2, jI x3] m2 (fun v3 m3 => ((m3 104 33) = 0 → Q v3 m3) ∧ (¬ (m3 104 33) = 0 → Q (-4611686018427387904) m3))))))) :
    jK (d + 1) zX11_value [jO 11 104, jI x1, jI x2, jI x3] m Q := jWp_sn0 [] jcX11_value 23 rfl h
set_option maxRecDepth 100000 in
theorem gX11_why (d : Nat) (x1 x2 x3 : Int) (m : jM) (Q : Int → jM → Prop)
    (h : jK d zX11_isPair [jI x1, jI x2] m (fun v1 m1 => (v1 = 0 → Q (-2) m1) ∧ (¬ v1 = 0 → jK d zX11_in [jL x3, jL 0, jL 4] m1 (fun v2 m2 => (v2 = 0 → Q (-2) m2) ∧ (¬ v2 = 0 → jK d zX11_asked [jO 11 104, jI 0, jI x1, jI x2] m2 (fun v3 m3 => (x3 = 0 → Q (m3 104 33) m3) ∧ (¬ x3 = 0 → ((m3 104 33) = 0 → Q (-1) m3) ∧ (¬ (m3 104 33) = 0 → (x3 = 1 → Q (m3 104 34) m3) ∧ (¬ x3 = 1 → (x3 = 2 → Q (m3 104 35) m3) ∧ (¬ x3 = 2 → (x3 = 3 → Q (m3 104 36) m3) ∧ (¬ x3 = 3 → Q (m3 104 37) m3))))))))))) :
    jK (d + 1) zX11_why [jO 11 104, jI x1, jI x2, jI x3] m Q := jWp_sn0 [] jcX11_why 35 rfl h
set_option maxRecDepth 100000 in
theorem gX11_burdenOf (d : Nat) (x1 x2 : Int) (m : jM) (Q : Int → jM → Prop)
    (h : ((0 : Int) ≤ (w32 ((w32 (8 * x1)) + x2)) ∧ ((w32 ((w32 (8 * x1)) + x2)) : Int) < 64) ∧ ((m 107 (w32 ((w32 (8 * x1)) + x2))) = (-1) → jK d zX11_asked [jO 11 104, jI 0, jI x1, jI x2] m (fun v1 m1 => ((m1 104 33) = 0 → (v1 < 0 → Q 0 m1) ∧ (¬ v1 < 0 → Q v1 m1)) ∧ (¬ (m1 104 33) = 0 → Q (-1) m1))) ∧ (¬ (m 107 (w32 ((w32 (8 * x1)) + x2))) = (-1) → Q (m 107 (w32 ((w32 (8 * x1)) + x2))) m)) :
    jK (d + 1) zX11_burdenOf [jO 11 104, jI x1, jI x2] m Q := jWp_sn0 [] jcX11_burdenOf 28 rfl h
def aX11_forcedOf_5 (d : Nat) (n0 y0 x1 x2 x3 x4 : Int) (m : jM) (Q : Int → jM → Prop) : Prop := jA (d + 1) zX11_forcedOf 5 [some (jY 0 n0 y0), some (jI x1), some (jI x2), some (jI x3), some (jI x4)] [] m Q
def aX11_forcedOf_34 (d : Nat) (n0 y0 x1 x2 x3 x4 : Int) (m : jM) (Q : Int → jM → Prop) : Prop := jA (d + 1) zX11_forcedOf 34 [some (jY 0 n0 y0), some (jI x1), some (jI x2), some (jI x3), some (jI x4)] [] m Q
set_option maxRecDepth 100000 in
theorem gX11_forcedOf (d : Nat) (n0 y0 x1 x2 : Int) (m : jM) (Q : Int → jM → Prop)
    (h : aX11_forcedOf_5 d n0 y0 x1 x2 0 0 m Q) :
    jK (d + 1) zX11_forcedOf [jY 0 n0 y0, jI x1, jI x2] m Q := jWp_sn0 [(5, [true, true, true, true, true]), (34, [true, true, true, true, true])] jcX11_forcedOf 5 rfl h
set_option maxRecDepth 100000 in
theorem gX11_forcedOf_5 (d : Nat) (n0 y0 x1 x2 x3 x4 : Int) (m : jM) (Q : Int → jM → Prop)
    (h : (x4 < 8 → (x4 = x2 → aX11_forcedOf_34 d n0 y0 x1 x2 x3 x4 m Q) ∧ (¬ x4 = x2 → ((0 : Int) ≤ (w32 ((w32 (8 * x1)) + x4)) ∧ ((w32 ((w32 (8 * x1)) + x4)) : Int) < n0) ∧ ((m y0 (w32 ((w32 (8 * x1)) + x4))) = 2 → aX11_forcedOf_34 d n0 y0 x1 x2 (w32 (x3 + 1)) x4 m Q) ∧ (¬ (m y0 (w32 ((w32 (8 * x1)) + x4))) = 2 → aX11_forcedOf_34 d n0 y0 x1 x2 x3 x4 m Q))) ∧ (¬ x4 < 8 → Q x3 m)) :
    aX11_forcedOf_5 d n0 y0 x1 x2 x3 x4 m Q := jWp_snd [(5, [true, true, true, true, true]), (34, [true, true, true, true, true])] jcX11_forcedOf 17 rfl h
set_option maxRecDepth 100000 in
theorem gX11_forcedOf_34 (d : Nat) (n0 y0 x1 x2 x3 x4 : Int) (m : jM) (Q : Int → jM → Prop)
    (h : (x4 = x1 → aX11_forcedOf_5 d n0 y0 x1 x2 x3 (w32 (x4 + 1)) m Q) ∧ (¬ x4 = x1 → ((0 : Int) ≤ (w32 ((w32 (8 * x4)) + x2)) ∧ ((w32 ((w32 (8 * x4)) + x2)) : Int) < n0) ∧ ((m y0 (w32 ((w32 (8 * x4)) + x2))) = 2 → aX11_forcedOf_5 d n0 y0 x1 x2 (w32 (x3 + 1)) (w32 (x4 + 1)) m Q) ∧ (¬ (m y0 (w32 ((w32 (8 * x4)) + x2))) = 2 → aX11_forcedOf_5 d n0 y0 x1 x2 x3 (w32 (x4 + 1)) m Q))) :
    aX11_forcedOf_34 d n0 y0 x1 x2 x3 x4 m Q := jWp_snd [(5, [true, true, true, true, true]), (34, [true, true, true, true, true])] jcX11_forcedOf 16 rfl h
set_option maxRecDepth 100000 in
theorem gX11_isOpen (d : Nat) (n1 y1 x2 x3 : Int) (m : jM) (Q : Int → jM → Prop)
    (h : jK d zX11_isJudge [jO 11 104, jI x2] m (fun v1 m1 => (v1 = 0 → Q 0 m1) ∧ (¬ v1 = 0 → jK d zX11_isCase [jO 11 104, jI x3] m1 (fun v2 m2 => (v2 = 0 → Q 0 m2) ∧ (¬ v2 = 0 → ((0 : Int) ≤ (w32 ((w32 (8 * x2)) + x3)) ∧ ((w32 ((w32 (8 * x2)) + x3)) : Int) < 64) ∧ ((m2 128 (w32 ((w32 (8 * x2)) + x3))) = (-1) → Q 0 m2) ∧ (¬ (m2 128 (w32 ((w32 (8 * x2)) + x3))) = (-1) → ((0 : Int) ≤ (w32 ((w32 (8 * x2)) + x3)) ∧ ((w32 ((w32 (8 * x2)) + x3)) : Int) < n1) ∧ ((m2 y1 (w32 ((w32 (8 * x2)) + x3))) = 1 → Q 0 m2) ∧ (¬ (m2 y1 (w32 ((w32 (8 * x2)) + x3))) = 1 → jK d zX11_forcedOf [jY 0 n1 y1, jI x2, jI x3] m2 (fun v3 m3 => (v3 = 0 → Q 1 m3) ∧ (¬ v3 = 0 → Q 0 m3))))))))) :
    jK (d + 1) zX11_isOpen [jO 11 104, jY 0 n1 y1, jI x2, jI x3] m Q := jWp_sn0 [] jcX11_isOpen 34 rfl h
def aX11_tellsBurdens_2 (d : Nat) (x1 : Int) (m : jM) (Q : Int → jM → Prop) : Prop := jA (d + 1) zX11_tellsBurdens 2 [some (jO 11 104), some (jI x1)] [] m Q
set_option maxRecDepth 100000 in
theorem gX11_tellsBurdens (d : Nat) (m : jM) (Q : Int → jM → Prop)
    (h : aX11_tellsBurdens_2 d 0 m Q) :
    jK (d + 1) zX11_tellsBurdens [jO 11 104] m Q := jWp_sn0 [(2, [true, true])] jcX11_tellsBurdens 3 rfl h
set_option maxRecDepth 100000 in
theorem gX11_tellsBurdens_2 (d : Nat) (x1 : Int) (m : jM) (Q : Int → jM → Prop)
    (h : (x1 < 64 → (8 : Int) ≠ 0 ∧ (8 : Int) ≠ 0 ∧ jK d zX11_burdenOf [jO 11 104, jI (iDiv x1 8), jI (iRem x1 8)] m (fun v1 m1 => ((0 : Int) ≤ x1 ∧ (x1 : Int) < 64) ∧ aX11_tellsBurdens_2 d (w32 (x1 + 1)) (jUp m1 128 x1 v1) Q)) ∧ (¬ x1 < 64 → Q 0 m)) :
    aX11_tellsBurdens_2 d x1 m Q := jWp_snd [(2, [true, true])] jcX11_tellsBurdens 18 rfl h
def aX11_opens__2 (d : Nat) (n1 y1 x2 : Int) (m : jM) (Q : Int → jM → Prop) : Prop := jA (d + 1) zX11_opens_ 2 [some (jO 11 104), some (jY 0 n1 y1), some (jI x2)] [] m Q
set_option maxRecDepth 100000 in
theorem gX11_opens_ (d : Nat) (n1 y1 : Int) (m : jM) (Q : Int → jM → Prop)
    (h : aX11_opens__2 d n1 y1 0 m Q) :
    jK (d + 1) zX11_opens_ [jO 11 104, jY 0 n1 y1] m Q := jWp_sn0 [(2, [true, true, true])] jcX11_opens_ 3 rfl h
set_option maxRecDepth 100000 in
theorem gX11_opens__2 (d : Nat) (n1 y1 x2 : Int) (m : jM) (Q : Int → jM → Prop)
    (h : (x2 < 64 → (8 : Int) ≠ 0 ∧ (8 : Int) ≠ 0 ∧ jK d zX11_isOpen [jO 11 104, jY 0 n1 y1, jI (iDiv x2 8), jI (iRem x2 8)] m (fun v1 m1 => (v1 = 0 → ((0 : Int) ≤ x2 ∧ (x2 : Int) < 64) ∧ aX11_opens__2 d n1 y1 (w32 (x2 + 1)) (jUp m1 129 x2 (-1)) Q) ∧ (¬ v1 = 0 → ((0 : Int) ≤ x2 ∧ (x2 : Int) < 64) ∧ ((0 : Int) ≤ x2 ∧ (x2 : Int) < 64) ∧ aX11_opens__2 d n1 y1 (w32 (x2 + 1)) (jUp m1 129 x2 (m1 128 x2)) Q))) ∧ (¬ x2 < 64 → Q 0 m)) :
    aX11_opens__2 d n1 y1 x2 m Q := jWp_snd [(2, [true, true, true])] jcX11_opens_ 25 rfl h
set_option maxRecDepth 100000 in
theorem gX11_costs (d : Nat) (m : jM) (Q : Int → jM → Prop)
    (h : jK d zX11_tellsBurdens [jO 11 104] m (fun v1 m1 => jK d zX11_opens_ [jO 11 104, jY 0 64 108] m1 (fun v2 m2 => Q 0 m2))) :
    jK (d + 1) zX11_costs [jO 11 104] m Q := jWp_sn0 [] jcX11_costs 8 rfl h
set_option maxRecDepth 100000 in
theorem gX11_burden (d : Nat) (x1 x2 : Int) (m : jM) (Q : Int → jM → Prop)
    (h : jK d zX11_isPair [jI x1, jI x2] m (fun v1 m1 => (v1 = 0 → Q (-4611686018427387904) m1) ∧ (¬ v1 = 0 → jK d zX11_burdenOf [jO 11 104, jI x1, jI x2] m1 (fun v2 m2 => (v2 = (-1) → Q (-4611686018427387904) m2) ∧ (¬ v2 = (-1) → Q v2 m2))))) :
    jK (d + 1) zX11_burden [jO 11 104, jI x1, jI x2] m Q := jWp_sn0 [] jcX11_burden 16 rfl h
def aX11_mark_43 (d : Nat) (x1 x2 x3 : Int) (m : jM) (Q : Int → jM → Prop) : Prop := jA (d + 1) zX11_mark 43 [some (jO 11 104), some (jI x1), some (jI x2), some (jI x3), none] [] m Q
set_option maxRecDepth 100000 in
theorem gX11_mark (d : Nat) (x1 x2 x3 : Int) (m : jM) (Q : Int → jM → Prop)
    (h : jK d zX11_isPair [jI x1, jI x2] m (fun v1 m1 => (v1 = 0 → Q (-2) m1) ∧ (¬ v1 = 0 → jK d zX11_in [jL x3, jL 0, jL 2] m1 (fun v2 m2 => (v2 = 0 → Q (-2) m2) ∧ (¬ v2 = 0 → (x3 = 2 → jK d zX11_forcedOf [jY 0 64 108, jI x1, jI x2] m2 (fun v3 m3 => (0 < v3 → Q (-3) m3) ∧ (¬ 0 < v3 → aX11_mark_43 d x1 x2 x3 m3 Q))) ∧ (¬ x3 = 2 → aX11_mark_43 d x1 x2 x3 m2 Q)))))) :
    jK (d + 1) zX11_mark [jO 11 104, jI x1, jI x2, jI x3] m Q := jWp_sn0 [(43, [true, true, true, true, false])] jcX11_mark 22 rfl h
set_option maxRecDepth 100000 in
theorem gX11_mark_43 (d : Nat) (x1 x2 x3 : Int) (m : jM) (Q : Int → jM → Prop)
    (h : ((0 : Int) ≤ (w32 ((w32 (8 * x1)) + x2)) ∧ ((w32 ((w32 (8 * x1)) + x2)) : Int) < 64) ∧ ((0 : Int) ≤ (w32 ((w32 (8 * x1)) + x2)) ∧ ((w32 ((w32 (8 * x1)) + x2)) : Int) < 64) ∧ Q (m 108 (w32 ((w32 (8 * x1)) + x2))) (jUp m 108 (w32 ((w32 (8 * x1)) + x2)) x3)) :
    aX11_mark_43 d x1 x2 x3 m Q := jWp_snd [(43, [true, true, true, true, false])] jcX11_mark 21 rfl h
set_option maxRecDepth 100000 in
theorem gX11_open (d : Nat) (x1 x2 : Int) (m : jM) (Q : Int → jM → Prop)
    (h : jK d zX11_isPair [jI x1, jI x2] m (fun v1 m1 => (v1 = 0 → Q (-2) m1) ∧ (¬ v1 = 0 → jK d zX11_costs [jO 11 104] m1 (fun v2 m2 => ((0 : Int) ≤ (w32 ((w32 (8 * x1)) + x2)) ∧ ((w32 ((w32 (8 * x1)) + x2)) : Int) < 64) ∧ ((m2 129 (w32 ((w32 (8 * x1)) + x2))) = (-1) → Q 0 m2) ∧ (¬ (m2 129 (w32 ((w32 (8 * x1)) + x2))) = (-1) → Q 1 m2))))) :
    jK (d + 1) zX11_open [jO 11 104, jI x1, jI x2] m Q := jWp_sn0 [] jcX11_open 20 rfl h
def aX11_openMany_4 (d : Nat) (x1 x2 : Int) (m : jM) (Q : Int → jM → Prop) : Prop := jA (d + 1) zX11_openMany 4 [some (jO 11 104), some (jI x1), some (jI x2)] [] m Q
set_option maxRecDepth 100000 in
theorem gX11_openMany (d : Nat) (m : jM) (Q : Int → jM → Prop)
    (h : aX11_openMany_4 d 0 0 m Q) :
    jK (d + 1) zX11_openMany [jO 11 104] m Q := jWp_sn0 [(4, [true, true, true])] jcX11_openMany 5 rfl h
set_option maxRecDepth 100000 in
theorem gX11_openMany_4 (d : Nat) (x1 x2 : Int) (m : jM) (Q : Int → jM → Prop)
    (h : (x2 < 64 → ((0 : Int) ≤ x2 ∧ (x2 : Int) < 64) ∧ ((m 129 x2) = (-1) → aX11_openMany_4 d x1 (w32 (x2 + 1)) m Q) ∧ (¬ (m 129 x2) = (-1) → aX11_openMany_4 d (w32 (x1 + 1)) (w32 (x2 + 1)) m Q)) ∧ (¬ x2 < 64 → Q x1 m)) :
    aX11_openMany_4 d x1 x2 m Q := jWp_snd [(4, [true, true, true])] jcX11_openMany 13 rfl h
def aX11_least_2 (d : Nat) (x1 : Int) (m : jM) (Q : Int → jM → Prop) : Prop := jA (d + 1) zX11_least 2 [some (jO 11 104), some (jI x1), none, none, none, none, none, none] [] m Q
def aX11_least_40 (d : Nat) (x1 : Int) (m : jM) (Q : Int → jM → Prop) : Prop := jA (d + 1) zX11_least 40 [some (jO 11 104), some (jI x1), none, none, none, none, none, none] [] m Q
def aX11_least_46 (d : Nat) (x1 x2 : Int) (m : jM) (Q : Int → jM → Prop) : Prop := jA (d + 1) zX11_least 46 [some (jO 11 104), some (jI x1), some (jI x2), none, none, none, none, none] [] m Q
def aX11_least_122 (d : Nat) (x1 x2 x3 x4 : Int) (m : jM) (Q : Int → jM → Prop) : Prop := jA (d + 1) zX11_least 122 [some (jO 11 104), some (jI x1), some (jI x2), some (jI x3), some (jI x4), none, none, none] [] m Q
def aX11_least_251 (d : Nat) (x1 x2 x3 x4 x5 x6 : Int) (m : jM) (Q : Int → jM → Prop) : Prop := jA (d + 1) zX11_least 251 [some (jO 11 104), some (jI x1), some (jI x2), some (jI x3), some (jI x4), some (jI x5), some (jL x6), none] [] m Q
set_option maxRecDepth 100000 in
theorem gX11_least (d : Nat) (m : jM) (Q : Int → jM → Prop)
    (h : aX11_least_2 d 0 m Q) :
    jK (d + 1) zX11_least [jO 11 104] m Q := jWp_sn0 [(2, [true, true, false, false, false, false, false, false]), (40, [true, true, false, false, false, false, false, false]), (46, [true, true, true, false, false, false, false, false]), (122, [true, true, true, true, true, false, false, false]), (251, [true, true, true, true, true, true, true, false])] jcX11_least 3 rfl h
set_option maxRecDepth 100000 in
theorem gX11_least_2 (d : Nat) (x1 : Int) (m : jM) (Q : Int → jM → Prop)
    (h : (x1 < 256 → ((0 : Int) ≤ (w32 (2048 + x1)) ∧ ((w32 (2048 + x1)) : Int) < 2304) ∧ ((0 : Int) ≤ (w32 (2048 + x1)) ∧ ((w32 (2048 + x1)) : Int) < 2304) ∧ aX11_least_2 d (w32 (x1 + 1)) (jUp (jUp m 130 (w32 (2048 + x1)) 0) 131 (w32 (2048 + x1)) 1) Q) ∧ (¬ x1 < 256 → aX11_least_40 d 7 m Q)) :
    aX11_least_2 d x1 m Q := jWp_snd [(2, [true, true, false, false, false, false, false, false]), (40, [true, true, false, false, false, false, false, false]), (46, [true, true, true, false, false, false, false, false]), (122, [true, true, true, true, true, false, false, false]), (251, [true, true, true, true, true, true, true, false])] jcX11_least 20 rfl h
set_option maxRecDepth 100000 in
theorem gX11_least_40 (d : Nat) (x1 : Int) (m : jM) (Q : Int → jM → Prop)
    (h : (x1 < 0 → ((0 : Int) ≤ 0 ∧ (0 : Int) < 2304) ∧ Q (m 130 0) m) ∧ (¬ x1 < 0 → aX11_least_46 d x1 0 m Q)) :
    aX11_least_40 d x1 m Q := jWp_snd [(2, [true, true, false, false, false, false, false, false]), (40, [true, true, false, false, false, false, false, false]), (46, [true, true, true, false, false, false, false, false]), (122, [true, true, true, true, true, false, false, false]), (251, [true, true, true, true, true, true, true, false])] jcX11_least 8 rfl h
set_option maxRecDepth 100000 in
theorem gX11_least_46 (d : Nat) (x1 x2 : Int) (m : jM) (Q : Int → jM → Prop)
    (h : (x2 < 256 → jK d zX11_isCase [jO 11 104, jI x1] m (fun v1 m1 => (v1 = 0 → ((0 : Int) ≤ (w32 ((w32 ((w32 (x1 * 256)) + x2)) + 256)) ∧ ((w32 ((w32 ((w32 (x1 * 256)) + x2)) + 256)) : Int) < 2304) ∧ ((0 : Int) ≤ (w32 ((w32 (x1 * 256)) + x2)) ∧ ((w32 ((w32 (x1 * 256)) + x2)) : Int) < 2304) ∧ jK d zX11_isCase [jO 11 104, jI x1] (jUp m1 130 (w32 ((w32 (x1 * 256)) + x2)) (m1 130 (w32 ((w32 ((w32 (x1 * 256)) + x2)) + 256)))) (fun v2 m2 => (v2 = 0 → ((0 : Int) ≤ (w32 ((w32 ((w32 (x1 * 256)) + x2)) + 256)) ∧ ((w32 ((w32 ((w32 (x1 * 256)) + x2)) + 256)) : Int) < 2304) ∧ ((0 : Int) ≤ (w32 ((w32 (x1 * 256)) + x2)) ∧ ((w32 ((w32 (x1 * 256)) + x2)) : Int) < 2304) ∧ aX11_least_122 d x1 x2 (w32 ((w32 (x1 * 256)) + x2)) 0 (jUp m2 131 (w32 ((w32 (x1 * 256)) + x2)) (m2 131 (w32 ((w32 ((w32 (x1 * 256)) + x2)) + 256)))) Q) ∧ (¬ v2 = 0 → ((0 : Int) ≤ (w32 ((w32 (x1 * 256)) + x2)) ∧ ((w32 ((w32 (x1 * 256)) + x2)) : Int) < 2304) ∧ aX11_least_122 d x1 x2 (w32 ((w32 (x1 * 256)) + x2)) 0 (jUp m2 131 (w32 ((w32 (x1 * 256)) + x2)) 0) Q))) ∧ (¬ v1 = 0 → ((0 : Int) ≤ (w32 ((w32 (x1 * 256)) + x2)) ∧ ((w32 ((w32 (x1 * 256)) + x2)) : Int) < 2304) ∧ jK d zX11_isCase [jO 11 104, jI x1] (jUp m1 130 (w32 ((w32 (x1 * 256)) + x2)) 1125899906842624) (fun v3 m3 => (v3 = 0 → ((0 : Int) ≤ (w32 ((w32 ((w32 (x1 * 256)) + x2)) + 256)) ∧ ((w32 ((w32 ((w32 (x1 * 256)) + x2)) + 256)) : Int) < 2304) ∧ ((0 : Int) ≤ (w32 ((w32 (x1 * 256)) + x2)) ∧ ((w32 ((w32 (x1 * 256)) + x2)) : Int) < 2304) ∧ aX11_least_122 d x1 x2 (w32 ((w32 (x1 * 256)) + x2)) 0 (jUp m3 131 (w32 ((w32 (x1 * 256)) + x2)) (m3 131 (w32 ((w32 ((w32 (x1 * 256)) + x2)) + 256)))) Q) ∧ (¬ v3 = 0 → ((0 : Int) ≤ (w32 ((w32 (x1 * 256)) + x2)) ∧ ((w32 ((w32 (x1 * 256)) + x2)) : Int) < 2304) ∧ aX11_least_122 d x1 x2 (w32 ((w32 (x1 * 256)) + x2)) 0 (jUp m3 131 (w32 ((w32 (x1 * 256)) + x2)) 0) Q))))) ∧ (¬ x2 < 256 → aX11_least_40 d (w32 (x1 + (-1))) m Q)) :
    aX11_least_46 d x1 x2 m Q := jWp_snd [(2, [true, true, false, false, false, false, false, false]), (40, [true, true, false, false, false, false, false, false]), (46, [true, true, true, false, false, false, false, false]), (122, [true, true, true, true, true, false, false, false]), (251, [true, true, true, true, true, true, true, false])] jcX11_least 40 rfl h
set_option maxRecDepth 100000 in
theorem gX11_least_122 (d : Nat) (x1 x2 x3 x4 : Int) (m : jM) (Q : Int → jM → Prop)
    (h : (x4 < 8 → jK d zX11_isCase [jO 11 104, jI x1] m (fun v1 m1 => (v1 = 0 → aX11_least_46 d x1 (w32 (x2 + 1)) m1 Q) ∧ (¬ v1 = 0 → ((iAnd (iShr x2 x4) 1) = 1 → aX11_least_122 d x1 x2 x3 (w32 (x4 + 1)) m1 Q) ∧ (¬ (iAnd (iShr x2 x4) 1) = 1 → ((0 : Int) ≤ (w32 ((w32 (8 * x4)) + x1)) ∧ ((w32 ((w32 (8 * x4)) + x1)) : Int) < 64) ∧ ((m1 129 (w32 ((w32 (8 * x4)) + x1))) = (-1) → aX11_least_122 d x1 x2 x3 (w32 (x4 + 1)) m1 Q) ∧ (¬ (m1 129 (w32 ((w32 (8 * x4)) + x1))) = (-1) → ((0 : Int) ≤ (w32 ((w32 ((w32 (x1 + 1)) * 256)) + (iOr x2 (iShl 1 x4)))) ∧ ((w32 ((w32 ((w32 (x1 + 1)) * 256)) + (iOr x2 (iShl 1 x4)))) : Int) < 2304) ∧ ((m1 130 (w32 ((w32 ((w32 (x1 + 1)) * 256)) + (iOr x2 (iShl 1 x4))))) = 1125899906842624 → aX11_least_122 d x1 x2 x3 (w32 (x4 + 1)) m1 Q) ∧ (¬ (m1 130 (w32 ((w32 ((w32 (x1 + 1)) * 256)) + (iOr x2 (iShl 1 x4))))) = 1125899906842624 → ((0 : Int) ≤ (w32 ((w32 (8 * x4)) + x1)) ∧ ((w32 ((w32 (8 * x4)) + x1)) : Int) < 64) ∧ ((0 : Int) ≤ (w32 ((w32 ((w32 (x1 + 1)) * 256)) + (iOr x2 (iShl 1 x4)))) ∧ ((w32 ((w32 ((w32 (x1 + 1)) * 256)) + (iOr x2 (iShl 1 x4)))) : Int) < 2304) ∧ ((0 : Int) ≤ x3 ∧ (x3 : Int) < 2304) ∧ ((w64 ((m1 129 (w32 ((w32 (8 * x4)) + x1))) + (m1 130 (w32 ((w32 ((w32 (x1 + 1)) * 256)) + (iOr x2 (iShl 1 x4))))))) < (m1 130 x3) → ((0 : Int) ≤ x3 ∧ (x3 : Int) < 2304) ∧ ((0 : Int) ≤ x3 ∧ (x3 : Int) < 2304) ∧ aX11_least_251 d x1 x2 x3 x4 (w32 ((w32 ((w32 (x1 + 1)) * 256)) + (iOr x2 (iShl 1 x4)))) (w64 ((m1 129 (w32 ((w32 (8 * x4)) + x1))) + (m1 130 (w32 ((w32 ((w32 (x1 + 1)) * 256)) + (iOr x2 (iShl 1 x4))))))) (jUp (jUp m1 130 x3 (w64 ((m1 129 (w32 ((w32 (8 * x4)) + x1))) + (m1 130 (w32 ((w32 ((w32 (x1 + 1)) * 256)) + (iOr x2 (iShl 1 x4)))))))) 131 x3 0) Q) ∧ (¬ (w64 ((m1 129 (w32 ((w32 (8 * x4)) + x1))) + (m1 130 (w32 ((w32 ((w32 (x1 + 1)) * 256)) + (iOr x2 (iShl 1 x4))))))) < (m1 130 x3) → aX11_least_251 d x1 x2 x3 x4 (w32 ((w32 ((w32 (x1 + 1)) * 256)) + (iOr x2 (iShl 1 x4)))) (w64 ((m1 129 (w32 ((w32 (8 * x4)) + x1))) + (m1 130 (w32 ((w32 ((w32 (x1 + 1)) * 256)) + (iOr x2 (iShl 1 x4))))))) m1 Q))))))) ∧ (¬ x4 < 8 → aX11_least_46 d x1 (w32 (x2 + 1)) m Q)) :
    aX11_least_122 d x1 x2 x3 x4 m Q := jWp_snd [(2, [true, true, false, false, false, false, false, false]), (40, [true, true, false, false, false, false, false, false]), (46, [true, true, true, false, false, false, false, false]), (122, [true, true, true, true, true, false, false, false]), (251, [true, true, true, true, true, true, true, false])] jcX11_least 73 rfl h
set_option maxRecDepth 100000 in
theorem gX11_least_251 (d : Nat) (x1 x2 x3 x4 x5 x6 : Int) (m : jM) (Q : Int → jM → Prop)
    (h : ((0 : Int) ≤ x3 ∧ (x3 : Int) < 2304) ∧ (x6 = (m 130 x3) → ((0 : Int) ≤ x3 ∧ (x3 : Int) < 2304) ∧ ((0 : Int) ≤ x5 ∧ (x5 : Int) < 2304) ∧ ((0 : Int) ≤ x3 ∧ (x3 : Int) < 2304) ∧ aX11_least_122 d x1 x2 x3 (w32 (x4 + 1)) (jUp m 131 x3 (w32 ((m 131 x3) + (m 131 x5)))) Q) ∧ (¬ x6 = (m 130 x3) → aX11_least_122 d x1 x2 x3 (w32 (x4 + 1)) m Q)) :
    aX11_least_251 d x1 x2 x3 x4 x5 x6 m Q := jWp_snd [(2, [true, true, false, false, false, false, false, false]), (40, [true, true, false, false, false, false, false, false]), (46, [true, true, true, false, false, false, false, false]), (122, [true, true, true, true, true, false, false, false]), (251, [true, true, true, true, true, true, true, false])] jcX11_least 20 rfl h
set_option maxRecDepth 100000 in
theorem gX11_toldOr (d : Nat) (x0 : Int) (m : jM) (Q : Int → jM → Prop)
    (h : (x0 = 1125899906842624 → Q (-4611686018427387904) m) ∧ (¬ x0 = 1125899906842624 → Q x0 m)) :
    jK (d + 1) zX11_toldOr [jL x0] m Q := jWp_sn0 [] jcX11_toldOr 7 rfl h
def aX11_picks_7 (d : Nat) (x2 x3 x4 : Int) (m : jM) (Q : Int → jM → Prop) : Prop := jA (d + 1) zX11_picks 7 [some (jO 11 104), none, some (jI x2), some (jI x3), some (jI x4), none, none] [] m Q
def aX11_picks_25 (d : Nat) (x2 x3 x4 x5 : Int) (m : jM) (Q : Int → jM → Prop) : Prop := jA (d + 1) zX11_picks 25 [some (jO 11 104), none, some (jI x2), some (jI x3), some (jI x4), some (jI x5), none] [] m Q
def aX11_picks_196 (d : Nat) (x2 x3 x4 : Int) (m : jM) (Q : Int → jM → Prop) : Prop := jA (d + 1) zX11_picks 196 [some (jO 11 104), none, some (jI x2), some (jI x3), some (jI x4), none, none] [] m Q
set_option maxRecDepth 100000 in
theorem gX11_picks (d : Nat) (x1 : Int) (m : jM) (Q : Int → jM → Prop)
    (h : aX11_picks_7 d x1 0 0 m Q) :
    jK (d + 1) zX11_picks [jO 11 104, jI x1] m Q := jWp_sn0 [(7, [true, false, true, true, true, false, false]), (25, [true, false, true, true, true, true, false]), (196, [true, false, true, true, true, false, false])] jcX11_picks 7 rfl h
set_option maxRecDepth 100000 in
theorem gX11_picks_7 (d : Nat) (x2 x3 x4 : Int) (m : jM) (Q : Int → jM → Prop)
    (h : (x4 < 8 → ((0 : Int) ≤ x4 ∧ (x4 : Int) < 8) ∧ aX11_picks_25 d x2 x3 x4 0 (jUp m 132 x4 (-1)) Q) ∧ (¬ x4 < 8 → Q 0 m)) :
    aX11_picks_7 d x2 x3 x4 m Q := jWp_snd [(7, [true, false, true, true, true, false, false]), (25, [true, false, true, true, true, true, false]), (196, [true, false, true, true, true, false, false])] jcX11_picks 11 rfl h
set_option maxRecDepth 100000 in
theorem gX11_picks_25 (d : Nat) (x2 x3 x4 x5 : Int) (m : jM) (Q : Int → jM → Prop)
    (h : (x5 < 8 → jK d zX11_isCase [jO 11 104, jI x4] m (fun v1 m1 => (v1 = 0 → aX11_picks_196 d x2 x3 x4 m1 Q) ∧ (¬ v1 = 0 → ((0 : Int) ≤ x4 ∧ (x4 : Int) < 8) ∧ ((m1 132 x4) = (-1) → ((iAnd (iShr x3 x5) 1) = 1 → aX11_picks_25 d x2 x3 x4 (w32 (x5 + 1)) m1 Q) ∧ (¬ (iAnd (iShr x3 x5) 1) = 1 → ((0 : Int) ≤ (w32 ((w32 (8 * x5)) + x4)) ∧ ((w32 ((w32 (8 * x5)) + x4)) : Int) < 64) ∧ ((m1 129 (w32 ((w32 (8 * x5)) + x4))) = (-1) → aX11_picks_25 d x2 x3 x4 (w32 (x5 + 1)) m1 Q) ∧ (¬ (m1 129 (w32 ((w32 (8 * x5)) + x4))) = (-1) → ((0 : Int) ≤ (w32 ((w32 ((w32 (x4 + 1)) * 256)) + (iOr x3 (iShl 1 x5)))) ∧ ((w32 ((w32 ((w32 (x4 + 1)) * 256)) + (iOr x3 (iShl 1 x5)))) : Int) < 2304) ∧ ((m1 130 (w32 ((w32 ((w32 (x4 + 1)) * 256)) + (iOr x3 (iShl 1 x5))))) = 1125899906842624 → aX11_picks_25 d x2 x3 x4 (w32 (x5 + 1)) m1 Q) ∧ (¬ (m1 130 (w32 ((w32 ((w32 (x4 + 1)) * 256)) + (iOr x3 (iShl 1 x5))))) = 1125899906842624 → ((0 : Int) ≤ (w32 ((w32 (8 * x5)) + x4)) ∧ ((w32 ((w32 (8 * x5)) + x4)) : Int) < 64) ∧ ((0 : Int) ≤ (w32 ((w32 ((w32 (x4 + 1)) * 256)) + (iOr x3 (iShl 1 x5)))) ∧ ((w32 ((w32 ((w32 (x4 + 1)) * 256)) + (iOr x3 (iShl 1 x5)))) : Int) < 2304) ∧ ((0 : Int) ≤ (w32 ((w32 (x4 * 256)) + x3)) ∧ ((w32 ((w32 (x4 * 256)) + x3)) : Int) < 2304) ∧ ((w64 ((m1 129 (w32 ((w32 (8 * x5)) + x4))) + (m1 130 (w32 ((w32 ((w32 (x4 + 1)) * 256)) + (iOr x3 (iShl 1 x5))))))) = (m1 130 (w32 ((w32 (x4 * 256)) + x3))) → ((0 : Int) ≤ (w32 ((w32 ((w32 (x4 + 1)) * 256)) + (iOr x3 (iShl 1 x5)))) ∧ ((w32 ((w32 ((w32 (x4 + 1)) * 256)) + (iOr x3 (iShl 1 x5)))) : Int) < 2304) ∧ (x2 < (m1 131 (w32 ((w32 ((w32 (x4 + 1)) * 256)) + (iOr x3 (iShl 1 x5))))) → ((0 : Int) ≤ x4 ∧ (x4 : Int) < 8) ∧ aX11_picks_25 d x2 x3 x4 (w32 (x5 + 1)) (jUp m1 132 x4 x5) Q) ∧ (¬ x2 < (m1 131 (w32 ((w32 ((w32 (x4 + 1)) * 256)) + (iOr x3 (iShl 1 x5))))) → ((0 : Int) ≤ (w32 ((w32 ((w32 (x4 + 1)) * 256)) + (iOr x3 (iShl 1 x5)))) ∧ ((w32 ((w32 ((w32 (x4 + 1)) * 256)) + (iOr x3 (iShl 1 x5)))) : Int) < 2304) ∧ aX11_picks_25 d (w32 (x2 - (m1 131 (w32 ((w32 ((w32 (x4 + 1)) * 256)) + (iOr x3 (iShl 1 x5))))))) x3 x4 (w32 (x5 + 1)) m1 Q)) ∧ (¬ (w64 ((m1 129 (w32 ((w32 (8 * x5)) + x4))) + (m1 130 (w32 ((w32 ((w32 (x4 + 1)) * 256)) + (iOr x3 (iShl 1 x5))))))) = (m1 130 (w32 ((w32 (x4 * 256)) + x3))) → aX11_picks_25 d x2 x3 x4 (w32 (x5 + 1)) m1 Q))))) ∧ (¬ (m1 132 x4) = (-1) → aX11_picks_196 d x2 x3 x4 m1 Q)))) ∧ (¬ x5 < 8 → aX11_picks_196 d x2 x3 x4 m Q)) :
    aX11_picks_25 d x2 x3 x4 x5 m Q := jWp_snd [(7, [true, false, true, true, true, false, false]), (25, [true, false, true, true, true, true, false]), (196, [true, false, true, true, true, false, false])] jcX11_picks 87 rfl h
set_option maxRecDepth 100000 in
theorem gX11_picks_196 (d : Nat) (x2 x3 x4 : Int) (m : jM) (Q : Int → jM → Prop)
    (h : ((0 : Int) ≤ x4 ∧ (x4 : Int) < 8) ∧ ((m 132 x4) = (-1) → aX11_picks_7 d x2 x3 (w32 (x4 + 1)) m Q) ∧ (¬ (m 132 x4) = (-1) → ((0 : Int) ≤ x4 ∧ (x4 : Int) < 8) ∧ aX11_picks_7 d x2 (iOr x3 (iShl 1 (m 132 x4))) (w32 (x4 + 1)) m Q)) :
    aX11_picks_196 d x2 x3 x4 m Q := jWp_snd [(7, [true, false, true, true, true, false, false]), (25, [true, false, true, true, true, true, false]), (196, [true, false, true, true, true, false, false])] jcX11_picks 18 rfl h
set_option maxRecDepth 100000 in
theorem gX11_tell (d : Nat) (x1 x2 x3 : Int) (m : jM) (Q : Int → jM → Prop)
    (h : jK d zX11_isPair [jI x1, jI x2] m (fun v1 m1 => (v1 = 0 → Q (-2) m1) ∧ (¬ v1 = 0 → jK d zX11_in [jL x3, jL (-1), jL 1000000000] m1 (fun v2 m2 => (v2 = 0 → Q (-2) m2) ∧ (¬ v2 = 0 → ((0 : Int) ≤ (w32 ((w32 (8 * x1)) + x2)) ∧ ((w32 ((w32 (8 * x1)) + x2)) : Int) < 64) ∧ jK d zX11_total [jO 11 104] (jUp m2 107 (w32 ((w32 (8 * x1)) + x2)) x3) (fun v3 m3 => Q v3 m3)))))) :
    jK (d + 1) zX11_tell [jO 11 104, jI x1, jI x2, jL x3] m Q := jWp_sn0 [] jcX11_tell 22 rfl h
set_option maxRecDepth 100000 in
theorem gX11_total (d : Nat) (m : jM) (Q : Int → jM → Prop)
    (h : jK d zX11_costs [jO 11 104] m (fun v1 m1 => jK d zX11_least [jO 11 104] m1 (fun v2 m2 => jK d zX11_toldOr [jL v2] m2 (fun v3 m3 => Q v3 m3)))) :
    jK (d + 1) zX11_total [jO 11 104] m Q := jWp_sn0 [] jcX11_total 7 rfl h
set_option maxRecDepth 100000 in
theorem gX11_many (d : Nat) (m : jM) (Q : Int → jM → Prop)
    (h : jK d zX11_costs [jO 11 104] m (fun v1 m1 => jK d zX11_least [jO 11 104] m1 (fun v2 m2 => (v2 = 1125899906842624 → Q 0 m2) ∧ (¬ v2 = 1125899906842624 → ((0 : Int) ≤ 0 ∧ (0 : Int) < 2304) ∧ Q (m2 131 0) m2)))) :
    jK (d + 1) zX11_many [jO 11 104] m Q := jWp_sn0 [] jcX11_many 12 rfl h
set_option maxRecDepth 100000 in
theorem gX11_best (d : Nat) (x1 x2 : Int) (m : jM) (Q : Int → jM → Prop)
    (h : jK d zX11_in [jL x2, jL 0, jL 7] m (fun v1 m1 => (v1 = 0 → Q (-2) m1) ∧ (¬ v1 = 0 → jK d zX11_costs [jO 11 104] m1 (fun v2 m2 => jK d zX11_least [jO 11 104] m2 (fun v3 m3 => (v3 = 1125899906842624 → Q (-3) m3) ∧ (¬ v3 = 1125899906842624 → ((0 : Int) ≤ 0 ∧ (0 : Int) < 2304) ∧ jK d zX11_in [jL x1, jL 0, jL (w32 ((m3 131 0) - 1))] m3 (fun v4 m4 => (v4 = 0 → Q (-3) m4) ∧ (¬ v4 = 0 → jK d zX11_picks [jO 11 104, jI x1] m4 (fun v5 m5 => ((0 : Int) ≤ x2 ∧ (x2 : Int) < 8) ∧ Q (m5 132 x2) m5))))))))) :
    jK (d + 1) zX11_best [jO 11 104, jI x1, jI x2] m Q := jWp_sn0 [] jcX11_best 33 rfl h
def aX11_with_24 (d : Nat) (x1 x2 x3 : Int) (m : jM) (Q : Int → jM → Prop) : Prop := jA (d + 1) zX11_with 24 [some (jO 11 104), some (jI x1), some (jI x2), some (jI x3), none, none] [] m Q
def aX11_with_80 (d : Nat) (x2 x3 x5 : Int) (m : jM) (Q : Int → jM → Prop) : Prop := jA (d + 1) zX11_with 80 [some (jO 11 104), none, some (jI x2), some (jL x3), none, some (jI x5)] [] m Q
set_option maxRecDepth 100000 in
theorem gX11_with (d : Nat) (x1 x2 : Int) (m : jM) (Q : Int → jM → Prop)
    (h : ((0 : Int) ≤ (w32 ((w32 (8 * x1)) + x2)) ∧ ((w32 ((w32 (8 * x1)) + x2)) : Int) < 64) ∧ ((m 129 (w32 ((w32 (8 * x1)) + x2))) = (-1) → Q 1125899906842624 m) ∧ (¬ (m 129 (w32 ((w32 (8 * x1)) + x2))) = (-1) → aX11_with_24 d x1 x2 0 m Q)) :
    jK (d + 1) zX11_with [jO 11 104, jI x1, jI x2] m Q := jWp_sn0 [(24, [true, true, true, true, false, false]), (80, [true, false, true, true, false, true])] jcX11_with 13 rfl h
set_option maxRecDepth 100000 in
theorem gX11_with_24 (d : Nat) (x1 x2 x3 : Int) (m : jM) (Q : Int → jM → Prop)
    (h : (x3 < 8 → ((0 : Int) ≤ (w32 ((w32 (8 * x3)) + x2)) ∧ ((w32 ((w32 (8 * x3)) + x2)) : Int) < 64) ∧ ((0 : Int) ≤ x3 ∧ (x3 : Int) < 8) ∧ (x3 = x1 → aX11_with_24 d x1 x2 (w32 (x3 + 1)) (jUp m 133 x3 (m 129 (w32 ((w32 (8 * x3)) + x2)))) Q) ∧ (¬ x3 = x1 → ((0 : Int) ≤ (w32 ((w32 (8 * x3)) + x2)) ∧ ((w32 ((w32 (8 * x3)) + x2)) : Int) < 64) ∧ aX11_with_24 d x1 x2 (w32 (x3 + 1)) (jUp (jUp m 133 x3 (m 129 (w32 ((w32 (8 * x3)) + x2)))) 129 (w32 ((w32 (8 * x3)) + x2)) (-1)) Q)) ∧ (¬ x3 < 8 → jK d zX11_least [jO 11 104] m (fun v1 m1 => aX11_with_80 d x2 v1 0 m1 Q))) :
    aX11_with_24 d x1 x2 x3 m Q := jWp_snd [(24, [true, true, true, true, false, false]), (80, [true, false, true, true, false, true])] jcX11_with 30 rfl h
set_option maxRecDepth 100000 in
theorem gX11_with_80 (d : Nat) (x2 x3 x5 : Int) (m : jM) (Q : Int → jM → Prop)
    (h : (x5 < 8 → ((0 : Int) ≤ x5 ∧ (x5 : Int) < 8) ∧ ((0 : Int) ≤ (w32 ((w32 (8 * x5)) + x2)) ∧ ((w32 ((w32 (8 * x5)) + x2)) : Int) < 64) ∧ aX11_with_80 d x2 x3 (w32 (x5 + 1)) (jUp m 129 (w32 ((w32 (8 * x5)) + x2)) (m 133 x5)) Q) ∧ (¬ x5 < 8 → Q x3 m)) :
    aX11_with_80 d x2 x3 x5 m Q := jWp_snd [(24, [true, true, true, true, false, false]), (80, [true, false, true, true, false, true])] jcX11_with 18 rfl h
set_option maxRecDepth 100000 in
theorem gX11_lacking (d : Nat) (x1 x2 : Int) (m : jM) (Q : Int → jM → Prop)
    (h : ((0 : Int) ≤ (w32 ((w32 (8 * x1)) + x2)) ∧ ((w32 ((w32 (8 * x1)) + x2)) : Int) < 64) ∧ ((0 : Int) ≤ (w32 ((w32 (8 * x1)) + x2)) ∧ ((w32 ((w32 (8 * x1)) + x2)) : Int) < 64) ∧ jK d zX11_least [jO 11 104] (jUp m 129 (w32 ((w32 (8 * x1)) + x2)) (-1)) (fun v1 m1 => ((0 : Int) ≤ (w32 ((w32 (8 * x1)) + x2)) ∧ ((w32 ((w32 (8 * x1)) + x2)) : Int) < 64) ∧ Q v1 (jUp m1 129 (w32 ((w32 (8 * x1)) + x2)) (m 129 (w32 ((w32 (8 * x1)) + x2)))))) :
    jK (d + 1) zX11_lacking [jO 11 104, jI x1, jI x2] m Q := jWp_sn0 [] jcX11_lacking 33 rfl h
set_option maxRecDepth 100000 in
theorem gX11_kind (d : Nat) (x1 x2 : Int) (m : jM) (Q : Int → jM → Prop)
    (h : jK d zX11_isPair [jI x1, jI x2] m (fun v1 m1 => (v1 = 0 → Q (-2) m1) ∧ (¬ v1 = 0 → jK d zX11_costs [jO 11 104] m1 (fun v2 m2 => jK d zX11_least [jO 11 104] m2 (fun v3 m3 => (v3 = 1125899906842624 → Q (-3) m3) ∧ (¬ v3 = 1125899906842624 → jK d zX11_with [jO 11 104, jI x1, jI x2] m3 (fun v4 m4 => (v4 = v3 → jK d zX11_lacking [jO 11 104, jI x1, jI x2] m4 (fun v5 m5 => (v5 = v3 → Q 1 m5) ∧ (¬ v5 = v3 → Q 2 m5))) ∧ (¬ v4 = v3 → Q 0 m4)))))))) :
    jK (d + 1) zX11_kind [jO 11 104, jI x1, jI x2] m Q := jWp_sn0 [] jcX11_kind 28 rfl h
set_option maxRecDepth 100000 in
theorem gX11_room (d : Nat) (x1 x2 x3 : Int) (m : jM) (Q : Int → jM → Prop)
    (h : jK d zX11_isPair [jI x1, jI x2] m (fun v1 m1 => (v1 = 0 → Q (-4611686018427387904) m1) ∧ (¬ v1 = 0 → jK d zX11_in [jL x3, jL 0, jL 1] m1 (fun v2 m2 => (v2 = 0 → Q (-4611686018427387904) m2) ∧ (¬ v2 = 0 → jK d zX11_costs [jO 11 104] m2 (fun v3 m3 => (x3 = 0 → jK d zX11_with [jO 11 104, jI x1, jI x2] m3 (fun v4 m4 => jK d zX11_toldOr [jL v4] m4 (fun v5 m5 => Q v5 m5))) ∧ (¬ x3 = 0 → jK d zX11_lacking [jO 11 104, jI x1, jI x2] m3 (fun v6 m6 => jK d zX11_toldOr [jL v6] m6 (fun v7 m7 => Q v7 m7))))))))) :
    jK (d + 1) zX11_room [jO 11 104, jI x1, jI x2, jI x3] m Q := jWp_sn0 [] jcX11_room 22 rfl h
def aX11_enters_5 (d : Nat) (x1 x3 : Int) (m : jM) (Q : Int → jM → Prop) : Prop := jA (d + 1) zX11_enters 5 [some (jO 11 104), some (jL x1), none, some (jI x3), none] [] m Q
def aX11_enters_39 (d : Nat) (x1 x3 x4 : Int) (m : jM) (Q : Int → jM → Prop) : Prop := jA (d + 1) zX11_enters 39 [some (jO 11 104), some (jL x1), none, some (jI x3), some (jI x4)] [] m Q
def aX11_enters_94 (d : Nat) (x3 x4 : Int) (m : jM) (Q : Int → jM → Prop) : Prop := jA (d + 1) zX11_enters 94 [some (jO 11 104), none, none, some (jI x3), some (jI x4)] [] m Q
set_option maxRecDepth 100000 in
theorem gX11_enters (d : Nat) (x1 : Int) (m : jM) (Q : Int → jM → Prop)
    (h : aX11_enters_5 d x1 (m 104 48) m Q) :
    jK (d + 1) zX11_enters [jO 11 104, jL x1] m Q := jWp_sn0 [(5, [true, true, false, true, false]), (39, [true, true, false, true, true]), (94, [true, false, false, true, true])] jcX11_enters 4 rfl h
set_option maxRecDepth 100000 in
theorem gX11_enters_5 (d : Nat) (x1 x3 : Int) (m : jM) (Q : Int → jM → Prop)
    (h : (0 < x3 → ((0 : Int) ≤ (w32 (x3 - 1)) ∧ ((w32 (x3 - 1)) : Int) < 13) ∧ (x1 < (m 134 (w32 (x3 - 1))) → ((0 : Int) ≤ (w32 (x3 - 1)) ∧ ((w32 (x3 - 1)) : Int) < 13) ∧ ((0 : Int) ≤ x3 ∧ (x3 : Int) < 13) ∧ aX11_enters_39 d x1 x3 0 (jUp m 134 x3 (m 134 (w32 (x3 - 1)))) Q) ∧ (¬ x1 < (m 134 (w32 (x3 - 1))) → ((0 : Int) ≤ x3 ∧ (x3 : Int) < 13) ∧ aX11_enters_94 d x3 0 (jUp m 134 x3 x1) Q)) ∧ (¬ 0 < x3 → ((0 : Int) ≤ x3 ∧ (x3 : Int) < 13) ∧ aX11_enters_94 d x3 0 (jUp m 134 x3 x1) Q)) :
    aX11_enters_5 d x1 x3 m Q := jWp_snd [(5, [true, true, false, true, false]), (39, [true, true, false, true, true]), (94, [true, false, false, true, true])] jcX11_enters 23 rfl h
set_option maxRecDepth 100000 in
theorem gX11_enters_39 (d : Nat) (x1 x3 x4 : Int) (m : jM) (Q : Int → jM → Prop)
    (h : (x4 < 8 → ((0 : Int) ≤ (w32 ((w32 (8 * (w32 (x3 - 1)))) + x4)) ∧ ((w32 ((w32 (8 * (w32 (x3 - 1)))) + x4)) : Int) < 104) ∧ ((0 : Int) ≤ (w32 ((w32 (8 * x3)) + x4)) ∧ ((w32 ((w32 (8 * x3)) + x4)) : Int) < 104) ∧ aX11_enters_39 d x1 x3 (w32 (x4 + 1)) (jUp m 135 (w32 ((w32 (8 * x3)) + x4)) (m 135 (w32 ((w32 (8 * (w32 (x3 - 1)))) + x4)))) Q) ∧ (¬ x4 < 8 → aX11_enters_5 d x1 (w32 (x3 + (-1))) m Q)) :
    aX11_enters_39 d x1 x3 x4 m Q := jWp_snd [(5, [true, true, false, true, false]), (39, [true, true, false, true, true]), (94, [true, false, false, true, true])] jcX11_enters 24 rfl h
set_option maxRecDepth 100000 in
theorem gX11_enters_94 (d : Nat) (x3 x4 : Int) (m : jM) (Q : Int → jM → Prop)
    (h : (x4 < 8 → ((0 : Int) ≤ x4 ∧ (x4 : Int) < 8) ∧ ((0 : Int) ≤ (w32 ((w32 (8 * x3)) + x4)) ∧ ((w32 ((w32 (8 * x3)) + x4)) : Int) < 104) ∧ aX11_enters_94 d x3 (w32 (x4 + 1)) (jUp m 135 (w32 ((w32 (8 * x3)) + x4)) (m 132 x4)) Q) ∧ (¬ x4 < 8 → ((m 104 48) < 12 → Q 0 (jUp m 104 48 (w32 ((m 104 48) + 1)))) ∧ (¬ (m 104 48) < 12 → Q 0 m))) :
    aX11_enters_94 d x3 x4 m Q := jWp_snd [(5, [true, true, false, true, false]), (39, [true, true, false, true, true]), (94, [true, false, false, true, true])] jcX11_enters 18 rfl h
def aX11_walks_40 (d : Nat) (x1 x2 x3 x5 : Int) (m : jM) (Q : Int → jM → Prop) : Prop := jA (d + 1) zX11_walks 40 [some (jO 11 104), some (jI x1), some (jI x2), some (jL x3), none, some (jI x5), none, none, none, none] [] m Q
def aX11_walks_153 (d : Nat) (x1 x2 x3 x5 x8 : Int) (m : jM) (Q : Int → jM → Prop) : Prop := jA (d + 1) zX11_walks 153 [some (jO 11 104), some (jI x1), some (jI x2), some (jL x3), none, some (jI x5), none, none, some (jL x8), none] [] m Q
set_option maxRecDepth 100000 in
theorem gX11_walks (d : Nat) (x1 x2 x3 : Int) (m : jM) (Q : Int → jM → Prop)
    (h : (x1 = 8 → jK d zX11_enters [jO 11 104, jL x3] m (fun v1 m1 => Q 0 m1)) ∧ (¬ x1 = 8 → ((0 : Int) ≤ x1 ∧ (x1 : Int) < 8) ∧ jK d zX11_isCase [jO 11 104, jI x1] (jUp m 132 x1 (-1)) (fun v2 m2 => (v2 = 0 → jK d zX11_walks [jO 11 104, jI (w32 (x1 + 1)), jI x2, jL x3] m2 (fun v3 m3 => Q 0 m3)) ∧ (¬ v2 = 0 → aX11_walks_40 d x1 x2 x3 0 m2 Q)))) :
    jK (d + 1) zX11_walks [jO 11 104, jI x1, jI x2, jL x3] m Q := jWp_sn0 [(40, [true, true, true, true, false, true, false, false, false, false]), (153, [true, true, true, true, false, true, false, false, true, false])] jcX11_walks 21 rfl h
set_option maxRecDepth 100000 in
theorem gX11_walks_40 (d : Nat) (x1 x2 x3 x5 : Int) (m : jM) (Q : Int → jM → Prop)
    (h : (x5 < 8 → ((iAnd (iShr x2 x5) 1) = 1 → aX11_walks_40 d x1 x2 x3 (w32 (x5 + 1)) m Q) ∧ (¬ (iAnd (iShr x2 x5) 1) = 1 → ((0 : Int) ≤ (w32 ((w32 (8 * x5)) + x1)) ∧ ((w32 ((w32 (8 * x5)) + x1)) : Int) < 64) ∧ ((m 129 (w32 ((w32 (8 * x5)) + x1))) = (-1) → aX11_walks_40 d x1 x2 x3 (w32 (x5 + 1)) m Q) ∧ (¬ (m 129 (w32 ((w32 (8 * x5)) + x1))) = (-1) → ((0 : Int) ≤ (w32 ((w32 ((w32 (x1 + 1)) * 256)) + (iOr x2 (iShl 1 x5)))) ∧ ((w32 ((w32 ((w32 (x1 + 1)) * 256)) + (iOr x2 (iShl 1 x5)))) : Int) < 2304) ∧ ((0 : Int) ≤ (w32 ((w32 (8 * x5)) + x1)) ∧ ((w32 ((w32 (8 * x5)) + x1)) : Int) < 64) ∧ ((m 130 (w32 ((w32 ((w32 (x1 + 1)) * 256)) + (iOr x2 (iShl 1 x5))))) = 1125899906842624 → aX11_walks_40 d x1 x2 x3 (w32 (x5 + 1)) m Q) ∧ (¬ (m 130 (w32 ((w32 ((w32 (x1 + 1)) * 256)) + (iOr x2 (iShl 1 x5))))) = 1125899906842624 → ((m 104 48) = 12 → ((0 : Int) ≤ 11 ∧ (11 : Int) < 13) ∧ ((w64 ((w64 (x3 + (m 129 (w32 ((w32 (8 * x5)) + x1))))) + (m 130 (w32 ((w32 ((w32 (x1 + 1)) * 256)) + (iOr x2 (iShl 1 x5))))))) < (m 134 11) → aX11_walks_153 d x1 x2 x3 x5 (w64 (x3 + (m 129 (w32 ((w32 (8 * x5)) + x1))))) m Q) ∧ (¬ (w64 ((w64 (x3 + (m 129 (w32 ((w32 (8 * x5)) + x1))))) + (m 130 (w32 ((w32 ((w32 (x1 + 1)) * 256)) + (iOr x2 (iShl 1 x5))))))) < (m 134 11) → aX11_walks_40 d x1 x2 x3 (w32 (x5 + 1)) m Q)) ∧ (¬ (m 104 48) = 12 → aX11_walks_153 d x1 x2 x3 x5 (w64 (x3 + (m 129 (w32 ((w32 (8 * x5)) + x1))))) m Q))))) ∧ (¬ x5 < 8 → Q 0 m)) :
    aX11_walks_40 d x1 x2 x3 x5 m Q := jWp_snd [(40, [true, true, true, true, false, true, false, false, false, false]), (153, [true, true, true, true, false, true, false, false, true, false])] jcX11_walks 65 rfl h
set_option maxRecDepth 100000 in
theorem gX11_walks_153 (d : Nat) (x1 x2 x3 x5 x8 : Int) (m : jM) (Q : Int → jM → Prop)
    (h : ((0 : Int) ≤ x1 ∧ (x1 : Int) < 8) ∧ jK d zX11_walks [jO 11 104, jI (w32 (x1 + 1)), jI (iOr x2 (iShl 1 x5)), jL x8] (jUp m 132 x1 x5) (fun v1 m1 => aX11_walks_40 d x1 x2 x3 (w32 (x5 + 1)) m1 Q)) :
    aX11_walks_153 d x1 x2 x3 x5 x8 m Q := jWp_snd [(40, [true, true, true, true, false, true, false, false, false, false]), (153, [true, true, true, true, false, true, false, false, true, false])] jcX11_walks 19 rfl h
set_option maxRecDepth 100000 in
theorem gX11_lists (d : Nat) (m : jM) (Q : Int → jM → Prop)
    (h : jK d zX11_least [jO 11 104] (jUp m 104 48 0) (fun v1 m1 => (v1 = 1125899906842624 → Q 0 m1) ∧ (¬ v1 = 1125899906842624 → jK d zX11_walks [jO 11 104, jI 0, jI 0, jL 0] m1 (fun v2 m2 => Q 0 m2)))) :
    jK (d + 1) zX11_lists [jO 11 104] m Q := jWp_sn0 [] jcX11_lists 14 rfl h
set_option maxRecDepth 100000 in
theorem gX11_next_ (d : Nat) (x1 x2 : Int) (m : jM) (Q : Int → jM → Prop)
    (h : jK d zX11_in [jL x1, jL 0, jL 11] m (fun v1 m1 => (v1 = 0 → Q (-4611686018427387904) m1) ∧ (¬ v1 = 0 → jK d zX11_in [jL x2, jL (-1), jL 7] m1 (fun v2 m2 => (v2 = 0 → Q (-4611686018427387904) m2) ∧ (¬ v2 = 0 → jK d zX11_costs [jO 11 104] m2 (fun v3 m3 => jK d zX11_lists [jO 11 104] m3 (fun v4 m4 => (x1 < (m4 104 48) → (x2 = (-1) → ((0 : Int) ≤ x1 ∧ (x1 : Int) < 13) ∧ Q (m4 134 x1) m4) ∧ (¬ x2 = (-1) → ((0 : Int) ≤ (w32 ((w32 (8 * x1)) + x2)) ∧ ((w32 ((w32 (8 * x1)) + x2)) : Int) < 104) ∧ Q (m4 135 (w32 ((w32 (8 * x1)) + x2))) m4)) ∧ (¬ x1 < (m4 104 48) → Q (-4611686018427387904) m4)))))))) :
    jK (d + 1) zX11_next_ [jO 11 104, jI x1, jI x2] m Q := jWp_sn0 [] jcX11_next_ 34 rfl h
def aX11_heaviest_2 (d : Nat) (x1 : Int) (m : jM) (Q : Int → jM → Prop) : Prop := jA (d + 1) zX11_heaviest 2 [some (jO 11 104), some (jI x1), none, none, none, none] [] m Q
def aX11_heaviest_29 (d : Nat) (x1 : Int) (m : jM) (Q : Int → jM → Prop) : Prop := jA (d + 1) zX11_heaviest 29 [some (jO 11 104), some (jI x1), none, none, none, none] [] m Q
def aX11_heaviest_35 (d : Nat) (x1 x2 : Int) (m : jM) (Q : Int → jM → Prop) : Prop := jA (d + 1) zX11_heaviest 35 [some (jO 11 104), some (jI x1), some (jI x2), none, none, none] [] m Q
def aX11_heaviest_74 (d : Nat) (x1 x2 x3 x5 : Int) (m : jM) (Q : Int → jM → Prop) : Prop := jA (d + 1) zX11_heaviest 74 [some (jO 11 104), some (jI x1), some (jI x2), some (jL x3), none, some (jI x5)] [] m Q
set_option maxRecDepth 100000 in
theorem gX11_heaviest (d : Nat) (m : jM) (Q : Int → jM → Prop)
    (h : aX11_heaviest_2 d 0 m Q) :
    jK (d + 1) zX11_heaviest [jO 11 104] m Q := jWp_sn0 [(2, [true, true, false, false, false, false]), (29, [true, true, false, false, false, false]), (35, [true, true, true, false, false, false]), (74, [true, true, true, true, false, true])] jcX11_heaviest 3 rfl h
set_option maxRecDepth 100000 in
theorem gX11_heaviest_2 (d : Nat) (x1 : Int) (m : jM) (Q : Int → jM → Prop)
    (h : (x1 < 256 → ((0 : Int) ≤ (w32 (2048 + x1)) ∧ ((w32 (2048 + x1)) : Int) < 2304) ∧ aX11_heaviest_2 d (w32 (x1 + 1)) (jUp m 136 (w32 (2048 + x1)) 0) Q) ∧ (¬ x1 < 256 → aX11_heaviest_29 d 7 m Q)) :
    aX11_heaviest_2 d x1 m Q := jWp_snd [(2, [true, true, false, false, false, false]), (29, [true, true, false, false, false, false]), (35, [true, true, true, false, false, false]), (74, [true, true, true, true, false, true])] jcX11_heaviest 13 rfl h
set_option maxRecDepth 100000 in
theorem gX11_heaviest_29 (d : Nat) (x1 : Int) (m : jM) (Q : Int → jM → Prop)
    (h : (x1 < 0 → ((0 : Int) ≤ 0 ∧ (0 : Int) < 2304) ∧ Q (m 136 0) m) ∧ (¬ x1 < 0 → aX11_heaviest_35 d x1 0 m Q)) :
    aX11_heaviest_29 d x1 m Q := jWp_snd [(2, [true, true, false, false, false, false]), (29, [true, true, false, false, false, false]), (35, [true, true, true, false, false, false]), (74, [true, true, true, true, false, true])] jcX11_heaviest 8 rfl h
set_option maxRecDepth 100000 in
theorem gX11_heaviest_35 (d : Nat) (x1 x2 : Int) (m : jM) (Q : Int → jM → Prop)
    (h : (x2 < 256 → jK d zX11_isCase [jO 11 104, jI x1] m (fun v1 m1 => (v1 = 0 → ((0 : Int) ≤ (w32 ((w32 ((w32 (x1 + 1)) * 256)) + x2)) ∧ ((w32 ((w32 ((w32 (x1 + 1)) * 256)) + x2)) : Int) < 2304) ∧ aX11_heaviest_74 d x1 x2 (m1 136 (w32 ((w32 ((w32 (x1 + 1)) * 256)) + x2))) 0 m1 Q) ∧ (¬ v1 = 0 → aX11_heaviest_74 d x1 x2 1125899906842624 0 m1 Q))) ∧ (¬ x2 < 256 → aX11_heaviest_29 d (w32 (x1 + (-1))) m Q)) :
    aX11_heaviest_35 d x1 x2 m Q := jWp_snd [(2, [true, true, false, false, false, false]), (29, [true, true, false, false, false, false]), (35, [true, true, true, false, false, false]), (74, [true, true, true, true, false, true])] jcX11_heaviest 21 rfl h
set_option maxRecDepth 100000 in
theorem gX11_heaviest_74 (d : Nat) (x1 x2 x3 x5 : Int) (m : jM) (Q : Int → jM → Prop)
    (h : (x5 < 8 → jK d zX11_isCase [jO 11 104, jI x1] m (fun v1 m1 => (v1 = 0 → ((0 : Int) ≤ (w32 ((w32 (x1 * 256)) + x2)) ∧ ((w32 ((w32 (x1 * 256)) + x2)) : Int) < 2304) ∧ aX11_heaviest_35 d x1 (w32 (x2 + 1)) (jUp m1 136 (w32 ((w32 (x1 * 256)) + x2)) x3) Q) ∧ (¬ v1 = 0 → ((iAnd (iShr x2 x5) 1) = 1 → aX11_heaviest_74 d x1 x2 x3 (w32 (x5 + 1)) m1 Q) ∧ (¬ (iAnd (iShr x2 x5) 1) = 1 → ((0 : Int) ≤ (w32 ((w32 (8 * x5)) + x1)) ∧ ((w32 ((w32 (8 * x5)) + x1)) : Int) < 64) ∧ ((m1 129 (w32 ((w32 (8 * x5)) + x1))) = (-1) → aX11_heaviest_74 d x1 x2 x3 (w32 (x5 + 1)) m1 Q) ∧ (¬ (m1 129 (w32 ((w32 (8 * x5)) + x1))) = (-1) → ((0 : Int) ≤ (w32 ((w32 (8 * x5)) + x1)) ∧ ((w32 ((w32 (8 * x5)) + x1)) : Int) < 64) ∧ ((0 : Int) ≤ (w32 ((w32 ((w32 (x1 + 1)) * 256)) + (iOr x2 (iShl 1 x5)))) ∧ ((w32 ((w32 ((w32 (x1 + 1)) * 256)) + (iOr x2 (iShl 1 x5)))) : Int) < 2304) ∧ jK d zJ9_max_f86c9 [jL (m1 129 (w32 ((w32 (8 * x5)) + x1))), jL (m1 136 (w32 ((w32 ((w32 (x1 + 1)) * 256)) + (iOr x2 (iShl 1 x5)))))] m1 (fun v2 m2 => jK d zJ9_min_f86c9 [jL x3, jL v2] m2 (fun v3 m3 => aX11_heaviest_74 d x1 x2 v3 (w32 (x5 + 1)) m3 Q))))))) ∧ (¬ x5 < 8 → ((0 : Int) ≤ (w32 ((w32 (x1 * 256)) + x2)) ∧ ((w32 ((w32 (x1 * 256)) + x2)) : Int) < 2304) ∧ aX11_heaviest_35 d x1 (w32 (x2 + 1)) (jUp m 136 (w32 ((w32 (x1 * 256)) + x2)) x3) Q)) :
    aX11_heaviest_74 d x1 x2 x3 x5 m Q := jWp_snd [(2, [true, true, false, false, false, false]), (29, [true, true, false, false, false, false]), (35, [true, true, true, false, false, false]), (74, [true, true, true, true, false, true])] jcX11_heaviest 53 rfl h
def aX11_fair_49 (d : Nat) (x1 x2 x4 x5 : Int) (m : jM) (Q : Int → jM → Prop) : Prop := jA (d + 1) zX11_fair 49 [some (jO 11 104), some (jI x1), some (jL x2), none, some (jI x4), some (jI x5)] [] m Q
set_option maxRecDepth 100000 in
theorem gX11_fair (d : Nat) (x1 : Int) (m : jM) (Q : Int → jM → Prop)
    (h : jK d zX11_in [jL x1, jL 0, jL 2] m (fun v1 m1 => (v1 = 0 → Q (-4611686018427387904) m1) ∧ (¬ v1 = 0 → jK d zX11_costs [jO 11 104] m1 (fun v2 m2 => jK d zX11_heaviest [jO 11 104] m2 (fun v3 m3 => (v3 = 1125899906842624 → Q (-4611686018427387904) m3) ∧ (¬ v3 = 1125899906842624 → (x1 = 0 → Q v3 m3) ∧ (¬ x1 = 0 → aX11_fair_49 d x1 v3 0 0 m3 Q))))))) :
    jK (d + 1) zX11_fair [jO 11 104, jI x1] m Q := jWp_sn0 [(49, [true, true, true, false, true, true])] jcX11_fair 21 rfl h
set_option maxRecDepth 100000 in
theorem gX11_fair_49 (d : Nat) (x1 x2 x4 x5 : Int) (m : jM) (Q : Int → jM → Prop)
    (h : (x5 < 64 → ((0 : Int) ≤ x5 ∧ (x5 : Int) < 64) ∧ ((m 129 x5) = (-1) → aX11_fair_49 d x1 x2 x4 (w32 (x5 + 1)) m Q) ∧ (¬ (m 129 x5) = (-1) → ((0 : Int) ≤ x5 ∧ (x5 : Int) < 64) ∧ (x2 < (m 129 x5) → ((0 : Int) ≤ x5 ∧ (x5 : Int) < 64) ∧ aX11_fair_49 d x1 x2 (w32 (x4 + 1)) (w32 (x5 + 1)) (jUp m 129 x5 (-1)) Q) ∧ (¬ x2 < (m 129 x5) → aX11_fair_49 d x1 x2 x4 (w32 (x5 + 1)) m Q))) ∧ (¬ x5 < 64 → (x1 = 2 → Q x4 m) ∧ (¬ x1 = 2 → jK d zX11_least [jO 11 104] m (fun v1 m1 => Q v1 m1)))) :
    aX11_fair_49 d x1 x2 x4 x5 m Q := jWp_snd [(49, [true, true, true, false, true, true])] jcX11_fair 24 rfl h
def aX11_finds_2 (d : Nat) (x1 x2 : Int) (m : jM) (Q : Int → jM → Prop) : Prop := jA (d + 1) zX11_finds 2 [some (jO 11 104), some (jI x1), some (jI x2)] [] m Q
set_option maxRecDepth 100000 in
theorem gX11_finds (d : Nat) (x1 : Int) (m : jM) (Q : Int → jM → Prop)
    (h : aX11_finds_2 d x1 0 m Q) :
    jK (d + 1) zX11_finds [jO 11 104, jI x1] m Q := jWp_sn0 [(2, [true, true, true])] jcX11_finds 3 rfl h
set_option maxRecDepth 100000 in
theorem gX11_finds_2 (d : Nat) (x1 x2 : Int) (m : jM) (Q : Int → jM → Prop)
    (h : (x2 < 8 → ((0 : Int) ≤ x1 ∧ (x1 : Int) < 8) ∧ ((iAnd (iShr (m 145 x1) x2) 1) = 0 → aX11_finds_2 d x1 (w32 (x2 + 1)) m Q) ∧ (¬ (iAnd (iShr (m 145 x1) x2) 1) = 0 → ((iAnd (iShr (m 104 61) x2) 1) = 1 → aX11_finds_2 d x1 (w32 (x2 + 1)) m Q) ∧ (¬ (iAnd (iShr (m 104 61) x2) 1) = 1 → ((0 : Int) ≤ x2 ∧ (x2 : Int) < 8) ∧ (((jUp m 104 61 (iOr (m 104 61) (iShl 1 x2))) 146 x2) = (-1) → ((0 : Int) ≤ x2 ∧ (x2 : Int) < 8) ∧ Q 1 (jUp (jUp m 104 61 (iOr (m 104 61) (iShl 1 x2))) 146 x2 x1)) ∧ (¬ ((jUp m 104 61 (iOr (m 104 61) (iShl 1 x2))) 146 x2) = (-1) → ((0 : Int) ≤ x2 ∧ (x2 : Int) < 8) ∧ jK d zX11_finds [jO 11 104, jI ((jUp m 104 61 (iOr (m 104 61) (iShl 1 x2))) 146 x2)] (jUp m 104 61 (iOr (m 104 61) (iShl 1 x2))) (fun v1 m1 => (v1 = 0 → aX11_finds_2 d x1 (w32 (x2 + 1)) m1 Q) ∧ (¬ v1 = 0 → ((0 : Int) ≤ x2 ∧ (x2 : Int) < 8) ∧ Q 1 (jUp m1 146 x2 x1))))))) ∧ (¬ x2 < 8 → Q 0 m)) :
    aX11_finds_2 d x1 x2 m Q := jWp_snd [(2, [true, true, true])] jcX11_finds 49 rfl h
def aX11_greatest_2 (d : Nat) (x1 x2 : Int) (m : jM) (Q : Int → jM → Prop) : Prop := jA (d + 1) zX11_greatest 2 [some (jO 11 104), some (jI x1), some (jI x2), none] [] m Q
def aX11_greatest_25 (d : Nat) (x1 x2 x3 : Int) (m : jM) (Q : Int → jM → Prop) : Prop := jA (d + 1) zX11_greatest 25 [some (jO 11 104), some (jI x1), some (jI x2), some (jI x3)] [] m Q
set_option maxRecDepth 100000 in
theorem gX11_greatest (d : Nat) (x1 : Int) (m : jM) (Q : Int → jM → Prop)
    (h : aX11_greatest_2 d x1 0 m Q) :
    jK (d + 1) zX11_greatest [jO 11 104, jI x1] m Q := jWp_sn0 [(2, [true, true, true, false]), (25, [true, true, true, true])] jcX11_greatest 3 rfl h
set_option maxRecDepth 100000 in
theorem gX11_greatest_2 (d : Nat) (x1 x2 : Int) (m : jM) (Q : Int → jM → Prop)
    (h : (x2 < 8 → ((0 : Int) ≤ x2 ∧ (x2 : Int) < 8) ∧ aX11_greatest_2 d x1 (w32 (x2 + 1)) (jUp m 146 x2 (-1)) Q) ∧ (¬ x2 < 8 → aX11_greatest_25 d x1 0 0 m Q)) :
    aX11_greatest_2 d x1 x2 m Q := jWp_snd [(2, [true, true, true, false]), (25, [true, true, true, true])] jcX11_greatest 11 rfl h
set_option maxRecDepth 100000 in
theorem gX11_greatest_25 (d : Nat) (x1 x2 x3 : Int) (m : jM) (Q : Int → jM → Prop)
    (h : (x3 < 8 → (x3 = x1 → aX11_greatest_25 d x1 x2 (w32 (x3 + 1)) (jUp m 104 61 0) Q) ∧ (¬ x3 = x1 → jK d zX11_isCase [jO 11 104, jI x3] (jUp m 104 61 0) (fun v1 m1 => (v1 = 0 → aX11_greatest_25 d x1 x2 (w32 (x3 + 1)) m1 Q) ∧ (¬ v1 = 0 → jK d zX11_finds [jO 11 104, jI x3] m1 (fun v2 m2 => (v2 = 0 → aX11_greatest_25 d x1 x2 (w32 (x3 + 1)) m2 Q) ∧ (¬ v2 = 0 → aX11_greatest_25 d x1 (w32 (x2 + 1)) (w32 (x3 + 1)) m2 Q)))))) ∧ (¬ x3 < 8 → Q x2 m)) :
    aX11_greatest_25 d x1 x2 x3 m Q := jWp_snd [(2, [true, true, true, false]), (25, [true, true, true, true])] jcX11_greatest 21 rfl h
def aX11_marking_18 (d : Nat) (x1 x2 : Int) (m : jM) (Q : Int → jM → Prop) : Prop := jA (d + 1) zX11_marking 18 [some (jO 11 104), some (jI x1), some (jI x2)] [] m Q
set_option maxRecDepth 100000 in
theorem gX11_marking (d : Nat) (m : jM) (Q : Int → jM → Prop)
    (h : jK d zX11_greatest [jO 11 104, jI (-1)] m (fun v1 m1 => aX11_marking_18 d v1 0 (jUp (jUp m1 104 62 0) 104 63 0) Q)) :
    jK (d + 1) zX11_marking [jO 11 104] m Q := jWp_sn0 [(18, [true, true, true])] jcX11_marking 13 rfl h
set_option maxRecDepth 100000 in
theorem gX11_marking_18 (d : Nat) (x1 x2 : Int) (m : jM) (Q : Int → jM → Prop)
    (h : (x2 < 8 → jK d zX11_isCase [jO 11 104, jI x2] m (fun v1 m1 => (v1 = 0 → aX11_marking_18 d x1 (w32 (x2 + 1)) m1 Q) ∧ (¬ v1 = 0 → jK d zX11_greatest [jO 11 104, jI x2] m1 (fun v2 m2 => (v2 < x1 → aX11_marking_18 d x1 (w32 (x2 + 1)) m2 Q) ∧ (¬ v2 < x1 → ((0 : Int) ≤ x2 ∧ (x2 : Int) < 8) ∧ aX11_marking_18 d x1 (w32 (x2 + 1)) (jUp (jUp m2 104 62 (iOr (m2 104 62) (iShl 1 x2))) 104 63 (iOr ((jUp m2 104 62 (iOr (m2 104 62) (iShl 1 x2))) 104 63) ((jUp m2 104 62 (iOr (m2 104 62) (iShl 1 x2))) 145 x2))) Q))))) ∧ (¬ x2 < 8 → Q x1 m)) :
    aX11_marking_18 d x1 x2 m Q := jWp_snd [(18, [true, true, true])] jcX11_marking 32 rfl h
def aX11_casesIn_4 (d : Nat) (x1 x2 : Int) (m : jM) (Q : Int → jM → Prop) : Prop := jA (d + 1) zX11_casesIn 4 [some (jO 11 104), some (jI x1), some (jI x2)] [] m Q
set_option maxRecDepth 100000 in
theorem gX11_casesIn (d : Nat) (m : jM) (Q : Int → jM → Prop)
    (h : aX11_casesIn_4 d 0 0 m Q) :
    jK (d + 1) zX11_casesIn [jO 11 104] m Q := jWp_sn0 [(4, [true, true, true])] jcX11_casesIn 5 rfl h
set_option maxRecDepth 100000 in
theorem gX11_casesIn_4 (d : Nat) (x1 x2 : Int) (m : jM) (Q : Int → jM → Prop)
    (h : (x2 < 8 → jK d zX11_isCase [jO 11 104, jI x2] m (fun v1 m1 => (v1 = 0 → aX11_casesIn_4 d x1 (w32 (x2 + 1)) m1 Q) ∧ (¬ v1 = 0 → aX11_casesIn_4 d (iOr x1 (iShl 1 x2)) (w32 (x2 + 1)) m1 Q))) ∧ (¬ x2 < 8 → Q x1 m)) :
    aX11_casesIn_4 d x1 x2 m Q := jWp_snd [(4, [true, true, true])] jcX11_casesIn 16 rfl h
set_option maxRecDepth 100000 in
theorem gX11_slack (d : Nat) (x1 x2 : Int) (m : jM) (Q : Int → jM → Prop)
    (h : ((0 : Int) ≤ (w32 ((w32 (8 * x1)) + x2)) ∧ ((w32 ((w32 (8 * x1)) + x2)) : Int) < 64) ∧ ((0 : Int) ≤ x1 ∧ (x1 : Int) < 8) ∧ ((0 : Int) ≤ x2 ∧ (x2 : Int) < 8) ∧ Q (w64 ((w64 ((m 129 (w32 ((w32 (8 * x1)) + x2))) + (m 137 x1))) - (m 138 x2))) m) :
    jK (d + 1) zX11_slack [jO 11 104, jI x1, jI x2] m Q := jWp_sn0 [] jcX11_slack 20 rfl h
def aX11_rise_6 (d : Nat) (x1 x3 : Int) (m : jM) (Q : Int → jM → Prop) : Prop := jA (d + 1) zX11_rise 6 [some (jO 11 104), some (jL x1), none, some (jI x3), none, none] [] m Q
set_option maxRecDepth 100000 in
theorem gX11_rise (d : Nat) (m : jM) (Q : Int → jM → Prop)
    (h : aX11_rise_6 d (-1) 0 m Q) :
    jK (d + 1) zX11_rise [jO 11 104] m Q := jWp_sn0 [(6, [true, true, false, true, false, false])] jcX11_rise 5 rfl h
set_option maxRecDepth 100000 in
theorem gX11_rise_6 (d : Nat) (x1 x3 : Int) (m : jM) (Q : Int → jM → Prop)
    (h : (x3 < 64 → (8 : Int) ≠ 0 ∧ (8 : Int) ≠ 0 ∧ ((0 : Int) ≤ x3 ∧ (x3 : Int) < 64) ∧ ((m 129 x3) = (-1) → aX11_rise_6 d x1 (w32 (x3 + 1)) m Q) ∧ (¬ (m 129 x3) = (-1) → ((iAnd (iShr (m 104 62) (iRem x3 8)) 1) = 0 → aX11_rise_6 d x1 (w32 (x3 + 1)) m Q) ∧ (¬ (iAnd (iShr (m 104 62) (iRem x3 8)) 1) = 0 → ((iAnd (iShr (m 104 63) (iDiv x3 8)) 1) = 1 → aX11_rise_6 d x1 (w32 (x3 + 1)) m Q) ∧ (¬ (iAnd (iShr (m 104 63) (iDiv x3 8)) 1) = 1 → (x1 = (-1) → jK d zX11_slack [jO 11 104, jI (iDiv x3 8), jI (iRem x3 8)] m (fun v1 m1 => aX11_rise_6 d v1 (w32 (x3 + 1)) m1 Q)) ∧ (¬ x1 = (-1) → jK d zX11_slack [jO 11 104, jI (iDiv x3 8), jI (iRem x3 8)] m (fun v2 m2 => (v2 < x1 → jK d zX11_slack [jO 11 104, jI (iDiv x3 8), jI (iRem x3 8)] m2 (fun v3 m3 => aX11_rise_6 d v3 (w32 (x3 + 1)) m3 Q)) ∧ (¬ v2 < x1 → aX11_rise_6 d x1 (w32 (x3 + 1)) m2 Q))))))) ∧ (¬ x3 < 64 → Q x1 m)) :
    aX11_rise_6 d x1 x3 m Q := jWp_snd [(6, [true, true, false, true, false, false])] jcX11_rise 49 rfl h
def aX11_begins_11 (d : Nat) (x1 : Int) (m : jM) (Q : Int → jM → Prop) : Prop := jA (d + 1) zX11_begins 11 [some (jO 11 104), some (jI x1), none, none, none, none, none] [] m Q
def aX11_begins_31 (d : Nat) (x1 x2 x4 : Int) (m : jM) (Q : Int → jM → Prop) : Prop := jA (d + 1) zX11_begins 31 [some (jO 11 104), some (jI x1), some (jL x2), none, some (jI x4), none, none] [] m Q
set_option maxRecDepth 100000 in
theorem gX11_begins (d : Nat) (m : jM) (Q : Int → jM → Prop)
    (h : jK d zX11_costs [jO 11 104] m (fun v1 m1 => aX11_begins_11 d 0 (jUp m1 104 50 0) Q)) :
    jK (d + 1) zX11_begins [jO 11 104] m Q := jWp_sn0 [(11, [true, true, false, false, false, false, false]), (31, [true, true, true, false, true, false, false])] jcX11_begins 8 rfl h
set_option maxRecDepth 100000 in
theorem gX11_begins_11 (d : Nat) (x1 : Int) (m : jM) (Q : Int → jM → Prop)
    (h : (x1 < 8 → ((0 : Int) ≤ x1 ∧ (x1 : Int) < 8) ∧ aX11_begins_31 d x1 (-1) 0 (jUp m 137 x1 0) Q) ∧ (¬ x1 < 8 → jK d zX11_casesIn [jO 11 104] m (fun v1 m1 => Q 0 (jUp m1 104 64 v1)))) :
    aX11_begins_11 d x1 m Q := jWp_snd [(11, [true, true, false, false, false, false, false]), (31, [true, true, true, false, true, false, false])] jcX11_begins 13 rfl h
set_option maxRecDepth 100000 in
theorem gX11_begins_31 (d : Nat) (x1 x2 x4 : Int) (m : jM) (Q : Int → jM → Prop)
    (h : (x4 < 8 → ((0 : Int) ≤ (w32 ((w32 (8 * x4)) + x1)) ∧ ((w32 ((w32 (8 * x4)) + x1)) : Int) < 64) ∧ ((m 129 (w32 ((w32 (8 * x4)) + x1))) = (-1) → aX11_begins_31 d x1 x2 (w32 (x4 + 1)) m Q) ∧ (¬ (m 129 (w32 ((w32 (8 * x4)) + x1))) = (-1) → (x2 = (-1) → aX11_begins_31 d x1 (m 129 (w32 ((w32 (8 * x4)) + x1))) (w32 (x4 + 1)) m Q) ∧ (¬ x2 = (-1) → ((m 129 (w32 ((w32 (8 * x4)) + x1))) < x2 → aX11_begins_31 d x1 (m 129 (w32 ((w32 (8 * x4)) + x1))) (w32 (x4 + 1)) m Q) ∧ (¬ (m 129 (w32 ((w32 (8 * x4)) + x1))) < x2 → aX11_begins_31 d x1 x2 (w32 (x4 + 1)) m Q)))) ∧ (¬ x4 < 8 → (x2 = (-1) → ((0 : Int) ≤ x1 ∧ (x1 : Int) < 8) ∧ aX11_begins_11 d (w32 (x1 + 1)) (jUp m 138 x1 0) Q) ∧ (¬ x2 = (-1) → ((0 : Int) ≤ x1 ∧ (x1 : Int) < 8) ∧ aX11_begins_11 d (w32 (x1 + 1)) (jUp m 138 x1 x2) Q))) :
    aX11_begins_31 d x1 x2 x4 m Q := jWp_snd [(11, [true, true, false, false, false, false, false]), (31, [true, true, true, false, true, false, false])] jcX11_begins 26 rfl h
def aX11_isLast_4 (d : Nat) (x1 x2 : Int) (m : jM) (Q : Int → jM → Prop) : Prop := jA (d + 1) zX11_isLast 4 [some (jO 11 104), some (jI x1), some (jI x2), none, none, none] [] m Q
def aX11_isLast_19 (d : Nat) (x1 x2 x3 : Int) (m : jM) (Q : Int → jM → Prop) : Prop := jA (d + 1) zX11_isLast 19 [some (jO 11 104), some (jI x1), some (jI x2), some (jI x3), none, none] [] m Q
def aX11_isLast_148 (d : Nat) (x2 x3 : Int) (m : jM) (Q : Int → jM → Prop) : Prop := jA (d + 1) zX11_isLast 148 [some (jO 11 104), none, some (jI x2), some (jI x3), none, none] [] m Q
def aX11_isLast_231 (d : Nat) (x3 x5 : Int) (m : jM) (Q : Int → jM → Prop) : Prop := jA (d + 1) zX11_isLast 231 [some (jO 11 104), none, none, some (jL x3), none, some (jI x5)] [] m Q
def aX11_isLast_270 (d : Nat) (x3 x5 : Int) (m : jM) (Q : Int → jM → Prop) : Prop := jA (d + 1) zX11_isLast 270 [some (jO 11 104), none, none, some (jL x3), none, some (jI x5)] [] m Q
set_option maxRecDepth 100000 in
theorem gX11_isLast (d : Nat) (m : jM) (Q : Int → jM → Prop)
    (h : aX11_isLast_4 d 0 0 m Q) :
    jK (d + 1) zX11_isLast [jO 11 104] m Q := jWp_sn0 [(4, [true, true, true, false, false, false]), (19, [true, true, true, true, false, false]), (148, [true, false, true, true, false, false]), (231, [true, false, false, true, false, true]), (270, [true, false, false, true, false, true])] jcX11_isLast 5 rfl h
set_option maxRecDepth 100000 in
theorem gX11_isLast_4 (d : Nat) (x1 x2 : Int) (m : jM) (Q : Int → jM → Prop)
    (h : (x2 < 8 → ((0 : Int) ≤ x2 ∧ (x2 : Int) < 8) ∧ aX11_isLast_19 d x1 x2 0 (jUp m 145 x2 0) Q) ∧ (¬ x2 < 8 → jK d zX11_marking [jO 11 104] (jUp m 104 50 (w32 ((m 104 50) + 1))) (fun v1 m1 => ((0 : Int) ≤ (m 104 50) ∧ ((m 104 50) : Int) < 120) ∧ ((0 : Int) ≤ (m 104 50) ∧ ((m 104 50) : Int) < 120) ∧ ((0 : Int) ≤ (m 104 50) ∧ ((m 104 50) : Int) < 120) ∧ ((0 : Int) ≤ (m 104 50) ∧ ((m 104 50) : Int) < 120) ∧ ((0 : Int) ≤ (m 104 50) ∧ ((m 104 50) : Int) < 120) ∧ aX11_isLast_148 d (m 104 50) 0 (jUp (jUp (jUp (jUp (jUp m1 139 (m 104 50) v1) 140 (m 104 50) ((jUp m1 139 (m 104 50) v1) 104 62)) 141 (m 104 50) ((jUp (jUp m1 139 (m 104 50) v1) 140 (m 104 50) ((jUp m1 139 (m 104 50) v1) 104 62)) 104 63)) 142 (m 104 50) x1) 147 (m 104 50) ((jUp (jUp (jUp (jUp m1 139 (m 104 50) v1) 140 (m 104 50) ((jUp m1 139 (m 104 50) v1) 104 62)) 141 (m 104 50) ((jUp (jUp m1 139 (m 104 50) v1) 140 (m 104 50) ((jUp m1 139 (m 104 50) v1) 104 62)) 104 63)) 142 (m 104 50) x1) 104 64)) Q))) :
    aX11_isLast_4 d x1 x2 m Q := jWp_snd [(4, [true, true, true, false, false, false]), (19, [true, true, true, true, false, false]), (148, [true, false, true, true, false, false]), (231, [true, false, false, true, false, true]), (270, [true, false, false, true, false, true])] jcX11_isLast 44 rfl h
set_option maxRecDepth 100000 in
theorem gX11_isLast_19 (d : Nat) (x1 x2 x3 : Int) (m : jM) (Q : Int → jM → Prop)
    (h : (x3 < 8 → ((0 : Int) ≤ (w32 ((w32 (8 * x3)) + x2)) ∧ ((w32 ((w32 (8 * x3)) + x2)) : Int) < 64) ∧ ((m 129 (w32 ((w32 (8 * x3)) + x2))) = (-1) → aX11_isLast_19 d x1 x2 (w32 (x3 + 1)) m Q) ∧ (¬ (m 129 (w32 ((w32 (8 * x3)) + x2))) = (-1) → jK d zX11_slack [jO 11 104, jI x3, jI x2] m (fun v1 m1 => (v1 = 0 → ((0 : Int) ≤ x2 ∧ (x2 : Int) < 8) ∧ ((0 : Int) ≤ x2 ∧ (x2 : Int) < 8) ∧ aX11_isLast_19 d (w32 (x1 + 1)) x2 (w32 (x3 + 1)) (jUp m1 145 x2 (iOr (m1 145 x2) (iShl 1 x3))) Q) ∧ (¬ v1 = 0 → aX11_isLast_19 d x1 x2 (w32 (x3 + 1)) m1 Q)))) ∧ (¬ x3 < 8 → aX11_isLast_4 d x1 (w32 (x2 + 1)) m Q)) :
    aX11_isLast_19 d x1 x2 x3 m Q := jWp_snd [(4, [true, true, true, false, false, false]), (19, [true, true, true, true, false, false]), (148, [true, false, true, true, false, false]), (231, [true, false, false, true, false, true]), (270, [true, false, false, true, false, true])] jcX11_isLast 33 rfl h
set_option maxRecDepth 100000 in
theorem gX11_isLast_148 (d : Nat) (x2 x3 : Int) (m : jM) (Q : Int → jM → Prop)
    (h : (x3 < 8 → ((0 : Int) ≤ x3 ∧ (x3 : Int) < 8) ∧ ((0 : Int) ≤ (w32 ((w32 ((w32 (2 * x2)) * 8)) + x3)) ∧ ((w32 ((w32 ((w32 (2 * x2)) * 8)) + x3)) : Int) < 1920) ∧ ((iAnd (iShr ((jUp m 144 (w32 ((w32 ((w32 (2 * x2)) * 8)) + x3)) (m 137 x3)) 104 64) x3) 1) = 1 → ((0 : Int) ≤ x3 ∧ (x3 : Int) < 8) ∧ ((0 : Int) ≤ (w32 ((w32 ((w32 ((w32 (2 * x2)) + 1)) * 8)) + x3)) ∧ ((w32 ((w32 ((w32 ((w32 (2 * x2)) + 1)) * 8)) + x3)) : Int) < 1920) ∧ aX11_isLast_148 d x2 (w32 (x3 + 1)) (jUp (jUp m 144 (w32 ((w32 ((w32 (2 * x2)) * 8)) + x3)) (m 137 x3)) 144 (w32 ((w32 ((w32 ((w32 (2 * x2)) + 1)) * 8)) + x3)) ((jUp m 144 (w32 ((w32 ((w32 (2 * x2)) * 8)) + x3)) (m 137 x3)) 138 x3)) Q) ∧ (¬ (iAnd (iShr ((jUp m 144 (w32 ((w32 ((w32 (2 * x2)) * 8)) + x3)) (m 137 x3)) 104 64) x3) 1) = 1 → ((0 : Int) ≤ (w32 ((w32 ((w32 ((w32 (2 * x2)) + 1)) * 8)) + x3)) ∧ ((w32 ((w32 ((w32 ((w32 (2 * x2)) + 1)) * 8)) + x3)) : Int) < 1920) ∧ aX11_isLast_148 d x2 (w32 (x3 + 1)) (jUp (jUp m 144 (w32 ((w32 ((w32 (2 * x2)) * 8)) + x3)) (m 137 x3)) 144 (w32 ((w32 ((w32 ((w32 (2 * x2)) + 1)) * 8)) + x3)) 0) Q)) ∧ (¬ x3 < 8 → jK d zX11_rise [jO 11 104] m (fun v1 m1 => ((0 : Int) ≤ x2 ∧ (x2 : Int) < 120) ∧ aX11_isLast_231 d v1 0 (jUp m1 143 x2 v1) Q))) :
    aX11_isLast_148 d x2 x3 m Q := jWp_snd [(4, [true, true, true, false, false, false]), (19, [true, true, true, true, false, false]), (148, [true, false, true, true, false, false]), (231, [true, false, false, true, false, true]), (270, [true, false, false, true, false, true])] jcX11_isLast 45 rfl h
set_option maxRecDepth 100000 in
theorem gX11_isLast_231 (d : Nat) (x3 x5 : Int) (m : jM) (Q : Int → jM → Prop)
    (h : (x5 < 8 → (x3 = (-1) → (x3 = (-1) → Q 1 m) ∧ (¬ x3 = (-1) → Q 0 m)) ∧ (¬ x3 = (-1) → ((iAnd (iShr (m 104 62) x5) 1) = 1 → ((0 : Int) ≤ x5 ∧ (x5 : Int) < 8) ∧ ((0 : Int) ≤ x5 ∧ (x5 : Int) < 8) ∧ aX11_isLast_270 d x3 x5 (jUp m 138 x5 (w64 ((m 138 x5) + x3))) Q) ∧ (¬ (iAnd (iShr (m 104 62) x5) 1) = 1 → aX11_isLast_270 d x3 x5 m Q))) ∧ (¬ x5 < 8 → (x3 = (-1) → Q 1 m) ∧ (¬ x3 = (-1) → Q 0 m))) :
    aX11_isLast_231 d x3 x5 m Q := jWp_snd [(4, [true, true, true, false, false, false]), (19, [true, true, true, true, false, false]), (148, [true, false, true, true, false, false]), (231, [true, false, false, true, false, true]), (270, [true, false, false, true, false, true])] jcX11_isLast 23 rfl h
set_option maxRecDepth 100000 in
theorem gX11_isLast_270 (d : Nat) (x3 x5 : Int) (m : jM) (Q : Int → jM → Prop)
    (h : ((iAnd (iShr (m 104 63) x5) 1) = 1 → ((0 : Int) ≤ x5 ∧ (x5 : Int) < 8) ∧ ((0 : Int) ≤ x5 ∧ (x5 : Int) < 8) ∧ aX11_isLast_231 d x3 (w32 (x5 + 1)) (jUp m 137 x5 (w64 ((m 137 x5) + x3))) Q) ∧ (¬ (iAnd (iShr (m 104 63) x5) 1) = 1 → aX11_isLast_231 d x3 (w32 (x5 + 1)) m Q)) :
    aX11_isLast_270 d x3 x5 m Q := jWp_snd [(4, [true, true, true, false, false, false]), (19, [true, true, true, true, false, false]), (148, [true, false, true, true, false, false]), (231, [true, false, false, true, false, true]), (270, [true, false, false, true, false, true])] jcX11_isLast 19 rfl h
def aX11_solve_6 (d : Nat) (x1 : Int) (m : jM) (Q : Int → jM → Prop) : Prop := jA (d + 1) zX11_solve 6 [some (jO 11 104), some (jI x1)] [] m Q
set_option maxRecDepth 100000 in
theorem gX11_solve (d : Nat) (m : jM) (Q : Int → jM → Prop)
    (h : jK d zX11_begins [jO 11 104] m (fun v1 m1 => aX11_solve_6 d 0 m1 Q)) :
    jK (d + 1) zX11_solve [jO 11 104] m Q := jWp_sn0 [(6, [true, true])] jcX11_solve 5 rfl h
set_option maxRecDepth 100000 in
theorem gX11_solve_6 (d : Nat) (x1 : Int) (m : jM) (Q : Int → jM → Prop)
    (h : (x1 = 0 → ((m 104 50) < 120 → jK d zX11_isLast [jO 11 104] m (fun v1 m1 => aX11_solve_6 d v1 m1 Q)) ∧ (¬ (m 104 50) < 120 → Q (m 104 50) m)) ∧ (¬ x1 = 0 → Q (m 104 50) m)) :
    aX11_solve_6 d x1 m Q := jWp_snd [(6, [true, true])] jcX11_solve 11 rfl h
set_option maxRecDepth 100000 in
theorem gX11_round (d : Nat) (x1 x2 : Int) (m : jM) (Q : Int → jM → Prop)
    (h : jK d zX11_in [jL x1, jL 0, jL (w32 ((m 104 50) - 1))] m (fun v1 m1 => (v1 = 0 → Q (-4611686018427387904) m1) ∧ (¬ v1 = 0 → jK d zX11_in [jL x2, jL 0, jL 5] m1 (fun v2 m2 => (v2 = 0 → Q (-4611686018427387904) m2) ∧ (¬ v2 = 0 → (x2 = 0 → ((0 : Int) ≤ x1 ∧ (x1 : Int) < 120) ∧ Q (m2 139 x1) m2) ∧ (¬ x2 = 0 → (x2 = 1 → ((0 : Int) ≤ x1 ∧ (x1 : Int) < 120) ∧ Q (m2 140 x1) m2) ∧ (¬ x2 = 1 → (x2 = 2 → ((0 : Int) ≤ x1 ∧ (x1 : Int) < 120) ∧ Q (m2 141 x1) m2) ∧ (¬ x2 = 2 → (x2 = 3 → ((0 : Int) ≤ x1 ∧ (x1 : Int) < 120) ∧ ((0 : Int) ≤ x1 ∧ (x1 : Int) < 120) ∧ ((0 : Int) ≤ x1 ∧ (x1 : Int) < 120) ∧ Q (iOr (m2 141 x1) (iShl (iAnd (m2 147 x1) (iXor (m2 140 x1) (-1))) 8)) m2) ∧ (¬ x2 = 3 → (x2 = 4 → ((0 : Int) ≤ x1 ∧ (x1 : Int) < 120) ∧ Q (m2 143 x1) m2) ∧ (¬ x2 = 4 → ((0 : Int) ≤ x1 ∧ (x1 : Int) < 120) ∧ Q (m2 142 x1) m2)))))))))) :
    jK (d + 1) zX11_round [jO 11 104, jI x1, jI x2] m Q := jWp_sn0 [] jcX11_round 48 rfl h
set_option maxRecDepth 100000 in
theorem gX11_price (d : Nat) (x1 x2 x3 : Int) (m : jM) (Q : Int → jM → Prop)
    (h : jK d zX11_in [jL x1, jL 0, jL (w32 ((m 104 50) - 1))] m (fun v1 m1 => (v1 = 0 → Q (-4611686018427387904) m1) ∧ (¬ v1 = 0 → jK d zX11_isWho [jI x2, jI x3] m1 (fun v2 m2 => (v2 = 0 → Q (-4611686018427387904) m2) ∧ (¬ v2 = 0 → ((0 : Int) ≤ (w32 ((w32 ((w32 ((w32 (2 * x1)) + x2)) * 8)) + x3)) ∧ ((w32 ((w32 ((w32 ((w32 (2 * x1)) + x2)) * 8)) + x3)) : Int) < 1920) ∧ Q (m2 144 (w32 ((w32 ((w32 ((w32 (2 * x1)) + x2)) * 8)) + x3))) m2))))) :
    jK (d + 1) zX11_price [jO 11 104, jI x1, jI x2, jI x3] m Q := jWp_sn0 [] jcX11_price 29 rfl h
def aX11_daysOf_6 (d : Nat) (x1 x2 : Int) (m : jM) (Q : Int → jM → Prop) : Prop := jA (d + 1) zX11_daysOf 6 [some (jO 11 104), some (jI x1), some (jI x2), none, none, none, none, none] [] m Q
def aX11_daysOf_35 (d : Nat) (x1 x2 x4 : Int) (m : jM) (Q : Int → jM → Prop) : Prop := jA (d + 1) zX11_daysOf 35 [some (jO 11 104), some (jI x1), some (jL x2), none, some (jI x4), none, none, none] [] m Q
def aX11_daysOf_81 (d : Nat) (x1 x2 x4 x7 : Int) (m : jM) (Q : Int → jM → Prop) : Prop := jA (d + 1) zX11_daysOf 81 [some (jO 11 104), some (jI x1), some (jL x2), none, some (jI x4), none, none, some (jI x7)] [] m Q
set_option maxRecDepth 100000 in
theorem gX11_daysOf (d : Nat) (x1 : Int) (m : jM) (Q : Int → jM → Prop)
    (h : jK d zX11_tellsBurdens [jO 11 104] m (fun v1 m1 => aX11_daysOf_6 d x1 0 m1 Q)) :
    jK (d + 1) zX11_daysOf [jO 11 104, jI x1] m Q := jWp_sn0 [(6, [true, true, true, false, false, false, false, false]), (35, [true, true, true, false, true, false, false, false]), (81, [true, true, true, false, true, false, false, true])] jcX11_daysOf 5 rfl h
set_option maxRecDepth 100000 in
theorem gX11_daysOf_6 (d : Nat) (x1 x2 : Int) (m : jM) (Q : Int → jM → Prop)
    (h : (x2 < 64 → ((0 : Int) ≤ x2 ∧ (x2 : Int) < 64) ∧ ((0 : Int) ≤ x2 ∧ (x2 : Int) < 64) ∧ aX11_daysOf_6 d x1 (w32 (x2 + 1)) (jUp m 148 x2 (m 108 x2)) Q) ∧ (¬ x2 < 64 → aX11_daysOf_35 d x1 0 0 m Q)) :
    aX11_daysOf_6 d x1 x2 m Q := jWp_snd [(6, [true, true, true, false, false, false, false, false]), (35, [true, true, true, false, true, false, false, false]), (81, [true, true, true, false, true, false, false, true])] jcX11_daysOf 14 rfl h
set_option maxRecDepth 100000 in
theorem gX11_daysOf_35 (d : Nat) (x1 x2 x4 : Int) (m : jM) (Q : Int → jM → Prop)
    (h : (x4 < x1 → jK d zX11_opens_ [jO 11 104, jY 0 64 148] m (fun v1 m1 => jK d zX11_least [jO 11 104] m1 (fun v2 m2 => (v2 = 1125899906842624 → Q 1125899906842624 m2) ∧ (¬ v2 = 1125899906842624 → jK d zX11_picks [jO 11 104, jI 0] m2 (fun v3 m3 => aX11_daysOf_81 d x1 (w64 (x2 + v2)) x4 0 m3 Q))))) ∧ (¬ x4 < x1 → Q x2 m)) :
    aX11_daysOf_35 d x1 x2 x4 m Q := jWp_snd [(6, [true, true, true, false, false, false, false, false]), (35, [true, true, true, false, true, false, false, false]), (81, [true, true, true, false, true, false, false, true])] jcX11_daysOf 23 rfl h
set_option maxRecDepth 100000 in
theorem gX11_daysOf_81 (d : Nat) (x1 x2 x4 x7 : Int) (m : jM) (Q : Int → jM → Prop)
    (h : (x7 < 8 → ((0 : Int) ≤ x7 ∧ (x7 : Int) < 8) ∧ ((m 132 x7) = (-1) → aX11_daysOf_81 d x1 x2 x4 (w32 (x7 + 1)) m Q) ∧ (¬ (m 132 x7) = (-1) → ((0 : Int) ≤ x7 ∧ (x7 : Int) < 8) ∧ ((0 : Int) ≤ (w32 ((w32 (8 * (m 132 x7))) + x7)) ∧ ((w32 ((w32 (8 * (m 132 x7))) + x7)) : Int) < 64) ∧ aX11_daysOf_81 d x1 x2 x4 (w32 (x7 + 1)) (jUp m 148 (w32 ((w32 (8 * (m 132 x7))) + x7)) 1) Q)) ∧ (¬ x7 < 8 → aX11_daysOf_35 d x1 x2 (w32 (x4 + 1)) m Q)) :
    aX11_daysOf_81 d x1 x2 x4 x7 m Q := jWp_snd [(6, [true, true, true, false, false, false, false, false]), (35, [true, true, true, false, true, false, false, false]), (81, [true, true, true, false, true, false, false, true])] jcX11_daysOf 24 rfl h
set_option maxRecDepth 100000 in
theorem gX11_days (d : Nat) (x1 : Int) (m : jM) (Q : Int → jM → Prop)
    (h : jK d zX11_in [jL x1, jL 1, jL 8] m (fun v1 m1 => (v1 = 0 → Q (-4611686018427387904) m1) ∧ (¬ v1 = 0 → jK d zX11_daysOf [jO 11 104, jI x1] m1 (fun v2 m2 => jK d zX11_toldOr [jL v2] m2 (fun v3 m3 => Q v3 m3))))) :
    jK (d + 1) zX11_days [jO 11 104, jI x1] m Q := jWp_sn0 [] jcX11_days 13 rfl h
set_option maxRecDepth 100000 in
theorem gX11_day (d : Nat) (x1 x2 : Int) (m : jM) (Q : Int → jM → Prop)
    (h : jK d zX11_in [jL x1, jL 0, jL 7] m (fun v1 m1 => (v1 = 0 → Q (-2) m1) ∧ (¬ v1 = 0 → jK d zX11_in [jL x2, jL 0, jL 7] m1 (fun v2 m2 => (v2 = 0 → Q (-2) m2) ∧ (¬ v2 = 0 → jK d zX11_daysOf [jO 11 104, jI (w32 (x1 + 1))] m2 (fun v3 m3 => (v3 = 1125899906842624 → Q (-3) m3) ∧ (¬ v3 = 1125899906842624 → ((0 : Int) ≤ x2 ∧ (x2 : Int) < 8) ∧ Q (m3 132 x2) m3))))))) :
    jK (d + 1) zX11_day [jO 11 104, jI x1, jI x2] m Q := jWp_sn0 [] jcX11_day 25 rfl h
def aX11_lack_21 (d : Nat) (x1 x2 : Int) (m : jM) (Q : Int → jM → Prop) : Prop := jA (d + 1) zX11_lack 21 [some (jO 11 104), some (jI x1), some (jI x2), none] [] m Q
def aX11_lack_36 (d : Nat) (x1 x2 x3 : Int) (m : jM) (Q : Int → jM → Prop) : Prop := jA (d + 1) zX11_lack 36 [some (jO 11 104), some (jI x1), some (jI x2), some (jI x3)] [] m Q
set_option maxRecDepth 100000 in
theorem gX11_lack (d : Nat) (x1 : Int) (m : jM) (Q : Int → jM → Prop)
    (h : jK d zX11_in [jL x1, jL 0, jL 2] m (fun v1 m1 => (v1 = 0 → Q (-2) m1) ∧ (¬ v1 = 0 → jK d zX11_costs [jO 11 104] m1 (fun v2 m2 => aX11_lack_21 d x1 0 m2 Q)))) :
    jK (d + 1) zX11_lack [jO 11 104, jI x1] m Q := jWp_sn0 [(21, [true, true, true, false]), (36, [true, true, true, true])] jcX11_lack 11 rfl h
set_option maxRecDepth 100000 in
theorem gX11_lack_21 (d : Nat) (x1 x2 : Int) (m : jM) (Q : Int → jM → Prop)
    (h : (x2 < 8 → ((0 : Int) ≤ x2 ∧ (x2 : Int) < 8) ∧ aX11_lack_36 d x1 x2 0 (jUp m 145 x2 0) Q) ∧ (¬ x2 < 8 → jK d zX11_marking [jO 11 104] m (fun v1 m1 => (x1 = 0 → jK d zX11_casesIn [jO 11 104] m1 (fun v2 m2 => jK d zJ6_bitCount_0f7a4 [jI v2] m2 (fun v3 m3 => Q (w32 (v3 - v1)) m3))) ∧ (¬ x1 = 0 → (x1 = 1 → Q (m1 104 62) m1) ∧ (¬ x1 = 1 → Q (m1 104 63) m1))))) :
    aX11_lack_21 d x1 x2 m Q := jWp_snd [(21, [true, true, true, false]), (36, [true, true, true, true])] jcX11_lack 16 rfl h
set_option maxRecDepth 100000 in
theorem gX11_lack_36 (d : Nat) (x1 x2 x3 : Int) (m : jM) (Q : Int → jM → Prop)
    (h : (x3 < 8 → ((0 : Int) ≤ (w32 ((w32 (8 * x3)) + x2)) ∧ ((w32 ((w32 (8 * x3)) + x2)) : Int) < 64) ∧ ((m 129 (w32 ((w32 (8 * x3)) + x2))) = (-1) → aX11_lack_36 d x1 x2 (w32 (x3 + 1)) m Q) ∧ (¬ (m 129 (w32 ((w32 (8 * x3)) + x2))) = (-1) → ((0 : Int) ≤ x2 ∧ (x2 : Int) < 8) ∧ ((0 : Int) ≤ x2 ∧ (x2 : Int) < 8) ∧ aX11_lack_36 d x1 x2 (w32 (x3 + 1)) (jUp m 145 x2 (iOr (m 145 x2) (iShl 1 x3))) Q)) ∧ (¬ x3 < 8 → aX11_lack_21 d x1 (w32 (x2 + 1)) m Q)) :
    aX11_lack_36 d x1 x2 x3 m Q := jWp_snd [(21, [true, true, true, false]), (36, [true, true, true, true])] jcX11_lack 26 rfl h
set_option maxRecDepth 100000 in
theorem gX11_without (d : Nat) (x1 x2 : Int) (m : jM) (Q : Int → jM → Prop)
    (h : jK d zX11_isWho [jI x1, jI x2] m (fun v1 m1 => (v1 = 0 → Q (-4611686018427387904) m1) ∧ (¬ v1 = 0 → ((0 : Int) ≤ (w32 ((w32 (8 * x1)) + x2)) ∧ ((w32 ((w32 (8 * x1)) + x2)) : Int) < 16) ∧ ((0 : Int) ≤ (w32 ((w32 (8 * x1)) + x2)) ∧ ((w32 ((w32 (8 * x1)) + x2)) : Int) < 16) ∧ jK d zX11_total [jO 11 104] (jUp m1 105 (w32 ((w32 (8 * x1)) + x2)) 0) (fun v2 m2 => ((0 : Int) ≤ (w32 ((w32 (8 * x1)) + x2)) ∧ ((w32 ((w32 (8 * x1)) + x2)) : Int) < 16) ∧ Q v2 (jUp m2 105 (w32 ((w32 (8 * x1)) + x2)) (m1 105 (w32 ((w32 (8 * x1)) + x2)))))))) :
    jK (d + 1) zX11_without [jO 11 104, jI x1, jI x2] m Q := jWp_sn0 [] jcX11_without 37 rfl h
set_option maxRecDepth 100000 in
theorem gX11_casesMany (d : Nat) (m : jM) (Q : Int → jM → Prop)
    (h : jK d zX11_casesIn [jO 11 104] m (fun v1 m1 => jK d zJ6_bitCount_0f7a4 [jI v1] m1 (fun v2 m2 => Q v2 m2))) :
    jK (d + 1) zX11_casesMany [jO 11 104] m Q := jWp_sn0 [] jcX11_casesMany 5 rfl h
def aX11_reads_22 (d : Nat) (x1 x2 x3 x4 : Int) (m : jM) (Q : Int → jM → Prop) : Prop := jA (d + 1) zX11_reads 22 [some (jO 11 104), some (jI x1), some (jI x2), some (jI x3), some (jI x4), none, none] [] m Q
set_option maxRecDepth 100000 in
theorem gX11_reads (d : Nat) (x1 : Int) (m : jM) (Q : Int → jM → Prop)
    (h : ((0 : Int) ≤ x1 ∧ (x1 : Int) < 4) ∧ jK d zX11_casesMany [jO 11 104] m (fun v1 m1 => ((m 159 x1) = v1 → aX11_reads_22 d x1 0 0 0 m1 Q) ∧ (¬ (m 159 x1) = v1 → Q 0 m1))) :
    jK (d + 1) zX11_reads [jO 11 104, jI x1] m Q := jWp_sn0 [(22, [true, true, true, true, true, false, false])] jcX11_reads 14 rfl h
set_option maxRecDepth 100000 in
theorem gX11_reads_22 (d : Nat) (x1 x2 x3 x4 : Int) (m : jM) (Q : Int → jM → Prop)
    (h : (x4 < 8 → ((0 : Int) ≤ x4 ∧ (x4 : Int) < 8) ∧ jK d zX11_isCase [jO 11 104, jI x4] (jUp m 132 x4 (-1)) (fun v1 m1 => (v1 = 0 → aX11_reads_22 d x1 x2 x3 (w32 (x4 + 1)) m1 Q) ∧ (¬ v1 = 0 → ((0 : Int) ≤ (w32 ((w32 (40 * x1)) + x2)) ∧ ((w32 ((w32 (40 * x1)) + x2)) : Int) < 160) ∧ jK d zX11_in [jL (m1 160 (w32 ((w32 (40 * x1)) + x2))), jL 0, jL 7] m1 (fun v2 m2 => (v2 = 0 → Q 0 m2) ∧ (¬ v2 = 0 → ((iAnd (iShr x3 (w32 (m1 160 (w32 ((w32 (40 * x1)) + x2))))) 1) = 1 → Q 0 m2) ∧ (¬ (iAnd (iShr x3 (w32 (m1 160 (w32 ((w32 (40 * x1)) + x2))))) 1) = 1 → ((0 : Int) ≤ (w32 ((w32 (8 * (w32 (m1 160 (w32 ((w32 (40 * x1)) + x2)))))) + x4)) ∧ ((w32 ((w32 (8 * (w32 (m1 160 (w32 ((w32 (40 * x1)) + x2)))))) + x4)) : Int) < 64) ∧ ((m2 129 (w32 ((w32 (8 * (w32 (m1 160 (w32 ((w32 (40 * x1)) + x2)))))) + x4))) = (-1) → Q 0 m2) ∧ (¬ (m2 129 (w32 ((w32 (8 * (w32 (m1 160 (w32 ((w32 (40 * x1)) + x2)))))) + x4))) = (-1) → ((0 : Int) ≤ x4 ∧ (x4 : Int) < 8) ∧ aX11_reads_22 d x1 (w32 (x2 + 1)) (iOr x3 (iShl 1 (w32 (m1 160 (w32 ((w32 (40 * x1)) + x2)))))) (w32 (x4 + 1)) (jUp m2 132 x4 (w32 (m1 160 (w32 ((w32 (40 * x1)) + x2))))) Q))))))) ∧ (¬ x4 < 8 → Q 1 m)) :
    aX11_reads_22 d x1 x2 x3 x4 m Q := jWp_snd [(22, [true, true, true, true, true, false, false])] jcX11_reads 62 rfl h
def aX11_tells_55 (d : Nat) (x2 x3 : Int) (m : jM) (Q : Int → jM → Prop) : Prop := jA (d + 1) zX11_tells 55 [some (jO 11 104), none, some (jI x2), some (jI x3), none, none, none] [] m Q
def aX11_tells_88 (d : Nat) (x3 x5 : Int) (m : jM) (Q : Int → jM → Prop) : Prop := jA (d + 1) zX11_tells 88 [some (jO 11 104), none, none, some (jL x3), none, some (jI x5), none] [] m Q
def aX11_tells_161 (d : Nat) (x3 x5 x6 : Int) (m : jM) (Q : Int → jM → Prop) : Prop := jA (d + 1) zX11_tells 161 [some (jO 11 104), none, none, some (jL x3), none, some (jI x5), some (jI x6)] [] m Q
set_option maxRecDepth 100000 in
theorem gX11_tells (d : Nat) (x1 x2 : Int) (m : jM) (Q : Int → jM → Prop)
    (h : jK d zX11_isSheet [jI x1] m (fun v1 m1 => (v1 = 0 → Q (-2) m1) ∧ (¬ v1 = 0 → jK d zX11_in [jL x2, jL 0, jL 2] m1 (fun v2 m2 => (v2 = 0 → Q (-2) m2) ∧ (¬ v2 = 0 → ((0 : Int) ≤ x1 ∧ (x1 : Int) < 4) ∧ ((m2 158 x1) = (-1) → Q (-11) m2) ∧ (¬ (m2 158 x1) = (-1) → jK d zX11_costs [jO 11 104] m2 (fun v3 m3 => jK d zX11_reads [jO 11 104, jI x1] m3 (fun v4 m4 => (v4 = 0 → Q (-3) m4) ∧ (¬ v4 = 0 → aX11_tells_55 d x2 0 m4 Q))))))))) :
    jK (d + 1) zX11_tells [jO 11 104, jI x1, jI x2] m Q := jWp_sn0 [(55, [true, false, true, true, false, false, false]), (88, [true, false, false, true, false, true, false]), (161, [true, false, false, true, false, true, true])] jcX11_tells 24 rfl h
set_option maxRecDepth 100000 in
theorem gX11_tells_55 (d : Nat) (x2 x3 : Int) (m : jM) (Q : Int → jM → Prop)
    (h : (x3 < 8 → ((0 : Int) ≤ x3 ∧ (x3 : Int) < 8) ∧ ((0 : Int) ≤ x3 ∧ (x3 : Int) < 8) ∧ aX11_tells_55 d x2 (w32 (x3 + 1)) (jUp m 149 x3 (m 132 x3)) Q) ∧ (¬ x3 < 8 → (x2 = 0 → aX11_tells_88 d 0 0 m Q) ∧ (¬ x2 = 0 → (x2 = 1 → jK d zX11_lists [jO 11 104] m (fun v1 m1 => jK d zX11_placeOf [jO 11 104] m1 (fun v2 m2 => Q v2 m2))) ∧ (¬ x2 = 1 → jK d zX11_least [jO 11 104] m (fun v3 m3 => aX11_tells_161 d v3 0 0 m3 Q))))) :
    aX11_tells_55 d x2 x3 m Q := jWp_snd [(55, [true, false, true, true, false, false, false]), (88, [true, false, false, true, false, true, false]), (161, [true, false, false, true, false, true, true])] jcX11_tells 16 rfl h
set_option maxRecDepth 100000 in
theorem gX11_tells_88 (d : Nat) (x3 x5 : Int) (m : jM) (Q : Int → jM → Prop)
    (h : (x5 < 8 → ((0 : Int) ≤ x5 ∧ (x5 : Int) < 8) ∧ ((m 149 x5) = (-1) → aX11_tells_88 d x3 (w32 (x5 + 1)) m Q) ∧ (¬ (m 149 x5) = (-1) → ((0 : Int) ≤ x5 ∧ (x5 : Int) < 8) ∧ ((0 : Int) ≤ (w32 ((w32 (8 * (m 149 x5))) + x5)) ∧ ((w32 ((w32 (8 * (m 149 x5))) + x5)) : Int) < 64) ∧ aX11_tells_88 d (w64 (x3 + (m 129 (w32 ((w32 (8 * (m 149 x5))) + x5))))) (w32 (x5 + 1)) m Q)) ∧ (¬ x5 < 8 → Q x3 m)) :
    aX11_tells_88 d x3 x5 m Q := jWp_snd [(55, [true, false, true, true, false, false, false]), (88, [true, false, false, true, false, true, false]), (161, [true, false, false, true, false, true, true])] jcX11_tells 26 rfl h
set_option maxRecDepth 100000 in
theorem gX11_tells_161 (d : Nat) (x3 x5 x6 : Int) (m : jM) (Q : Int → jM → Prop)
    (h : (x6 < 8 → ((0 : Int) ≤ x6 ∧ (x6 : Int) < 8) ∧ ((m 149 x6) = (-1) → aX11_tells_161 d x3 x5 (w32 (x6 + 1)) m Q) ∧ (¬ (m 149 x6) = (-1) → ((0 : Int) ≤ x6 ∧ (x6 : Int) < 8) ∧ jK d zX11_with [jO 11 104, jI (m 149 x6), jI x6] m (fun v1 m1 => (v1 = x3 → aX11_tells_161 d x3 (w32 (x5 + 1)) (w32 (x6 + 1)) m1 Q) ∧ (¬ v1 = x3 → aX11_tells_161 d x3 x5 (w32 (x6 + 1)) m1 Q)))) ∧ (¬ x6 < 8 → Q x5 m)) :
    aX11_tells_161 d x3 x5 x6 m Q := jWp_snd [(55, [true, false, true, true, false, false, false]), (88, [true, false, false, true, false, true, false]), (161, [true, false, false, true, false, true, true])] jcX11_tells 22 rfl h
def aX11_placeOf_2 (d : Nat) (x1 : Int) (m : jM) (Q : Int → jM → Prop) : Prop := jA (d + 1) zX11_placeOf 2 [some (jO 11 104), some (jI x1), none, none] [] m Q
def aX11_placeOf_14 (d : Nat) (x1 x2 x3 : Int) (m : jM) (Q : Int → jM → Prop) : Prop := jA (d + 1) zX11_placeOf 14 [some (jO 11 104), some (jI x1), some (jI x2), some (jI x3)] [] m Q
set_option maxRecDepth 100000 in
theorem gX11_placeOf (d : Nat) (m : jM) (Q : Int → jM → Prop)
    (h : aX11_placeOf_2 d 0 m Q) :
    jK (d + 1) zX11_placeOf [jO 11 104] m Q := jWp_sn0 [(2, [true, true, false, false]), (14, [true, true, true, true])] jcX11_placeOf 3 rfl h
set_option maxRecDepth 100000 in
theorem gX11_placeOf_2 (d : Nat) (x1 : Int) (m : jM) (Q : Int → jM → Prop)
    (h : (x1 < (m 104 48) → aX11_placeOf_14 d x1 0 0 m Q) ∧ (¬ x1 < (m 104 48) → Q (-1) m)) :
    aX11_placeOf_2 d x1 m Q := jWp_snd [(2, [true, true, false, false]), (14, [true, true, true, true])] jcX11_placeOf 9 rfl h
set_option maxRecDepth 100000 in
theorem gX11_placeOf_14 (d : Nat) (x1 x2 x3 : Int) (m : jM) (Q : Int → jM → Prop)
    (h : (x3 < 8 → ((0 : Int) ≤ (w32 ((w32 (8 * x1)) + x3)) ∧ ((w32 ((w32 (8 * x1)) + x3)) : Int) < 104) ∧ ((0 : Int) ≤ x3 ∧ (x3 : Int) < 8) ∧ ((m 135 (w32 ((w32 (8 * x1)) + x3))) = (m 149 x3) → aX11_placeOf_14 d x1 (w32 (x2 + 1)) (w32 (x3 + 1)) m Q) ∧ (¬ (m 135 (w32 ((w32 (8 * x1)) + x3))) = (m 149 x3) → aX11_placeOf_14 d x1 x2 (w32 (x3 + 1)) m Q)) ∧ (¬ x3 < 8 → (x2 = 8 → Q x1 m) ∧ (¬ x2 = 8 → aX11_placeOf_2 d (w32 (x1 + 1)) m Q))) :
    aX11_placeOf_14 d x1 x2 x3 m Q := jWp_snd [(2, [true, true, false, false]), (14, [true, true, true, true])] jcX11_placeOf 20 rfl h
def aX11_film_56 (d : Nat) (x1 x3 x4 : Int) (m : jM) (Q : Int → jM → Prop) : Prop := jA (d + 1) zX11_film 56 [some (jO 11 104), some (jI x1), none, some (jI x3), some (jI x4)] [] m Q
set_option maxRecDepth 100000 in
theorem gX11_film (d : Nat) (x1 x2 : Int) (m : jM) (Q : Int → jM → Prop)
    (h : jK d zX11_isSheet [jI x1] m (fun v1 m1 => (v1 = 0 → Q (-2) m1) ∧ (¬ v1 = 0 → jK d zX11_costs [jO 11 104] m1 (fun v2 m2 => jK d zX11_least [jO 11 104] m2 (fun v3 m3 => (v3 = 1125899906842624 → Q (-3) m3) ∧ (¬ v3 = 1125899906842624 → ((0 : Int) ≤ 0 ∧ (0 : Int) < 2304) ∧ jK d zX11_in [jL x2, jL 0, jL (w32 ((m3 131 0) - 1))] m3 (fun v4 m4 => (v4 = 0 → Q (-3) m4) ∧ (¬ v4 = 0 → jK d zX11_picks [jO 11 104, jI x2] m4 (fun v5 m5 => aX11_film_56 d x1 0 0 m5 Q))))))))) :
    jK (d + 1) zX11_film [jO 11 104, jI x1, jI x2] m Q := jWp_sn0 [(56, [true, true, false, true, true])] jcX11_film 29 rfl h
set_option maxRecDepth 100000 in
theorem gX11_film_56 (d : Nat) (x1 x3 x4 : Int) (m : jM) (Q : Int → jM → Prop)
    (h : (x4 < 8 → ((0 : Int) ≤ x4 ∧ (x4 : Int) < 8) ∧ ((m 132 x4) = (-1) → aX11_film_56 d x1 x3 (w32 (x4 + 1)) m Q) ∧ (¬ (m 132 x4) = (-1) → ((0 : Int) ≤ x4 ∧ (x4 : Int) < 8) ∧ ((0 : Int) ≤ (w32 ((w32 (40 * x1)) + x3)) ∧ ((w32 ((w32 (40 * x1)) + x3)) : Int) < 160) ∧ aX11_film_56 d x1 (w32 (x3 + 1)) (w32 (x4 + 1)) (jUp m 160 (w32 ((w32 (40 * x1)) + x3)) (m 132 x4)) Q)) ∧ (¬ x4 < 8 → ((0 : Int) ≤ x1 ∧ (x1 : Int) < 4) ∧ ((0 : Int) ≤ x1 ∧ (x1 : Int) < 4) ∧ Q x3 (jUp (jUp m 158 x1 0) 159 x1 x3))) :
    aX11_film_56 d x1 x3 x4 m Q := jWp_snd [(56, [true, true, false, true, true])] jcX11_film 26 rfl h
def aX11_copies_3 (d : Nat) (n0 y0 n1 y1 x2 x3 x4 x5 : Int) (m : jM) (Q : Int → jM → Prop) : Prop := jA (d + 1) zX11_copies 3 [some (jY 0 n0 y0), some (jY 0 n1 y1), some (jI x2), some (jI x3), some (jI x4), some (jI x5)] [] m Q
set_option maxRecDepth 100000 in
theorem gX11_copies (d : Nat) (n0 y0 n1 y1 x2 x3 x4 : Int) (m : jM) (Q : Int → jM → Prop)
    (h : aX11_copies_3 d n0 y0 n1 y1 x2 x3 x4 0 m Q) :
    jK (d + 1) zX11_copies [jY 0 n0 y0, jY 0 n1 y1, jI x2, jI x3, jI x4] m Q := jWp_sn0 [(3, [true, true, true, true, true, true])] jcX11_copies 3 rfl h
set_option maxRecDepth 100000 in
theorem gX11_copies_3 (d : Nat) (n0 y0 n1 y1 x2 x3 x4 x5 : Int) (m : jM) (Q : Int → jM → Prop)
    (h : (x5 < x3 → (x4 = 0 → ((0 : Int) ≤ x5 ∧ (x5 : Int) < n0) ∧ ((0 : Int) ≤ (w32 (x2 + x5)) ∧ ((w32 (x2 + x5)) : Int) < n1) ∧ aX11_copies_3 d n0 y0 n1 y1 x2 x3 x4 (w32 (x5 + 1)) (jUp m y1 (w32 (x2 + x5)) (m y0 x5)) Q) ∧ (¬ x4 = 0 → ((0 : Int) ≤ (w32 (x2 + x5)) ∧ ((w32 (x2 + x5)) : Int) < n1) ∧ ((0 : Int) ≤ x5 ∧ (x5 : Int) < n0) ∧ aX11_copies_3 d n0 y0 n1 y1 x2 x3 x4 (w32 (x5 + 1)) (jUp m y0 x5 (m y1 (w32 (x2 + x5)))) Q)) ∧ (¬ x5 < x3 → Q 0 m)) :
    aX11_copies_3 d n0 y0 n1 y1 x2 x3 x4 x5 m Q := jWp_snd [(3, [true, true, true, true, true, true])] jcX11_copies 17 rfl h
def aX11_keeps_202 (d : Nat) (x1 x3 : Int) (m : jM) (Q : Int → jM → Prop) : Prop := jA (d + 1) zX11_keeps 202 [some (jO 11 104), some (jI x1), none, some (jI x3)] [] m Q
set_option maxRecDepth 100000 in
theorem gX11_keeps (d : Nat) (x1 : Int) (m : jM) (Q : Int → jM → Prop)
    (h : jK d zX11_copies [jY 0 16 105, jY 0 16 150, jI 0, jI 16, jI x1] m (fun v1 m1 => jK d zX11_copies [jY 0 48 106, jY 0 48 151, jI 0, jI 48, jI x1] m1 (fun v2 m2 => jK d zX11_copies [jY 0 64 108, jY 0 64 153, jI 0, jI 64, jI x1] m2 (fun v3 m3 => jK d zX11_copies [jY 0 4 109, jY 0 4 154, jI 0, jI 4, jI x1] m3 (fun v4 m4 => jK d zX11_copies [jY 0 4 110, jY 0 4 155, jI 0, jI 4, jI x1] m4 (fun v5 m5 => jK d zX11_copies [jY 0 16 111, jY 0 16 156, jI 0, jI 16, jI x1] m5 (fun v6 m6 => jK d zX11_copies [jY 0 96 112, jY 0 672 157, jI 0, jI 96, jI x1] m6 (fun v7 m7 => jK d zX11_copies [jY 0 96 113, jY 0 672 157, jI 96, jI 96, jI x1] m7 (fun v8 m8 => jK d zX11_copies [jY 0 96 114, jY 0 672 157, jI (w32 (2 * 96)), jI 96, jI x1] m8 (fun v9 m9 => jK d zX11_copies [jY 0 96 115, jY 0 672 157, jI (w32 (3 * 96)), jI 96, jI x1] m9 (fun v10 m10 => jK d zX11_copies [jY 0 96 116, jY 0 672 157, jI (w32 (4 * 96)), jI 96, jI x1] m10 (fun v11 m11 => jK d zX11_copies [jY 0 96 117, jY 0 672 157, jI (w32 (5 * 96)), jI 96, jI x1] m11 (fun v12 m12 => jK d zX11_copies [jY 0 96 118, jY 0 672 157, jI (w32 (6 * 96)), jI 96, jI x1] m12 (fun v13 m13 => aX11_keeps_202 d x1 0 m13 Q)))))))))))))) :
    jK (d + 1) zX11_keeps [jO 11 104, jI x1] m Q := jWp_sn0 [(202, [true, true, false, true])] jcX11_keeps 119 rfl h
set_option maxRecDepth 100000 in
theorem gX11_keeps_202 (d : Nat) (x1 x3 : Int) (m : jM) (Q : Int → jM → Prop)
    (h : (x3 < 64 → (x1 = 0 → ((0 : Int) ≤ x3 ∧ (x3 : Int) < 64) ∧ ((0 : Int) ≤ x3 ∧ (x3 : Int) < 64) ∧ aX11_keeps_202 d x1 (w32 (x3 + 1)) (jUp m 152 x3 (m 107 x3)) Q) ∧ (¬ x1 = 0 → ((0 : Int) ≤ x3 ∧ (x3 : Int) < 64) ∧ ((0 : Int) ≤ x3 ∧ (x3 : Int) < 64) ∧ aX11_keeps_202 d x1 (w32 (x3 + 1)) (jUp m 107 x3 (m 152 x3)) Q)) ∧ (¬ x3 < 64 → Q 0 m)) :
    aX11_keeps_202 d x1 x3 m Q := jWp_snd [(202, [true, true, false, true])] jcX11_keeps 17 rfl h
set_option maxRecDepth 100000 in
theorem gX11_image (d : Nat) (m : jM) (Q : Int → jM → Prop)
    (h : jK d zX11_keeps [jO 11 104, jI 0] m (fun v1 m1 => jK d zX11_costs [jO 11 104] (jUp m1 104 68 1) (fun v2 m2 => jK d zX11_openMany [jO 11 104] m2 (fun v3 m3 => Q v3 m3)))) :
    jK (d + 1) zX11_image [jO 11 104] m Q := jWp_sn0 [] jcX11_image 12 rfl h
set_option maxRecDepth 100000 in
theorem gX11_back (d : Nat) (m : jM) (Q : Int → jM → Prop)
    (h : ((m 104 68) = 0 → Q (-3) m) ∧ (¬ (m 104 68) = 0 → jK d zX11_keeps [jO 11 104, jI 1] m (fun v1 m1 => jK d zX11_costs [jO 11 104] m1 (fun v2 m2 => jK d zX11_openMany [jO 11 104] m2 (fun v3 m3 => Q v3 m3))))) :
    jK (d + 1) zX11_back [jO 11 104] m Q := jWp_sn0 [] jcX11_back 12 rfl h
def aX11_marksOf_4 (d : Nat) (x1 x2 x3 : Int) (m : jM) (Q : Int → jM → Prop) : Prop := jA (d + 1) zX11_marksOf 4 [some (jO 11 104), some (jI x1), some (jI x2), some (jI x3)] [] m Q
set_option maxRecDepth 100000 in
theorem gX11_marksOf (d : Nat) (x1 : Int) (m : jM) (Q : Int → jM → Prop)
    (h : aX11_marksOf_4 d x1 0 0 m Q) :
    jK (d + 1) zX11_marksOf [jO 11 104, jI x1] m Q := jWp_sn0 [(4, [true, true, true, true])] jcX11_marksOf 5 rfl h
set_option maxRecDepth 100000 in
theorem gX11_marksOf_4 (d : Nat) (x1 x2 x3 : Int) (m : jM) (Q : Int → jM → Prop)
    (h : (x3 < 64 → ((0 : Int) ≤ x3 ∧ (x3 : Int) < 64) ∧ ((m 108 x3) = x1 → aX11_marksOf_4 d x1 (w32 (x2 + 1)) (w32 (x3 + 1)) m Q) ∧ (¬ (m 108 x3) = x1 → aX11_marksOf_4 d x1 x2 (w32 (x3 + 1)) m Q)) ∧ (¬ x3 < 64 → Q x2 m)) :
    aX11_marksOf_4 d x1 x2 x3 m Q := jWp_snd [(4, [true, true, true, true])] jcX11_marksOf 13 rfl h
def aX11_count_50 (d : Nat) (x2 x3 : Int) (m : jM) (Q : Int → jM → Prop) : Prop := jA (d + 1) zX11_count 50 [some (jO 11 104), none, some (jI x2), some (jI x3)] [] m Q
def aX11_count_101 (d : Nat) (x2 x3 : Int) (m : jM) (Q : Int → jM → Prop) : Prop := jA (d + 1) zX11_count 101 [some (jO 11 104), none, some (jI x2), some (jI x3)] [] m Q
set_option maxRecDepth 100000 in
theorem gX11_count (d : Nat) (x1 : Int) (m : jM) (Q : Int → jM → Prop)
    (h : (x1 = 0 + 0 → aX11_count_50 d 0 0 m Q) ∧ (x1 = 0 + 1 → jK d zX11_casesMany [jO 11 104] m (fun v1 m1 => Q v1 m1)) ∧ (x1 = 0 + 2 → jK d zX11_costs [jO 11 104] m (fun v2 m2 => jK d zX11_openMany [jO 11 104] m2 (fun v3 m3 => Q v3 m3))) ∧ (x1 = 0 + 3 → jK d zX11_marksOf [jO 11 104, jI 2] m (fun v4 m4 => Q v4 m4)) ∧ (x1 = 0 + 4 → jK d zX11_marksOf [jO 11 104, jI 1] m (fun v5 m5 => Q v5 m5)) ∧ (x1 = 0 + 5 → aX11_count_101 d 0 0 m Q) ∧ (x1 = 0 + 6 → Q (m 104 50) m) ∧ (x1 = 0 + 7 → Q (m 104 16) m) ∧ (x1 < 0 ∨ 7 < x1 → Q (-2) m) ∧ True) :
    jK (d + 1) zX11_count [jO 11 104, jI x1] m Q := jWp_sn0 [(50, [true, false, true, true]), (101, [true, false, true, true])] jcX11_count 10 rfl h
set_option maxRecDepth 100000 in
theorem gX11_count_50 (d : Nat) (x2 x3 : Int) (m : jM) (Q : Int → jM → Prop)
    (h : (x3 < 8 → ((0 : Int) ≤ x3 ∧ (x3 : Int) < 16) ∧ aX11_count_50 d (w32 (x2 + (m 105 x3))) (w32 (x3 + 1)) m Q) ∧ (¬ x3 < 8 → Q x2 m)) :
    aX11_count_50 d x2 x3 m Q := jWp_snd [(50, [true, false, true, true]), (101, [true, false, true, true])] jcX11_count 13 rfl h
set_option maxRecDepth 100000 in
theorem gX11_count_101 (d : Nat) (x2 x3 : Int) (m : jM) (Q : Int → jM → Prop)
    (h : (x3 < 64 → ((0 : Int) ≤ x3 ∧ (x3 : Int) < 64) ∧ ((m 107 x3) = (-1) → aX11_count_101 d x2 (w32 (x3 + 1)) m Q) ∧ (¬ (m 107 x3) = (-1) → aX11_count_101 d (w32 (x2 + 1)) (w32 (x3 + 1)) m Q)) ∧ (¬ x3 < 64 → Q x2 m)) :
    aX11_count_101 d x2 x3 m Q := jWp_snd [(50, [true, false, true, true]), (101, [true, false, true, true])] jcX11_count 13 rfl h
set_option maxRecDepth 100000 in
theorem gX11_isSheet (d : Nat) (x0 : Int) (m : jM) (Q : Int → jM → Prop)
    (h : jK d zX11_in [jL x0, jL 0, jL 3] m (fun v1 m1 => (if v1 = 0 ∨ v1 = 1 then Q v1 m1 else False))) :
    jK (d + 1) zX11_isSheet [jI x0] m Q := jWp_sn0 [] jcX11_isSheet 7 rfl h
def aX11_sheet_47 (d : Nat) (x1 x2 x3 : Int) (m : jM) (Q : Int → jM → Prop) : Prop := jA (d + 1) zX11_sheet 47 [some (jO 11 104), some (jI x1), some (jI x2), some (jI x3), none] [] m Q
def aX11_sheet_73 (d : Nat) (x1 x4 : Int) (m : jM) (Q : Int → jM → Prop) : Prop := jA (d + 1) zX11_sheet 73 [some (jO 11 104), some (jI x1), none, none, some (jI x4)] [] m Q
set_option maxRecDepth 100000 in
theorem gX11_sheet (d : Nat) (x1 x2 x3 : Int) (m : jM) (Q : Int → jM → Prop)
    (h : jK d zX11_isSheet [jI x1] m (fun v1 m1 => (v1 = 0 → Q (-2) m1) ∧ (¬ v1 = 0 → jK d zX11_in [jL x2, jL (-1), jL 2] m1 (fun v2 m2 => (v2 = 0 → Q (-2) m2) ∧ (¬ v2 = 0 → (x2 = (-1) → (x2 = (-1) → aX11_sheet_47 d x1 x2 x3 m2 Q) ∧ (¬ x2 = (-1) → (x3 < 0 → Q (-14) m2) ∧ (¬ x3 < 0 → aX11_sheet_47 d x1 x2 x3 m2 Q))) ∧ (¬ x2 = (-1) → (40 < x3 → Q (-2) m2) ∧ (¬ 40 < x3 → (x2 = (-1) → aX11_sheet_47 d x1 x2 x3 m2 Q) ∧ (¬ x2 = (-1) → (x3 < 0 → Q (-14) m2) ∧ (¬ x3 < 0 → aX11_sheet_47 d x1 x2 x3 m2 Q))))))))) :
    jK (d + 1) zX11_sheet [jO 11 104, jI x1, jI x2, jI x3] m Q := jWp_sn0 [(47, [true, true, true, true, false]), (73, [true, true, false, false, true])] jcX11_sheet 23 rfl h
set_option maxRecDepth 100000 in
theorem gX11_sheet_47 (d : Nat) (x1 x2 x3 : Int) (m : jM) (Q : Int → jM → Prop)
    (h : ((0 : Int) ≤ x1 ∧ (x1 : Int) < 4) ∧ (x2 = (-1) → ((0 : Int) ≤ x1 ∧ (x1 : Int) < 4) ∧ aX11_sheet_73 d x1 0 (jUp (jUp m 158 x1 x2) 159 x1 0) Q) ∧ (¬ x2 = (-1) → ((0 : Int) ≤ x1 ∧ (x1 : Int) < 4) ∧ aX11_sheet_73 d x1 0 (jUp (jUp m 158 x1 x2) 159 x1 x3) Q)) :
    aX11_sheet_47 d x1 x2 x3 m Q := jWp_snd [(47, [true, true, true, true, false]), (73, [true, true, false, false, true])] jcX11_sheet 17 rfl h
set_option maxRecDepth 100000 in
theorem gX11_sheet_73 (d : Nat) (x1 x4 : Int) (m : jM) (Q : Int → jM → Prop)
    (h : (x4 < 40 → ((0 : Int) ≤ (w32 ((w32 (40 * x1)) + x4)) ∧ ((w32 ((w32 (40 * x1)) + x4)) : Int) < 160) ∧ aX11_sheet_73 d x1 (w32 (x4 + 1)) (jUp m 160 (w32 ((w32 (40 * x1)) + x4)) 0) Q) ∧ (¬ x4 < 40 → Q 1 m)) :
    aX11_sheet_73 d x1 x4 m Q := jWp_snd [(47, [true, true, true, true, false]), (73, [true, true, false, false, true])] jcX11_sheet 15 rfl h
set_option maxRecDepth 100000 in
theorem gX11_put (d : Nat) (x1 x2 x3 : Int) (m : jM) (Q : Int → jM → Prop)
    (h : jK d zX11_isSheet [jI x1] m (fun v1 m1 => (v1 = 0 → Q (-2) m1) ∧ (¬ v1 = 0 → ((0 : Int) ≤ x1 ∧ (x1 : Int) < 4) ∧ ((m1 158 x1) = (-1) → Q (-11) m1) ∧ (¬ (m1 158 x1) = (-1) → ((0 : Int) ≤ x1 ∧ (x1 : Int) < 4) ∧ jK d zX11_in [jL x2, jL 0, jL (w32 ((m1 159 x1) - 1))] m1 (fun v2 m2 => (v2 = 0 → Q (-12) m2) ∧ (¬ v2 = 0 → ((0 : Int) ≤ x1 ∧ (x1 : Int) < 4) ∧ ((m2 158 x1) = 0 → ((0 : Int) ≤ (w32 ((w32 (40 * x1)) + x2)) ∧ ((w32 ((w32 (40 * x1)) + x2)) : Int) < 160) ∧ Q 1 (jUp m2 160 (w32 ((w32 (40 * x1)) + x2)) x3)) ∧ (¬ (m2 158 x1) = 0 → ((0 : Int) ≤ x1 ∧ (x1 : Int) < 4) ∧ ((m2 158 x1) = 1 → ((0 : Int) ≤ (w32 ((w32 (40 * x1)) + x2)) ∧ ((w32 ((w32 (40 * x1)) + x2)) : Int) < 160) ∧ Q 1 (jUp m2 160 (w32 ((w32 (40 * x1)) + x2)) (w32 x3))) ∧ (¬ (m2 158 x1) = 1 → ((0 : Int) ≤ (w32 ((w32 (40 * x1)) + x2)) ∧ ((w32 ((w32 (40 * x1)) + x2)) : Int) < 160) ∧ Q 1 (jUp m2 160 (w32 ((w32 (40 * x1)) + x2)) (i2b (w32 x3))))))))))) :
    jK (d + 1) zX11_put [jO 11 104, jI x1, jI x2, jL x3] m Q := jWp_sn0 [] jcX11_put 47 rfl h
set_option maxRecDepth 100000 in
theorem gX11_item (d : Nat) (x1 x2 : Int) (m : jM) (Q : Int → jM → Prop)
    (h : jK d zX11_isSheet [jI x1] m (fun v1 m1 => (v1 = 0 → Q (-4611686018427387904) m1) ∧ (¬ v1 = 0 → ((0 : Int) ≤ x1 ∧ (x1 : Int) < 4) ∧ ((m1 158 x1) = (-1) → Q (-4611686018427387904) m1) ∧ (¬ (m1 158 x1) = (-1) → ((0 : Int) ≤ x1 ∧ (x1 : Int) < 4) ∧ jK d zX11_in [jL x2, jL 0, jL (w32 ((m1 159 x1) - 1))] m1 (fun v2 m2 => (v2 = 0 → Q (-4611686018427387904) m2) ∧ (¬ v2 = 0 → ((0 : Int) ≤ (w32 ((w32 (40 * x1)) + x2)) ∧ ((w32 ((w32 (40 * x1)) + x2)) : Int) < 160) ∧ Q (m2 160 (w32 ((w32 (40 * x1)) + x2))) m2)))))) :
    jK (d + 1) zX11_item [jO 11 104, jI x1, jI x2] m Q := jWp_sn0 [] jcX11_item 32 rfl h
def aX11_copy_123 (d : Nat) (x1 x2 x3 x4 x5 x6 x7 : Int) (m : jM) (Q : Int → jM → Prop) : Prop := jA (d + 1) zX11_copy 123 [some (jO 11 104), some (jI x1), some (jI x2), some (jI x3), some (jI x4), some (jI x5), some (jI x6), some (jI x7), none] [] m Q
set_option maxRecDepth 100000 in
theorem gX11_copy (d : Nat) (x1 x2 x3 x4 x5 : Int) (m : jM) (Q : Int → jM → Prop)
    (h : jK d zX11_isSheet [jI x1] m (fun v1 m1 => (v1 = 0 → Q (-2) m1) ∧ (¬ v1 = 0 → jK d zX11_isSheet [jI x3] m1 (fun v2 m2 => (v2 = 0 → Q (-2) m2) ∧ (¬ v2 = 0 → ((0 : Int) ≤ x1 ∧ (x1 : Int) < 4) ∧ ((m2 158 x1) = (-1) → Q (-11) m2) ∧ (¬ (m2 158 x1) = (-1) → ((0 : Int) ≤ x3 ∧ (x3 : Int) < 4) ∧ ((m2 158 x3) = (-1) → Q (-11) m2) ∧ (¬ (m2 158 x3) = (-1) → ((0 : Int) ≤ x1 ∧ (x1 : Int) < 4) ∧ ((0 : Int) ≤ x3 ∧ (x3 : Int) < 4) ∧ ((m2 158 x1) = (m2 158 x3) → (x5 < 0 → Q (-12) m2) ∧ (¬ x5 < 0 → (x2 < 0 → Q (-12) m2) ∧ (¬ x2 < 0 → (x4 < 0 → Q (-12) m2) ∧ (¬ x4 < 0 → ((0 : Int) ≤ x1 ∧ (x1 : Int) < 4) ∧ ((w32 ((m2 159 x1) - x5)) < x2 → Q (-12) m2) ∧ (¬ (w32 ((m2 159 x1) - x5)) < x2 → ((0 : Int) ≤ x3 ∧ (x3 : Int) < 4) ∧ ((w32 ((m2 159 x3) - x5)) < x4 → Q (-12) m2) ∧ (¬ (w32 ((m2 159 x3) - x5)) < x4 → (x1 = x3 → (x2 < x4 → aX11_copy_123 d x1 x2 x3 x4 x5 1 0 m2 Q) ∧ (¬ x2 < x4 → aX11_copy_123 d x1 x2 x3 x4 x5 0 0 m2 Q)) ∧ (¬ x1 = x3 → aX11_copy_123 d x1 x2 x3 x4 x5 0 0 m2 Q))))))) ∧ (¬ (m2 158 x1) = (m2 158 x3) → Q (-13) m2)))))))) :
    jK (d + 1) zX11_copy [jO 11 104, jI x1, jI x2, jI x3, jI x4, jI x5] m Q := jWp_sn0 [(123, [true, true, true, true, true, true, true, true, false])] jcX11_copy 61 rfl h
set_option maxRecDepth 100000 in
theorem gX11_copy_123 (d : Nat) (x1 x2 x3 x4 x5 x6 x7 : Int) (m : jM) (Q : Int → jM → Prop)
    (h : (x7 < x5 → (x6 = 0 → ((0 : Int) ≤ (w32 ((w32 ((w32 (40 * x1)) + x2)) + x7)) ∧ ((w32 ((w32 ((w32 (40 * x1)) + x2)) + x7)) : Int) < 160) ∧ ((0 : Int) ≤ (w32 ((w32 ((w32 (40 * x3)) + x4)) + x7)) ∧ ((w32 ((w32 ((w32 (40 * x3)) + x4)) + x7)) : Int) < 160) ∧ aX11_copy_123 d x1 x2 x3 x4 x5 x6 (w32 (x7 + 1)) (jUp m 160 (w32 ((w32 ((w32 (40 * x3)) + x4)) + x7)) (m 160 (w32 ((w32 ((w32 (40 * x1)) + x2)) + x7)))) Q) ∧ (¬ x6 = 0 → ((0 : Int) ≤ (w32 ((w32 ((w32 (40 * x1)) + x2)) + (w32 ((w32 (x5 - 1)) - x7)))) ∧ ((w32 ((w32 ((w32 (40 * x1)) + x2)) + (w32 ((w32 (x5 - 1)) - x7)))) : Int) < 160) ∧ ((0 : Int) ≤ (w32 ((w32 ((w32 (40 * x3)) + x4)) + (w32 ((w32 (x5 - 1)) - x7)))) ∧ ((w32 ((w32 ((w32 (40 * x3)) + x4)) + (w32 ((w32 (x5 - 1)) - x7)))) : Int) < 160) ∧ aX11_copy_123 d x1 x2 x3 x4 x5 x6 (w32 (x7 + 1)) (jUp m 160 (w32 ((w32 ((w32 (40 * x3)) + x4)) + (w32 ((w32 (x5 - 1)) - x7)))) (m 160 (w32 ((w32 ((w32 (40 * x1)) + x2)) + (w32 ((w32 (x5 - 1)) - x7)))))) Q)) ∧ (¬ x7 < x5 → Q x5 m)) :
    aX11_copy_123 d x1 x2 x3 x4 x5 x6 x7 m Q := jWp_snd [(123, [true, true, true, true, true, true, true, true, false])] jcX11_copy 35 rfl h
def aX11_lay_98 (d : Nat) (x1 x2 x4 x5 x6 : Int) (m : jM) (Q : Int → jM → Prop) : Prop := jA (d + 1) zX11_lay 98 [some (jO 11 104), some (jI x1), some (jI x2), none, some (jI x4), some (jI x5), some (jI x6), none, none] [] m Q
set_option maxRecDepth 100000 in
theorem gX11_lay (d : Nat) (x1 x2 x3 x4 x5 : Int) (m : jM) (Q : Int → jM → Prop)
    (h : jK d zX11_isSheet [jI x1] m (fun v1 m1 => (v1 = 0 → Q (-2) m1) ∧ (¬ v1 = 0 → jK d zX11_in [jL x2, jL 0, jL 7] m1 (fun v2 m2 => (v2 = 0 → Q (-2) m2) ∧ (¬ v2 = 0 → jK d zX11_in [jL x3, jL 0, jL 2] m2 (fun v3 m3 => (v3 = 0 → Q (-2) m3) ∧ (¬ v3 = 0 → jK d zX11_in [jL x5, jL 1, jL 8] m3 (fun v4 m4 => (v4 = 0 → Q (-2) m4) ∧ (¬ v4 = 0 → ((0 : Int) ≤ x1 ∧ (x1 : Int) < 4) ∧ ((m4 158 x1) = (-1) → Q (-11) m4) ∧ (¬ (m4 158 x1) = (-1) → ((0 : Int) ≤ x1 ∧ (x1 : Int) < 4) ∧ ((m4 158 x1) = x3 → (x4 < 0 → Q (-12) m4) ∧ (¬ x4 < 0 → ((0 : Int) ≤ x1 ∧ (x1 : Int) < 4) ∧ ((w32 ((m4 159 x1) - x5)) < x4 → Q (-12) m4) ∧ (¬ (w32 ((m4 159 x1) - x5)) < x4 → aX11_lay_98 d x1 x2 x4 x5 0 m4 Q))) ∧ (¬ (m4 158 x1) = x3 → Q (-13) m4))))))))))) :
    jK (d + 1) zX11_lay [jO 11 104, jI x1, jI x2, jI x3, jI x4, jI x5] m Q := jWp_sn0 [(98, [true, true, true, false, true, true, true, false, false])] jcX11_lay 46 rfl h
set_option maxRecDepth 100000 in
theorem gX11_lay_98 (d : Nat) (x1 x2 x4 x5 x6 : Int) (m : jM) (Q : Int → jM → Prop)
    (h : (x6 < x5 → ((0 : Int) ≤ (w32 ((w32 ((w32 (40 * x1)) + x4)) + x6)) ∧ ((w32 ((w32 ((w32 (40 * x1)) + x4)) + x6)) : Int) < 160) ∧ (1000000000 : Int) ≠ 0 ∧ ((lRem (m 160 (w32 ((w32 ((w32 (40 * x1)) + x4)) + x6))) 1000000000) < 0 → ((0 : Int) ≤ (w32 ((w32 (8 * x2)) + x6)) ∧ ((w32 ((w32 (8 * x2)) + x6)) : Int) < 64) ∧ aX11_lay_98 d x1 x2 x4 x5 (w32 (x6 + 1)) (jUp m 107 (w32 ((w32 (8 * x2)) + x6)) (w64 (-(lRem (m 160 (w32 ((w32 ((w32 (40 * x1)) + x4)) + x6))) 1000000000)))) Q) ∧ (¬ (lRem (m 160 (w32 ((w32 ((w32 (40 * x1)) + x4)) + x6))) 1000000000) < 0 → ((0 : Int) ≤ (w32 ((w32 (8 * x2)) + x6)) ∧ ((w32 ((w32 (8 * x2)) + x6)) : Int) < 64) ∧ aX11_lay_98 d x1 x2 x4 x5 (w32 (x6 + 1)) (jUp m 107 (w32 ((w32 (8 * x2)) + x6)) (lRem (m 160 (w32 ((w32 ((w32 (40 * x1)) + x4)) + x6))) 1000000000)) Q)) ∧ (¬ x6 < x5 → Q x5 m)) :
    aX11_lay_98 d x1 x2 x4 x5 x6 m Q := jWp_snd [(98, [true, true, true, false, true, true, true, false, false])] jcX11_lay 33 rfl h
set_option maxRecDepth 100000 in
theorem gJ6_bitCount_0f7a4 (d : Nat) (x0 : Int) (m : jM) (Q : Int → jM → Prop)
    (h : Q (iAnd (w32 ((w32 ((iAnd (w32 ((w32 ((iAnd (w32 (x0 - (iAnd (iUshr x0 1) 1431655765))) 858993459) + (iAnd (iUshr (w32 (x0 - (iAnd (iUshr x0 1) 1431655765))) 2) 858993459))) + (iUshr (w32 ((iAnd (w32 (x0 - (iAnd (iUshr x0 1) 1431655765))) 858993459) + (iAnd (iUshr (w32 (x0 - (iAnd (iUshr x0 1) 1431655765))) 2) 858993459))) 4))) 252645135) + (iUshr (iAnd (w32 ((w32 ((iAnd (w32 (x0 - (iAnd (iUshr x0 1) 1431655765))) 858993459) + (iAnd (iUshr (w32 (x0 - (iAnd (iUshr x0 1) 1431655765))) 2) 858993459))) + (iUshr (w32 ((iAnd (w32 (x0 - (iAnd (iUshr x0 1) 1431655765))) 858993459) + (iAnd (iUshr (w32 (x0 - (iAnd (iUshr x0 1) 1431655765))) 2) 858993459))) 4))) 252645135) 8))) + (iUshr (w32 ((iAnd (w32 ((w32 ((iAnd (w32 (x0 - (iAnd (iUshr x0 1) 1431655765))) 858993459) + (iAnd (iUshr (w32 (x0 - (iAnd (iUshr x0 1) 1431655765))) 2) 858993459))) + (iUshr (w32 ((iAnd (w32 (x0 - (iAnd (iUshr x0 1) 1431655765))) 858993459) + (iAnd (iUshr (w32 (x0 - (iAnd (iUshr x0 1) 1431655765))) 2) 858993459))) 4))) 252645135) + (iUshr (iAnd (w32 ((w32 ((iAnd (w32 (x0 - (iAnd (iUshr x0 1) 1431655765))) 858993459) + (iAnd (iUshr (w32 (x0 - (iAnd (iUshr x0 1) 1431655765))) 2) 858993459))) + (iUshr (w32 ((iAnd (w32 (x0 - (iAnd (iUshr x0 1) 1431655765))) 858993459) + (iAnd (iUshr (w32 (x0 - (iAnd (iUshr x0 1) 1431655765))) 2) 858993459))) 4))) 252645135) 8))) 16))) 63) m) :
    jK (d + 1) zJ6_bitCount_0f7a4 [jI x0] m Q := jWp_sn0 [] jcJ6_bitCount_0f7a4 43 rfl h
set_option maxRecDepth 100000 in
theorem gJ9_floorDiv_f86c9 (d : Nat) (x0 x2 : Int) (m : jM) (Q : Int → jM → Prop)
    (h : (x2 : Int) ≠ 0 ∧ ((lXor x0 x2) < 0 → ((w64 ((lDiv x0 x2) * x2)) = x0 → Q (lDiv x0 x2) m) ∧ (¬ (w64 ((lDiv x0 x2) * x2)) = x0 → Q (w64 ((lDiv x0 x2) - 1)) m)) ∧ (¬ (lXor x0 x2) < 0 → Q (lDiv x0 x2) m)) :
    jK (d + 1) zJ9_floorDiv_f86c9 [jL x0, jL x2] m Q := jWp_sn0 [] jcJ9_floorDiv_f86c9 19 rfl h
set_option maxRecDepth 100000 in
theorem gJ9_floorMod_f86c9 (d : Nat) (x0 x2 : Int) (m : jM) (Q : Int → jM → Prop)
    (h : (x2 : Int) ≠ 0 ∧ ((lXor x0 x2) < 0 → ((lRem x0 x2) = 0 → Q (lRem x0 x2) m) ∧ (¬ (lRem x0 x2) = 0 → Q (w64 ((lRem x0 x2) + x2)) m)) ∧ (¬ (lXor x0 x2) < 0 → Q (lRem x0 x2) m)) :
    jK (d + 1) zJ9_floorMod_f86c9 [jL x0, jL x2] m Q := jWp_sn0 [] jcJ9_floorMod_f86c9 17 rfl h
set_option maxRecDepth 100000 in
theorem gJ9_abs_067f4 (d : Nat) (x0 : Int) (m : jM) (Q : Int → jM → Prop)
    (h : (x0 < 0 → Q (w64 (-x0)) m) ∧ (¬ x0 < 0 → Q x0 m)) :
    jK (d + 1) zJ9_abs_067f4 [jL x0] m Q := jWp_sn0 [] jcJ9_abs_067f4 8 rfl h
set_option maxRecDepth 100000 in
theorem gJ9_max_f86c9 (d : Nat) (x0 x2 : Int) (m : jM) (Q : Int → jM → Prop)
    (h : (x0 < x2 → Q x2 m) ∧ (¬ x0 < x2 → Q x0 m)) :
    jK (d + 1) zJ9_max_f86c9 [jL x0, jL x2] m Q := jWp_sn0 [] jcJ9_max_f86c9 7 rfl h
set_option maxRecDepth 100000 in
theorem gJ9_min_f86c9 (d : Nat) (x0 x2 : Int) (m : jM) (Q : Int → jM → Prop)
    (h : (x2 < x0 → Q x2 m) ∧ (¬ x2 < x0 → Q x0 m)) :
    jK (d + 1) zJ9_min_f86c9 [jL x0, jL x2] m Q := jWp_sn0 [] jcJ9_min_f86c9 7 rfl h
def aJ7_fill_d0a16_6 (d : Nat) (n0 y0 x1 x3 x4 : Int) (m : jM) (Q : Int → jM → Prop) : Prop := jA (d + 1) zJ7_fill_d0a16 6 [some (jY 1 n0 y0), some (jL x1), none, some (jI x3), some (jI x4)] [] m Q
set_option maxRecDepth 100000 in
theorem gJ7_fill_d0a16 (d : Nat) (n0 y0 x1 : Int) (m : jM) (Q : Int → jM → Prop)
    (h : aJ7_fill_d0a16_6 d n0 y0 x1 0 n0 m Q) :
    jK (d + 1) zJ7_fill_d0a16 [jY 1 n0 y0, jL x1] m Q := jWp_sn0 [(6, [true, true, false, true, true])] jcJ7_fill_d0a16 6 rfl h
set_option maxRecDepth 100000 in
theorem gJ7_fill_d0a16_6 (d : Nat) (n0 y0 x1 x3 x4 : Int) (m : jM) (Q : Int → jM → Prop)
    (h : (x3 < x4 → ((0 : Int) ≤ x3 ∧ (x3 : Int) < n0) ∧ aJ7_fill_d0a16_6 d n0 y0 x1 (w32 (x3 + 1)) x4 (jUp m y0 x3 x1) Q) ∧ (¬ x3 < x4 → Q 0 m)) :
    aJ7_fill_d0a16_6 d n0 y0 x1 x3 x4 m Q := jWp_snd [(6, [true, true, false, true, true])] jcJ7_fill_d0a16 10 rfl h
def aJ7_fill_53178_5 (d : Nat) (n0 y0 x1 x2 x3 : Int) (m : jM) (Q : Int → jM → Prop) : Prop := jA (d + 1) zJ7_fill_53178 5 [some (jY 0 n0 y0), some (jI x1), some (jI x2), some (jI x3)] [] m Q
set_option maxRecDepth 100000 in
theorem gJ7_fill_53178 (d : Nat) (n0 y0 x1 : Int) (m : jM) (Q : Int → jM → Prop)
    (h : aJ7_fill_53178_5 d n0 y0 x1 0 n0 m Q) :
    jK (d + 1) zJ7_fill_53178 [jY 0 n0 y0, jI x1] m Q := jWp_sn0 [(5, [true, true, true, true])] jcJ7_fill_53178 6 rfl h
set_option maxRecDepth 100000 in
theorem gJ7_fill_53178_5 (d : Nat) (n0 y0 x1 x2 x3 : Int) (m : jM) (Q : Int → jM → Prop)
    (h : (x2 < x3 → ((0 : Int) ≤ x2 ∧ (x2 : Int) < n0) ∧ aJ7_fill_53178_5 d n0 y0 x1 (w32 (x2 + 1)) x3 (jUp m y0 x2 x1) Q) ∧ (¬ x2 < x3 → Q 0 m)) :
    aJ7_fill_53178_5 d n0 y0 x1 x2 x3 m Q := jWp_snd [(5, [true, true, true, true])] jcJ7_fill_53178 10 rfl h
def aL_law_18 (d : Nat) (n0 y0 p1 p2 x3 : Int) (m : jM) (Q : Int → jM → Prop) : Prop := jA (d + 1) zL_law 18 [some (jY 4 n0 y0), some (jO 10 p1), some (jO 11 p2), some (jI x3)] [] m Q
set_option maxRecDepth 100000 in
theorem gL_law (d : Nat) (n0 y0 : Int) (m : jM) (Q : Int → jM → Prop)
    (h : (m (-3) 0 < m (-3) 1 ∧ jKd (m (-3) 0) = 10) ∧ jK d zX10_init [jO 10 (m (-3) 0)] (jLim (jNw m) zX10_init) (fun v1 m1 => ((jUp m1 (-3) 1 ((jNw m) (-3) 1)) (-3) 0 < (jUp m1 (-3) 1 ((jNw m) (-3) 1)) (-3) 1 ∧ jKd ((jUp m1 (-3) 1 ((jNw m) (-3) 1)) (-3) 0) = 11) ∧ jK d zX11_init [jO 11 ((jUp m1 (-3) 1 ((jNw m) (-3) 1)) (-3) 0)] (jLim (jNw (jUp m1 (-3) 1 ((jNw m) (-3) 1))) zX11_init) (fun v2 m2 => aL_law_18 d n0 y0 (m (-3) 0) ((jUp m1 (-3) 1 ((jNw m) (-3) 1)) (-3) 0) 0 (jUp m2 (-3) 1 ((jNw (jUp m1 (-3) 1 ((jNw m) (-3) 1))) (-3) 1)) Q))) :
    jK (d + 1) zL_law [jY 4 n0 y0] m Q := jWp_sn0 [(18, [true, true, true, true])] jcL_law 11 rfl h
set_option maxRecDepth 100000 in
theorem gL_law_18 (d : Nat) (n0 y0 p1 p2 x3 : Int) (m : jM) (Q : Int → jM → Prop)
    (h : ((w32 (n0 - 6)) < x3 → m (-3) 0 = m (-3) 1 ∧ Q 1 m) ∧ (¬ (w32 (n0 - 6)) < x3 → ((0 : Int) ≤ x3 ∧ (x3 : Int) < n0) ∧ ((iAnd (m y0 x3) 63) = 0 + 0 → ((0 : Int) ≤ (w32 (x3 + 1)) ∧ ((w32 (x3 + 1)) : Int) < n0) ∧ ((0 : Int) ≤ (w32 (x3 + 2)) ∧ ((w32 (x3 + 2)) : Int) < n0) ∧ ((0 : Int) ≤ (w32 (x3 + 3)) ∧ ((w32 (x3 + 3)) : Int) < n0) ∧ jFull m ∧ jK d zX10_here [jO 10 p1, jI (m y0 (w32 (x3 + 1))), jI (m y0 (w32 (x3 + 2))), jI (m y0 (w32 (x3 + 3)))] m (fun v1 m1 => jFull m1 → ((0 : Int) ≤ (w32 (x3 + 1)) ∧ ((w32 (x3 + 1)) : Int) < n0) ∧ ((0 : Int) ≤ (w32 (x3 + 2)) ∧ ((w32 (x3 + 2)) : Int) < n0) ∧ ((0 : Int) ≤ (w32 (x3 + 3)) ∧ ((w32 (x3 + 3)) : Int) < n0) ∧ jFull m1 ∧ jK d zX11_here [jO 11 p2, jI (m1 y0 (w32 (x3 + 1))), jI (m1 y0 (w32 (x3 + 2))), jI (m1 y0 (w32 (x3 + 3)))] m1 (fun v2 m2 => jFull m2 → (v1 = v2 → aL_law_18 d n0 y0 p1 p2 (w32 (x3 + 6)) m2 Q) ∧ (¬ v1 = v2 → m2 (-3) 0 = m2 (-3) 1 ∧ Q 0 m2)))) ∧ ((iAnd (m y0 x3) 63) = 0 + 1 → ((0 : Int) ≤ (w32 (x3 + 1)) ∧ ((w32 (x3 + 1)) : Int) < n0) ∧ ((0 : Int) ≤ (w32 (x3 + 2)) ∧ ((w32 (x3 + 2)) : Int) < n0) ∧ ((0 : Int) ≤ (w32 (x3 + 3)) ∧ ((w32 (x3 + 3)) : Int) < n0) ∧ ((0 : Int) ≤ (w32 (x3 + 4)) ∧ ((w32 (x3 + 4)) : Int) < n0) ∧ jFull m ∧ jK d zX10_trait [jO 10 p1, jI (m y0 (w32 (x3 + 1))), jI (m y0 (w32 (x3 + 2))), jI (m y0 (w32 (x3 + 3))), jI (m y0 (w32 (x3 + 4)))] m (fun v3 m3 => jFull m3 → ((0 : Int) ≤ (w32 (x3 + 1)) ∧ ((w32 (x3 + 1)) : Int) < n0) ∧ ((0 : Int) ≤ (w32 (x3 + 2)) ∧ ((w32 (x3 + 2)) : Int) < n0) ∧ ((0 : Int) ≤ (w32 (x3 + 3)) ∧ ((w32 (x3 + 3)) : Int) < n0) ∧ ((0 : Int) ≤ (w32 (x3 + 4)) ∧ ((w32 (x3 + 4)) : Int) < n0) ∧ jFull m3 ∧ jK d zX11_trait [jO 11 p2, jI (m3 y0 (w32 (x3 + 1))), jI (m3 y0 (w32 (x3 + 2))), jI (m3 y0 (w32 (x3 + 3))), jI (m3 y0 (w32 (x3 + 4)))] m3 (fun v4 m4 => jFull m4 → (v3 = v4 → aL_law_18 d n0 y0 p1 p2 (w32 (x3 + 6)) m4 Q) ∧ (¬ v3 = v4 → m4 (-3) 0 = m4 (-3) 1 ∧ Q 0 m4)))) ∧ ((iAnd (m y0 x3) 63) = 0 + 2 → ((0 : Int) ≤ (w32 (x3 + 1)) ∧ ((w32 (x3 + 1)) : Int) < n0) ∧ ((0 : Int) ≤ (w32 (x3 + 2)) ∧ ((w32 (x3 + 2)) : Int) < n0) ∧ ((0 : Int) ≤ (w32 (x3 + 3)) ∧ ((w32 (x3 + 3)) : Int) < n0) ∧ ((0 : Int) ≤ (w32 (x3 + 4)) ∧ ((w32 (x3 + 4)) : Int) < n0) ∧ jFull m ∧ jK d zX10_tell [jO 10 p1, jI (m y0 (w32 (x3 + 1))), jI (m y0 (w32 (x3 + 2))), jL (lOr (lShl (m y0 (w32 (x3 + 3))) 32) (lAnd (m y0 (w32 (x3 + 4))) 4294967295))] m (fun v5 m5 => jFull m5 → ((0 : Int) ≤ (w32 (x3 + 1)) ∧ ((w32 (x3 + 1)) : Int) < n0) ∧ ((0 : Int) ≤ (w32 (x3 + 2)) ∧ ((w32 (x3 + 2)) : Int) < n0) ∧ ((0 : Int) ≤ (w32 (x3 + 3)) ∧ ((w32 (x3 + 3)) : Int) < n0) ∧ ((0 : Int) ≤ (w32 (x3 + 4)) ∧ ((w32 (x3 + 4)) : Int) < n0) ∧ jFull m5 ∧ jK d zX11_tell [jO 11 p2, jI (m5 y0 (w32 (x3 + 1))), jI (m5 y0 (w32 (x3 + 2))), jL (lOr (lShl (m5 y0 (w32 (x3 + 3))) 32) (lAnd (m5 y0 (w32 (x3 + 4))) 4294967295))] m5 (fun v6 m6 => jFull m6 → (v5 = v6 → aL_law_18 d n0 y0 p1 p2 (w32 (x3 + 6)) m6 Q) ∧ (¬ v5 = v6 → m6 (-3) 0 = m6 (-3) 1 ∧ Q 0 m6)))) ∧ ((iAnd (m y0 x3) 63) = 0 + 3 → ((0 : Int) ≤ (w32 (x3 + 1)) ∧ ((w32 (x3 + 1)) : Int) < n0) ∧ ((0 : Int) ≤ (w32 (x3 + 2)) ∧ ((w32 (x3 + 2)) : Int) < n0) ∧ jFull m ∧ jK d zX10_burden [jO 10 p1, jI (m y0 (w32 (x3 + 1))), jI (m y0 (w32 (x3 + 2)))] m (fun v7 m7 => jFull m7 → ((0 : Int) ≤ (w32 (x3 + 1)) ∧ ((w32 (x3 + 1)) : Int) < n0) ∧ ((0 : Int) ≤ (w32 (x3 + 2)) ∧ ((w32 (x3 + 2)) : Int) < n0) ∧ jFull m7 ∧ jK d zX11_burden [jO 11 p2, jI (m7 y0 (w32 (x3 + 1))), jI (m7 y0 (w32 (x3 + 2)))] m7 (fun v8 m8 => jFull m8 → (v7 = v8 → aL_law_18 d n0 y0 p1 p2 (w32 (x3 + 6)) m8 Q) ∧ (¬ v7 = v8 → m8 (-3) 0 = m8 (-3) 1 ∧ Q 0 m8)))) ∧ ((iAnd (m y0 x3) 63) = 0 + 4 → ((0 : Int) ≤ (w32 (x3 + 1)) ∧ ((w32 (x3 + 1)) : Int) < n0) ∧ ((0 : Int) ≤ (w32 (x3 + 2)) ∧ ((w32 (x3 + 2)) : Int) < n0) ∧ ((0 : Int) ≤ (w32 (x3 + 3)) ∧ ((w32 (x3 + 3)) : Int) < n0) ∧ jFull m ∧ jK d zX10_mark [jO 10 p1, jI (m y0 (w32 (x3 + 1))), jI (m y0 (w32 (x3 + 2))), jI (m y0 (w32 (x3 + 3)))] m (fun v9 m9 => jFull m9 → ((0 : Int) ≤ (w32 (x3 + 1)) ∧ ((w32 (x3 + 1)) : Int) < n0) ∧ ((0 : Int) ≤ (w32 (x3 + 2)) ∧ ((w32 (x3 + 2)) : Int) < n0) ∧ ((0 : Int) ≤ (w32 (x3 + 3)) ∧ ((w32 (x3 + 3)) : Int) < n0) ∧ jFull m9 ∧ jK d zX11_mark [jO 11 p2, jI (m9 y0 (w32 (x3 + 1))), jI (m9 y0 (w32 (x3 + 2))), jI (m9 y0 (w32 (x3 + 3)))] m9 (fun v10 m10 => jFull m10 → (v9 = v10 → aL_law_18 d n0 y0 p1 p2 (w32 (x3 + 6)) m10 Q) ∧ (¬ v9 = v10 → m10 (-3) 0 = m10 (-3) 1 ∧ Q 0 m10)))) ∧ ((iAnd (m y0 x3) 63) = 0 + 5 → ((0 : Int) ≤ (w32 (x3 + 1)) ∧ ((w32 (x3 + 1)) : Int) < n0) ∧ ((0 : Int) ≤ (w32 (x3 + 2)) ∧ ((w32 (x3 + 2)) : Int) < n0) ∧ jFull m ∧ jK d zX10_open [jO 10 p1, jI (m y0 (w32 (x3 + 1))), jI (m y0 (w32 (x3 + 2)))] m (fun v11 m11 => jFull m11 → ((0 : Int) ≤ (w32 (x3 + 1)) ∧ ((w32 (x3 + 1)) : Int) < n0) ∧ ((0 : Int) ≤ (w32 (x3 + 2)) ∧ ((w32 (x3 + 2)) : Int) < n0) ∧ jFull m11 ∧ jK d zX11_open [jO 11 p2, jI (m11 y0 (w32 (x3 + 1))), jI (m11 y0 (w32 (x3 + 2)))] m11 (fun v12 m12 => jFull m12 → (v11 = v12 → aL_law_18 d n0 y0 p1 p2 (w32 (x3 + 6)) m12 Q) ∧ (¬ v11 = v12 → m12 (-3) 0 = m12 (-3) 1 ∧ Q 0 m12)))) ∧ ((iAnd (m y0 x3) 63) = 0 + 6 → ((0 : Int) ≤ (w32 (x3 + 1)) ∧ ((w32 (x3 + 1)) : Int) < n0) ∧ jFull m ∧ jK d zX10_feed [jO 10 p1, jI (m y0 (w32 (x3 + 1)))] m (fun v13 m13 => jFull m13 → ((0 : Int) ≤ (w32 (x3 + 1)) ∧ ((w32 (x3 + 1)) : Int) < n0) ∧ jFull m13 ∧ jK d zX11_feed [jO 11 p2, jI (m13 y0 (w32 (x3 + 1)))] m13 (fun v14 m14 => jFull m14 → (v13 = v14 → aL_law_18 d n0 y0 p1 p2 (w32 (x3 + 6)) m14 Q) ∧ (¬ v13 = v14 → m14 (-3) 0 = m14 (-3) 1 ∧ Q 0 m14)))) ∧ ((iAnd (m y0 x3) 63) = 0 + 7 → ((0 : Int) ≤ (w32 (x3 + 1)) ∧ ((w32 (x3 + 1)) : Int) < n0) ∧ jFull m ∧ jK d zX10_text [jO 10 p1, jI (m y0 (w32 (x3 + 1)))] m (fun v15 m15 => jFull m15 → ((0 : Int) ≤ (w32 (x3 + 1)) ∧ ((w32 (x3 + 1)) : Int) < n0) ∧ jFull m15 ∧ jK d zX11_text [jO 11 p2, jI (m15 y0 (w32 (x3 + 1)))] m15 (fun v16 m16 => jFull m16 → (v15 = v16 → aL_law_18 d n0 y0 p1 p2 (w32 (x3 + 6)) m16 Q) ∧ (¬ v15 = v16 → m16 (-3) 0 = m16 (-3) 1 ∧ Q 0 m16)))) ∧ ((iAnd (m y0 x3) 63) = 0 + 8 → ((0 : Int) ≤ (w32 (x3 + 1)) ∧ ((w32 (x3 + 1)) : Int) < n0) ∧ jFull m ∧ jK d zX10_empty [jO 10 p1, jI (m y0 (w32 (x3 + 1)))] m (fun v17 m17 => jFull m17 → ((0 : Int) ≤ (w32 (x3 + 1)) ∧ ((w32 (x3 + 1)) : Int) < n0) ∧ jFull m17 ∧ jK d zX11_empty [jO 11 p2, jI (m17 y0 (w32 (x3 + 1)))] m17 (fun v18 m18 => jFull m18 → (v17 = v18 → aL_law_18 d n0 y0 p1 p2 (w32 (x3 + 6)) m18 Q) ∧ (¬ v17 = v18 → m18 (-3) 0 = m18 (-3) 1 ∧ Q 0 m18)))) ∧ ((iAnd (m y0 x3) 63) = 0 + 9 → ((0 : Int) ≤ (w32 (x3 + 1)) ∧ ((w32 (x3 + 1)) : Int) < n0) ∧ ((0 : Int) ≤ (w32 (x3 + 2)) ∧ ((w32 (x3 + 2)) : Int) < n0) ∧ jFull m ∧ jK d zX10_told [jO 10 p1, jI (m y0 (w32 (x3 + 1))), jI (m y0 (w32 (x3 + 2)))] m (fun v19 m19 => jFull m19 → ((0 : Int) ≤ (w32 (x3 + 1)) ∧ ((w32 (x3 + 1)) : Int) < n0) ∧ ((0 : Int) ≤ (w32 (x3 + 2)) ∧ ((w32 (x3 + 2)) : Int) < n0) ∧ jFull m19 ∧ jK d zX11_told [jO 11 p2, jI (m19 y0 (w32 (x3 + 1))), jI (m19 y0 (w32 (x3 + 2)))] m19 (fun v20 m20 => jFull m20 → (v19 = v20 → aL_law_18 d n0 y0 p1 p2 (w32 (x3 + 6)) m20 Q) ∧ (¬ v19 = v20 → m20 (-3) 0 = m20 (-3) 1 ∧ Q 0 m20)))) ∧ ((iAnd (m y0 x3) 63) = 0 + 10 → ((0 : Int) ≤ (w32 (x3 + 1)) ∧ ((w32 (x3 + 1)) : Int) < n0) ∧ ((0 : Int) ≤ (w32 (x3 + 2)) ∧ ((w32 (x3 + 2)) : Int) < n0) ∧ ((0 : Int) ≤ (w32 (x3 + 3)) ∧ ((w32 (x3 + 3)) : Int) < n0) ∧ jFull m ∧ jK d zX10_value [jO 10 p1, jI (m y0 (w32 (x3 + 1))), jI (m y0 (w32 (x3 + 2))), jI (m y0 (w32 (x3 + 3)))] m (fun v21 m21 => jFull m21 → ((0 : Int) ≤ (w32 (x3 + 1)) ∧ ((w32 (x3 + 1)) : Int) < n0) ∧ ((0 : Int) ≤ (w32 (x3 + 2)) ∧ ((w32 (x3 + 2)) : Int) < n0) ∧ ((0 : Int) ≤ (w32 (x3 + 3)) ∧ ((w32 (x3 + 3)) : Int) < n0) ∧ jFull m21 ∧ jK d zX11_value [jO 11 p2, jI (m21 y0 (w32 (x3 + 1))), jI (m21 y0 (w32 (x3 + 2))), jI (m21 y0 (w32 (x3 + 3)))] m21 (fun v22 m22 => jFull m22 → (v21 = v22 → aL_law_18 d n0 y0 p1 p2 (w32 (x3 + 6)) m22 Q) ∧ (¬ v21 = v22 → m22 (-3) 0 = m22 (-3) 1 ∧ Q 0 m22)))) ∧ ((iAnd (m y0 x3) 63) = 0 + 11 → ((0 : Int) ≤ (w32 (x3 + 1)) ∧ ((w32 (x3 + 1)) : Int) < n0) ∧ ((0 : Int) ≤ (w32 (x3 + 2)) ∧ ((w32 (x3 + 2)) : Int) < n0) ∧ ((0 : Int) ≤ (w32 (x3 + 3)) ∧ ((w32 (x3 + 3)) : Int) < n0) ∧ jFull m ∧ jK d zX10_why [jO 10 p1, jI (m y0 (w32 (x3 + 1))), jI (m y0 (w32 (x3 + 2))), jI (m y0 (w32 (x3 + 3)))] m (fun v23 m23 => jFull m23 → ((0 : Int) ≤ (w32 (x3 + 1)) ∧ ((w32 (x3 + 1)) : Int) < n0) ∧ ((0 : Int) ≤ (w32 (x3 + 2)) ∧ ((w32 (x3 + 2)) : Int) < n0) ∧ ((0 : Int) ≤ (w32 (x3 + 3)) ∧ ((w32 (x3 + 3)) : Int) < n0) ∧ jFull m23 ∧ jK d zX11_why [jO 11 p2, jI (m23 y0 (w32 (x3 + 1))), jI (m23 y0 (w32 (x3 + 2))), jI (m23 y0 (w32 (x3 + 3)))] m23 (fun v24 m24 => jFull m24 → (v23 = v24 → aL_law_18 d n0 y0 p1 p2 (w32 (x3 + 6)) m24 Q) ∧ (¬ v23 = v24 → m24 (-3) 0 = m24 (-3) 1 ∧ Q 0 m24)))) ∧ ((iAnd (m y0 x3) 63) = 0 + 12 → jFull m ∧ jK d zX10_solve [jO 10 p1] m (fun v25 m25 => jFull m25 → jFull m25 ∧ jK d zX11_solve [jO 11 p2] m25 (fun v26 m26 => jFull m26 → (v25 = v26 → aL_law_18 d n0 y0 p1 p2 (w32 (x3 + 6)) m26 Q) ∧ (¬ v25 = v26 → m26 (-3) 0 = m26 (-3) 1 ∧ Q 0 m26)))) ∧ ((iAnd (m y0 x3) 63) = 0 + 13 → ((0 : Int) ≤ (w32 (x3 + 1)) ∧ ((w32 (x3 + 1)) : Int) < n0) ∧ ((0 : Int) ≤ (w32 (x3 + 2)) ∧ ((w32 (x3 + 2)) : Int) < n0) ∧ jFull m ∧ jK d zX10_round [jO 10 p1, jI (m y0 (w32 (x3 + 1))), jI (m y0 (w32 (x3 + 2)))] m (fun v27 m27 => jFull m27 → ((0 : Int) ≤ (w32 (x3 + 1)) ∧ ((w32 (x3 + 1)) : Int) < n0) ∧ ((0 : Int) ≤ (w32 (x3 + 2)) ∧ ((w32 (x3 + 2)) : Int) < n0) ∧ jFull m27 ∧ jK d zX11_round [jO 11 p2, jI (m27 y0 (w32 (x3 + 1))), jI (m27 y0 (w32 (x3 + 2)))] m27 (fun v28 m28 => jFull m28 → (v27 = v28 → aL_law_18 d n0 y0 p1 p2 (w32 (x3 + 6)) m28 Q) ∧ (¬ v27 = v28 → m28 (-3) 0 = m28 (-3) 1 ∧ Q 0 m28)))) ∧ ((iAnd (m y0 x3) 63) = 0 + 14 → ((0 : Int) ≤ (w32 (x3 + 1)) ∧ ((w32 (x3 + 1)) : Int) < n0) ∧ ((0 : Int) ≤ (w32 (x3 + 2)) ∧ ((w32 (x3 + 2)) : Int) < n0) ∧ ((0 : Int) ≤ (w32 (x3 + 3)) ∧ ((w32 (x3 + 3)) : Int) < n0) ∧ jFull m ∧ jK d zX10_price [jO 10 p1, jI (m y0 (w32 (x3 + 1))), jI (m y0 (w32 (x3 + 2))), jI (m y0 (w32 (x3 + 3)))] m (fun v29 m29 => jFull m29 → ((0 : Int) ≤ (w32 (x3 + 1)) ∧ ((w32 (x3 + 1)) : Int) < n0) ∧ ((0 : Int) ≤ (w32 (x3 + 2)) ∧ ((w32 (x3 + 2)) : Int) < n0) ∧ ((0 : Int) ≤ (w32 (x3 + 3)) ∧ ((w32 (x3 + 3)) : Int) < n0) ∧ jFull m29 ∧ jK d zX11_price [jO 11 p2, jI (m29 y0 (w32 (x3 + 1))), jI (m29 y0 (w32 (x3 + 2))), jI (m29 y0 (w32 (x3 + 3)))] m29 (fun v30 m30 => jFull m30 → (v29 = v30 → aL_law_18 d n0 y0 p1 p2 (w32 (x3 + 6)) m30 Q) ∧ (¬ v29 = v30 → m30 (-3) 0 = m30 (-3) 1 ∧ Q 0 m30)))) ∧ ((iAnd (m y0 x3) 63) = 0 + 15 → jFull m ∧ jK d zX10_total [jO 10 p1] m (fun v31 m31 => jFull m31 → jFull m31 ∧ jK d zX11_total [jO 11 p2] m31 (fun v32 m32 => jFull m32 → (v31 = v32 → aL_law_18 d n0 y0 p1 p2 (w32 (x3 + 6)) m32 Q) ∧ (¬ v31 = v32 → m32 (-3) 0 = m32 (-3) 1 ∧ Q 0 m32)))) ∧ ((iAnd (m y0 x3) 63) = 0 + 16 → jFull m ∧ jK d zX10_many [jO 10 p1] m (fun v33 m33 => jFull m33 → jFull m33 ∧ jK d zX11_many [jO 11 p2] m33 (fun v34 m34 => jFull m34 → (v33 = v34 → aL_law_18 d n0 y0 p1 p2 (w32 (x3 + 6)) m34 Q) ∧ (¬ v33 = v34 → m34 (-3) 0 = m34 (-3) 1 ∧ Q 0 m34)))) ∧ ((iAnd (m y0 x3) 63) = 0 + 17 → ((0 : Int) ≤ (w32 (x3 + 1)) ∧ ((w32 (x3 + 1)) : Int) < n0) ∧ ((0 : Int) ≤ (w32 (x3 + 2)) ∧ ((w32 (x3 + 2)) : Int) < n0) ∧ jFull m ∧ jK d zX10_best [jO 10 p1, jI (m y0 (w32 (x3 + 1))), jI (m y0 (w32 (x3 + 2)))] m (fun v35 m35 => jFull m35 → ((0 : Int) ≤ (w32 (x3 + 1)) ∧ ((w32 (x3 + 1)) : Int) < n0) ∧ ((0 : Int) ≤ (w32 (x3 + 2)) ∧ ((w32 (x3 + 2)) : Int) < n0) ∧ jFull m35 ∧ jK d zX11_best [jO 11 p2, jI (m35 y0 (w32 (x3 + 1))), jI (m35 y0 (w32 (x3 + 2)))] m35 (fun v36 m36 => jFull m36 → (v35 = v36 → aL_law_18 d n0 y0 p1 p2 (w32 (x3 + 6)) m36 Q) ∧ (¬ v35 = v36 → m36 (-3) 0 = m36 (-3) 1 ∧ Q 0 m36)))) ∧ ((iAnd (m y0 x3) 63) = 0 + 18 → ((0 : Int) ≤ (w32 (x3 + 1)) ∧ ((w32 (x3 + 1)) : Int) < n0) ∧ ((0 : Int) ≤ (w32 (x3 + 2)) ∧ ((w32 (x3 + 2)) : Int) < n0) ∧ jFull m ∧ jK d zX10_kind [jO 10 p1, jI (m y0 (w32 (x3 + 1))), jI (m y0 (w32 (x3 + 2)))] m (fun v37 m37 => jFull m37 → ((0 : Int) ≤ (w32 (x3 + 1)) ∧ ((w32 (x3 + 1)) : Int) < n0) ∧ ((0 : Int) ≤ (w32 (x3 + 2)) ∧ ((w32 (x3 + 2)) : Int) < n0) ∧ jFull m37 ∧ jK d zX11_kind [jO 11 p2, jI (m37 y0 (w32 (x3 + 1))), jI (m37 y0 (w32 (x3 + 2)))] m37 (fun v38 m38 => jFull m38 → (v37 = v38 → aL_law_18 d n0 y0 p1 p2 (w32 (x3 + 6)) m38 Q) ∧ (¬ v37 = v38 → m38 (-3) 0 = m38 (-3) 1 ∧ Q 0 m38)))) ∧ ((iAnd (m y0 x3) 63) = 0 + 19 → ((0 : Int) ≤ (w32 (x3 + 1)) ∧ ((w32 (x3 + 1)) : Int) < n0) ∧ ((0 : Int) ≤ (w32 (x3 + 2)) ∧ ((w32 (x3 + 2)) : Int) < n0) ∧ ((0 : Int) ≤ (w32 (x3 + 3)) ∧ ((w32 (x3 + 3)) : Int) < n0) ∧ jFull m ∧ jK d zX10_room [jO 10 p1, jI (m y0 (w32 (x3 + 1))), jI (m y0 (w32 (x3 + 2))), jI (m y0 (w32 (x3 + 3)))] m (fun v39 m39 => jFull m39 → ((0 : Int) ≤ (w32 (x3 + 1)) ∧ ((w32 (x3 + 1)) : Int) < n0) ∧ ((0 : Int) ≤ (w32 (x3 + 2)) ∧ ((w32 (x3 + 2)) : Int) < n0) ∧ ((0 : Int) ≤ (w32 (x3 + 3)) ∧ ((w32 (x3 + 3)) : Int) < n0) ∧ jFull m39 ∧ jK d zX11_room [jO 11 p2, jI (m39 y0 (w32 (x3 + 1))), jI (m39 y0 (w32 (x3 + 2))), jI (m39 y0 (w32 (x3 + 3)))] m39 (fun v40 m40 => jFull m40 → (v39 = v40 → aL_law_18 d n0 y0 p1 p2 (w32 (x3 + 6)) m40 Q) ∧ (¬ v39 = v40 → m40 (-3) 0 = m40 (-3) 1 ∧ Q 0 m40)))) ∧ ((iAnd (m y0 x3) 63) = 0 + 20 → ((0 : Int) ≤ (w32 (x3 + 1)) ∧ ((w32 (x3 + 1)) : Int) < n0) ∧ ((0 : Int) ≤ (w32 (x3 + 2)) ∧ ((w32 (x3 + 2)) : Int) < n0) ∧ jFull m ∧ jK d zX10_next [jO 10 p1, jI (m y0 (w32 (x3 + 1))), jI (m y0 (w32 (x3 + 2)))] m (fun v41 m41 => jFull m41 → ((0 : Int) ≤ (w32 (x3 + 1)) ∧ ((w32 (x3 + 1)) : Int) < n0) ∧ ((0 : Int) ≤ (w32 (x3 + 2)) ∧ ((w32 (x3 + 2)) : Int) < n0) ∧ jFull m41 ∧ jK d zX11_next_ [jO 11 p2, jI (m41 y0 (w32 (x3 + 1))), jI (m41 y0 (w32 (x3 + 2)))] m41 (fun v42 m42 => jFull m42 → (v41 = v42 → aL_law_18 d n0 y0 p1 p2 (w32 (x3 + 6)) m42 Q) ∧ (¬ v41 = v42 → m42 (-3) 0 = m42 (-3) 1 ∧ Q 0 m42)))) ∧ ((iAnd (m y0 x3) 63) = 0 + 21 → ((0 : Int) ≤ (w32 (x3 + 1)) ∧ ((w32 (x3 + 1)) : Int) < n0) ∧ jFull m ∧ jK d zX10_fair [jO 10 p1, jI (m y0 (w32 (x3 + 1)))] m (fun v43 m43 => jFull m43 → ((0 : Int) ≤ (w32 (x3 + 1)) ∧ ((w32 (x3 + 1)) : Int) < n0) ∧ jFull m43 ∧ jK d zX11_fair [jO 11 p2, jI (m43 y0 (w32 (x3 + 1)))] m43 (fun v44 m44 => jFull m44 → (v43 = v44 → aL_law_18 d n0 y0 p1 p2 (w32 (x3 + 6)) m44 Q) ∧ (¬ v43 = v44 → m44 (-3) 0 = m44 (-3) 1 ∧ Q 0 m44)))) ∧ ((iAnd (m y0 x3) 63) = 0 + 22 → ((0 : Int) ≤ (w32 (x3 + 1)) ∧ ((w32 (x3 + 1)) : Int) < n0) ∧ jFull m ∧ jK d zX10_days [jO 10 p1, jI (m y0 (w32 (x3 + 1)))] m (fun v45 m45 => jFull m45 → ((0 : Int) ≤ (w32 (x3 + 1)) ∧ ((w32 (x3 + 1)) : Int) < n0) ∧ jFull m45 ∧ jK d zX11_days [jO 11 p2, jI (m45 y0 (w32 (x3 + 1)))] m45 (fun v46 m46 => jFull m46 → (v45 = v46 → aL_law_18 d n0 y0 p1 p2 (w32 (x3 + 6)) m46 Q) ∧ (¬ v45 = v46 → m46 (-3) 0 = m46 (-3) 1 ∧ Q 0 m46)))) ∧ ((iAnd (m y0 x3) 63) = 0 + 23 → ((0 : Int) ≤ (w32 (x3 + 1)) ∧ ((w32 (x3 + 1)) : Int) < n0) ∧ ((0 : Int) ≤ (w32 (x3 + 2)) ∧ ((w32 (x3 + 2)) : Int) < n0) ∧ jFull m ∧ jK d zX10_day [jO 10 p1, jI (m y0 (w32 (x3 + 1))), jI (m y0 (w32 (x3 + 2)))] m (fun v47 m47 => jFull m47 → ((0 : Int) ≤ (w32 (x3 + 1)) ∧ ((w32 (x3 + 1)) : Int) < n0) ∧ ((0 : Int) ≤ (w32 (x3 + 2)) ∧ ((w32 (x3 + 2)) : Int) < n0) ∧ jFull m47 ∧ jK d zX11_day [jO 11 p2, jI (m47 y0 (w32 (x3 + 1))), jI (m47 y0 (w32 (x3 + 2)))] m47 (fun v48 m48 => jFull m48 → (v47 = v48 → aL_law_18 d n0 y0 p1 p2 (w32 (x3 + 6)) m48 Q) ∧ (¬ v47 = v48 → m48 (-3) 0 = m48 (-3) 1 ∧ Q 0 m48)))) ∧ ((iAnd (m y0 x3) 63) = 0 + 24 → ((0 : Int) ≤ (w32 (x3 + 1)) ∧ ((w32 (x3 + 1)) : Int) < n0) ∧ jFull m ∧ jK d zX10_lack [jO 10 p1, jI (m y0 (w32 (x3 + 1)))] m (fun v49 m49 => jFull m49 → ((0 : Int) ≤ (w32 (x3 + 1)) ∧ ((w32 (x3 + 1)) : Int) < n0) ∧ jFull m49 ∧ jK d zX11_lack [jO 11 p2, jI (m49 y0 (w32 (x3 + 1)))] m49 (fun v50 m50 => jFull m50 → (v49 = v50 → aL_law_18 d n0 y0 p1 p2 (w32 (x3 + 6)) m50 Q) ∧ (¬ v49 = v50 → m50 (-3) 0 = m50 (-3) 1 ∧ Q 0 m50)))) ∧ ((iAnd (m y0 x3) 63) = 0 + 25 → ((0 : Int) ≤ (w32 (x3 + 1)) ∧ ((w32 (x3 + 1)) : Int) < n0) ∧ ((0 : Int) ≤ (w32 (x3 + 2)) ∧ ((w32 (x3 + 2)) : Int) < n0) ∧ jFull m ∧ jK d zX10_without [jO 10 p1, jI (m y0 (w32 (x3 + 1))), jI (m y0 (w32 (x3 + 2)))] m (fun v51 m51 => jFull m51 → ((0 : Int) ≤ (w32 (x3 + 1)) ∧ ((w32 (x3 + 1)) : Int) < n0) ∧ ((0 : Int) ≤ (w32 (x3 + 2)) ∧ ((w32 (x3 + 2)) : Int) < n0) ∧ jFull m51 ∧ jK d zX11_without [jO 11 p2, jI (m51 y0 (w32 (x3 + 1))), jI (m51 y0 (w32 (x3 + 2)))] m51 (fun v52 m52 => jFull m52 → (v51 = v52 → aL_law_18 d n0 y0 p1 p2 (w32 (x3 + 6)) m52 Q) ∧ (¬ v51 = v52 → m52 (-3) 0 = m52 (-3) 1 ∧ Q 0 m52)))) ∧ ((iAnd (m y0 x3) 63) = 0 + 26 → ((0 : Int) ≤ (w32 (x3 + 1)) ∧ ((w32 (x3 + 1)) : Int) < n0) ∧ ((0 : Int) ≤ (w32 (x3 + 2)) ∧ ((w32 (x3 + 2)) : Int) < n0) ∧ jFull m ∧ jK d zX10_tells [jO 10 p1, jI (m y0 (w32 (x3 + 1))), jI (m y0 (w32 (x3 + 2)))] m (fun v53 m53 => jFull m53 → ((0 : Int) ≤ (w32 (x3 + 1)) ∧ ((w32 (x3 + 1)) : Int) < n0) ∧ ((0 : Int) ≤ (w32 (x3 + 2)) ∧ ((w32 (x3 + 2)) : Int) < n0) ∧ jFull m53 ∧ jK d zX11_tells [jO 11 p2, jI (m53 y0 (w32 (x3 + 1))), jI (m53 y0 (w32 (x3 + 2)))] m53 (fun v54 m54 => jFull m54 → (v53 = v54 → aL_law_18 d n0 y0 p1 p2 (w32 (x3 + 6)) m54 Q) ∧ (¬ v53 = v54 → m54 (-3) 0 = m54 (-3) 1 ∧ Q 0 m54)))) ∧ ((iAnd (m y0 x3) 63) = 0 + 27 → ((0 : Int) ≤ (w32 (x3 + 1)) ∧ ((w32 (x3 + 1)) : Int) < n0) ∧ ((0 : Int) ≤ (w32 (x3 + 2)) ∧ ((w32 (x3 + 2)) : Int) < n0) ∧ jFull m ∧ jK d zX10_film [jO 10 p1, jI (m y0 (w32 (x3 + 1))), jI (m y0 (w32 (x3 + 2)))] m (fun v55 m55 => jFull m55 → ((0 : Int) ≤ (w32 (x3 + 1)) ∧ ((w32 (x3 + 1)) : Int) < n0) ∧ ((0 : Int) ≤ (w32 (x3 + 2)) ∧ ((w32 (x3 + 2)) : Int) < n0) ∧ jFull m55 ∧ jK d zX11_film [jO 11 p2, jI (m55 y0 (w32 (x3 + 1))), jI (m55 y0 (w32 (x3 + 2)))] m55 (fun v56 m56 => jFull m56 → (v55 = v56 → aL_law_18 d n0 y0 p1 p2 (w32 (x3 + 6)) m56 Q) ∧ (¬ v55 = v56 → m56 (-3) 0 = m56 (-3) 1 ∧ Q 0 m56)))) ∧ ((iAnd (m y0 x3) 63) = 0 + 28 → jFull m ∧ jK d zX10_image [jO 10 p1] m (fun v57 m57 => jFull m57 → jFull m57 ∧ jK d zX11_image [jO 11 p2] m57 (fun v58 m58 => jFull m58 → (v57 = v58 → aL_law_18 d n0 y0 p1 p2 (w32 (x3 + 6)) m58 Q) ∧ (¬ v57 = v58 → m58 (-3) 0 = m58 (-3) 1 ∧ Q 0 m58)))) ∧ ((iAnd (m y0 x3) 63) = 0 + 29 → jFull m ∧ jK d zX10_back [jO 10 p1] m (fun v59 m59 => jFull m59 → jFull m59 ∧ jK d zX11_back [jO 11 p2] m59 (fun v60 m60 => jFull m60 → (v59 = v60 → aL_law_18 d n0 y0 p1 p2 (w32 (x3 + 6)) m60 Q) ∧ (¬ v59 = v60 → m60 (-3) 0 = m60 (-3) 1 ∧ Q 0 m60)))) ∧ ((iAnd (m y0 x3) 63) = 0 + 30 → ((0 : Int) ≤ (w32 (x3 + 1)) ∧ ((w32 (x3 + 1)) : Int) < n0) ∧ jFull m ∧ jK d zX10_count [jO 10 p1, jI (m y0 (w32 (x3 + 1)))] m (fun v61 m61 => jFull m61 → ((0 : Int) ≤ (w32 (x3 + 1)) ∧ ((w32 (x3 + 1)) : Int) < n0) ∧ jFull m61 ∧ jK d zX11_count [jO 11 p2, jI (m61 y0 (w32 (x3 + 1)))] m61 (fun v62 m62 => jFull m62 → (v61 = v62 → aL_law_18 d n0 y0 p1 p2 (w32 (x3 + 6)) m62 Q) ∧ (¬ v61 = v62 → m62 (-3) 0 = m62 (-3) 1 ∧ Q 0 m62)))) ∧ ((iAnd (m y0 x3) 63) = 0 + 31 → ((0 : Int) ≤ (w32 (x3 + 1)) ∧ ((w32 (x3 + 1)) : Int) < n0) ∧ ((0 : Int) ≤ (w32 (x3 + 2)) ∧ ((w32 (x3 + 2)) : Int) < n0) ∧ ((0 : Int) ≤ (w32 (x3 + 3)) ∧ ((w32 (x3 + 3)) : Int) < n0) ∧ jFull m ∧ jK d zX10_sheet [jO 10 p1, jI (m y0 (w32 (x3 + 1))), jI (m y0 (w32 (x3 + 2))), jI (m y0 (w32 (x3 + 3)))] m (fun v63 m63 => jFull m63 → ((0 : Int) ≤ (w32 (x3 + 1)) ∧ ((w32 (x3 + 1)) : Int) < n0) ∧ ((0 : Int) ≤ (w32 (x3 + 2)) ∧ ((w32 (x3 + 2)) : Int) < n0) ∧ ((0 : Int) ≤ (w32 (x3 + 3)) ∧ ((w32 (x3 + 3)) : Int) < n0) ∧ jFull m63 ∧ jK d zX11_sheet [jO 11 p2, jI (m63 y0 (w32 (x3 + 1))), jI (m63 y0 (w32 (x3 + 2))), jI (m63 y0 (w32 (x3 + 3)))] m63 (fun v64 m64 => jFull m64 → (v63 = v64 → aL_law_18 d n0 y0 p1 p2 (w32 (x3 + 6)) m64 Q) ∧ (¬ v63 = v64 → m64 (-3) 0 = m64 (-3) 1 ∧ Q 0 m64)))) ∧ ((iAnd (m y0 x3) 63) = 0 + 32 → ((0 : Int) ≤ (w32 (x3 + 1)) ∧ ((w32 (x3 + 1)) : Int) < n0) ∧ ((0 : Int) ≤ (w32 (x3 + 2)) ∧ ((w32 (x3 + 2)) : Int) < n0) ∧ ((0 : Int) ≤ (w32 (x3 + 3)) ∧ ((w32 (x3 + 3)) : Int) < n0) ∧ ((0 : Int) ≤ (w32 (x3 + 4)) ∧ ((w32 (x3 + 4)) : Int) < n0) ∧ jFull m ∧ jK d zX10_put [jO 10 p1, jI (m y0 (w32 (x3 + 1))), jI (m y0 (w32 (x3 + 2))), jL (lOr (lShl (m y0 (w32 (x3 + 3))) 32) (lAnd (m y0 (w32 (x3 + 4))) 4294967295))] m (fun v65 m65 => jFull m65 → ((0 : Int) ≤ (w32 (x3 + 1)) ∧ ((w32 (x3 + 1)) : Int) < n0) ∧ ((0 : Int) ≤ (w32 (x3 + 2)) ∧ ((w32 (x3 + 2)) : Int) < n0) ∧ ((0 : Int) ≤ (w32 (x3 + 3)) ∧ ((w32 (x3 + 3)) : Int) < n0) ∧ ((0 : Int) ≤ (w32 (x3 + 4)) ∧ ((w32 (x3 + 4)) : Int) < n0) ∧ jFull m65 ∧ jK d zX11_put [jO 11 p2, jI (m65 y0 (w32 (x3 + 1))), jI (m65 y0 (w32 (x3 + 2))), jL (lOr (lShl (m65 y0 (w32 (x3 + 3))) 32) (lAnd (m65 y0 (w32 (x3 + 4))) 4294967295))] m65 (fun v66 m66 => jFull m66 → (v65 = v66 → aL_law_18 d n0 y0 p1 p2 (w32 (x3 + 6)) m66 Q) ∧ (¬ v65 = v66 → m66 (-3) 0 = m66 (-3) 1 ∧ Q 0 m66)))) ∧ ((iAnd (m y0 x3) 63) = 0 + 33 → ((0 : Int) ≤ (w32 (x3 + 1)) ∧ ((w32 (x3 + 1)) : Int) < n0) ∧ ((0 : Int) ≤ (w32 (x3 + 2)) ∧ ((w32 (x3 + 2)) : Int) < n0) ∧ jFull m ∧ jK d zX10_item [jO 10 p1, jI (m y0 (w32 (x3 + 1))), jI (m y0 (w32 (x3 + 2)))] m (fun v67 m67 => jFull m67 → ((0 : Int) ≤ (w32 (x3 + 1)) ∧ ((w32 (x3 + 1)) : Int) < n0) ∧ ((0 : Int) ≤ (w32 (x3 + 2)) ∧ ((w32 (x3 + 2)) : Int) < n0) ∧ jFull m67 ∧ jK d zX11_item [jO 11 p2, jI (m67 y0 (w32 (x3 + 1))), jI (m67 y0 (w32 (x3 + 2)))] m67 (fun v68 m68 => jFull m68 → (v67 = v68 → aL_law_18 d n0 y0 p1 p2 (w32 (x3 + 6)) m68 Q) ∧ (¬ v67 = v68 → m68 (-3) 0 = m68 (-3) 1 ∧ Q 0 m68)))) ∧ ((iAnd (m y0 x3) 63) = 0 + 34 → ((0 : Int) ≤ (w32 (x3 + 1)) ∧ ((w32 (x3 + 1)) : Int) < n0) ∧ ((0 : Int) ≤ (w32 (x3 + 2)) ∧ ((w32 (x3 + 2)) : Int) < n0) ∧ ((0 : Int) ≤ (w32 (x3 + 3)) ∧ ((w32 (x3 + 3)) : Int) < n0) ∧ ((0 : Int) ≤ (w32 (x3 + 4)) ∧ ((w32 (x3 + 4)) : Int) < n0) ∧ ((0 : Int) ≤ (w32 (x3 + 5)) ∧ ((w32 (x3 + 5)) : Int) < n0) ∧ jFull m ∧ jK d zX10_copy [jO 10 p1, jI (m y0 (w32 (x3 + 1))), jI (m y0 (w32 (x3 + 2))), jI (m y0 (w32 (x3 + 3))), jI (m y0 (w32 (x3 + 4))), jI (m y0 (w32 (x3 + 5)))] m (fun v69 m69 => jFull m69 → ((0 : Int) ≤ (w32 (x3 + 1)) ∧ ((w32 (x3 + 1)) : Int) < n0) ∧ ((0 : Int) ≤ (w32 (x3 + 2)) ∧ ((w32 (x3 + 2)) : Int) < n0) ∧ ((0 : Int) ≤ (w32 (x3 + 3)) ∧ ((w32 (x3 + 3)) : Int) < n0) ∧ ((0 : Int) ≤ (w32 (x3 + 4)) ∧ ((w32 (x3 + 4)) : Int) < n0) ∧ ((0 : Int) ≤ (w32 (x3 + 5)) ∧ ((w32 (x3 + 5)) : Int) < n0) ∧ jFull m69 ∧ jK d zX11_copy [jO 11 p2, jI (m69 y0 (w32 (x3 + 1))), jI (m69 y0 (w32 (x3 + 2))), jI (m69 y0 (w32 (x3 + 3))), jI (m69 y0 (w32 (x3 + 4))), jI (m69 y0 (w32 (x3 + 5)))] m69 (fun v70 m70 => jFull m70 → (v69 = v70 → aL_law_18 d n0 y0 p1 p2 (w32 (x3 + 6)) m70 Q) ∧ (¬ v69 = v70 → m70 (-3) 0 = m70 (-3) 1 ∧ Q 0 m70)))) ∧ ((iAnd (m y0 x3) 63) = 0 + 35 → ((0 : Int) ≤ (w32 (x3 + 1)) ∧ ((w32 (x3 + 1)) : Int) < n0) ∧ ((0 : Int) ≤ (w32 (x3 + 2)) ∧ ((w32 (x3 + 2)) : Int) < n0) ∧ ((0 : Int) ≤ (w32 (x3 + 3)) ∧ ((w32 (x3 + 3)) : Int) < n0) ∧ ((0 : Int) ≤ (w32 (x3 + 4)) ∧ ((w32 (x3 + 4)) : Int) < n0) ∧ ((0 : Int) ≤ (w32 (x3 + 5)) ∧ ((w32 (x3 + 5)) : Int) < n0) ∧ jFull m ∧ jK d zX10_lay [jO 10 p1, jI (m y0 (w32 (x3 + 1))), jI (m y0 (w32 (x3 + 2))), jI (m y0 (w32 (x3 + 3))), jI (m y0 (w32 (x3 + 4))), jI (m y0 (w32 (x3 + 5)))] m (fun v71 m71 => jFull m71 → ((0 : Int) ≤ (w32 (x3 + 1)) ∧ ((w32 (x3 + 1)) : Int) < n0) ∧ ((0 : Int) ≤ (w32 (x3 + 2)) ∧ ((w32 (x3 + 2)) : Int) < n0) ∧ ((0 : Int) ≤ (w32 (x3 + 3)) ∧ ((w32 (x3 + 3)) : Int) < n0) ∧ ((0 : Int) ≤ (w32 (x3 + 4)) ∧ ((w32 (x3 + 4)) : Int) < n0) ∧ ((0 : Int) ≤ (w32 (x3 + 5)) ∧ ((w32 (x3 + 5)) : Int) < n0) ∧ jFull m71 ∧ jK d zX11_lay [jO 11 p2, jI (m71 y0 (w32 (x3 + 1))), jI (m71 y0 (w32 (x3 + 2))), jI (m71 y0 (w32 (x3 + 3))), jI (m71 y0 (w32 (x3 + 4))), jI (m71 y0 (w32 (x3 + 5)))] m71 (fun v72 m72 => jFull m72 → (v71 = v72 → aL_law_18 d n0 y0 p1 p2 (w32 (x3 + 6)) m72 Q) ∧ (¬ v71 = v72 → m72 (-3) 0 = m72 (-3) 1 ∧ Q 0 m72)))) ∧ ((iAnd (m y0 x3) 63) < 0 ∨ 35 < (iAnd (m y0 x3) 63) → aL_law_18 d n0 y0 p1 p2 (w32 (x3 + 6)) m Q) ∧ True)) :
    aL_law_18 d n0 y0 p1 p2 x3 m Q := jWp_snd [(18, [true, true, true, true])] jcL_law 74 rfl h
end
