section
-- ===== PART A: goes FIRST, ahead of the names: the tables' words, and 'selects' of the private methods out of them =====
/-- a private method of a class that the tables say can be made, by its rows of tables_1 -/
def lw_okq (q : MethodName × Nat) : Prop := (q.1.cls ≠ "java/lang/invoke/MethodHandle" ∧ q.1.cls ≠ "java/lang/invoke/VarHandle") ∧ Cond.instantiable q.1.cls q.2 ∈ tables_1 ∧ Cond.privateMethod q.1 ∈ tables_1 ∧ Cond.instanceMethod q.1 ∈ tables_1
theorem lw_p0 : lw_okq (⟨"CourtMatcher", "changed", "()V"⟩, 17) := ⟨⟨by decide +kernel, by decide +kernel⟩, List.mem_of_getElem? (i := 18) (by decide +kernel), List.mem_of_getElem? (i := 426) (by decide +kernel), List.mem_of_getElem? (i := 427) (by decide +kernel)⟩
theorem lw_p1 : lw_okq (⟨"CourtMatcher", "refreshPlan", "()V"⟩, 17) := ⟨⟨by decide +kernel, by decide +kernel⟩, List.mem_of_getElem? (i := 18) (by decide +kernel), List.mem_of_getElem? (i := 448) (by decide +kernel), List.mem_of_getElem? (i := 449) (by decide +kernel)⟩
theorem lw_p2 : lw_okq (⟨"CourtMatcher$Teller", "fail", "(III)J"⟩, 7) := ⟨⟨by decide +kernel, by decide +kernel⟩, List.mem_of_getElem? (i := 140) (by decide +kernel), List.mem_of_getElem? (i := 493) (by decide +kernel), List.mem_of_getElem? (i := 494) (by decide +kernel)⟩
theorem lw_p3 : lw_okq (⟨"CourtMatcher$Plan", "force", "(II)V"⟩, 10) := ⟨⟨by decide +kernel, by decide +kernel⟩, List.mem_of_getElem? (i := 173) (by decide +kernel), List.mem_of_getElem? (i := 505) (by decide +kernel), List.mem_of_getElem? (i := 506) (by decide +kernel)⟩
theorem lw_p4 : lw_okq (⟨"CourtMatcher$Plan", "listCases", "()V"⟩, 10) := ⟨⟨by decide +kernel, by decide +kernel⟩, List.mem_of_getElem? (i := 173) (by decide +kernel), List.mem_of_getElem? (i := 513) (by decide +kernel), List.mem_of_getElem? (i := 514) (by decide +kernel)⟩
theorem lw_p5 : lw_okq (⟨"CourtMatcher$Plan", "weighFrom", "(IIZ)V"⟩, 10) := ⟨⟨by decide +kernel, by decide +kernel⟩, List.mem_of_getElem? (i := 173) (by decide +kernel), List.mem_of_getElem? (i := 527) (by decide +kernel), List.mem_of_getElem? (i := 528) (by decide +kernel)⟩
theorem lw_p6 : lw_okq (⟨"CourtMatcher$Tape", "step", "()V"⟩, 9) := ⟨⟨by decide +kernel, by decide +kernel⟩, List.mem_of_getElem? (i := 102) (by decide +kernel), List.mem_of_getElem? (i := 577) (by decide +kernel), List.mem_of_getElem? (i := 578) (by decide +kernel)⟩
theorem lw_p7 : lw_okq (⟨"CourtMatcher$Tape", "word", "(I)V"⟩, 9) := ⟨⟨by decide +kernel, by decide +kernel⟩, List.mem_of_getElem? (i := 102) (by decide +kernel), List.mem_of_getElem? (i := 584) (by decide +kernel), List.mem_of_getElem? (i := 585) (by decide +kernel)⟩
theorem lw_p8 : lw_okq (⟨"CourtMatcher$Tape", "nameOfOne", "(I)V"⟩, 9) := ⟨⟨by decide +kernel, by decide +kernel⟩, List.mem_of_getElem? (i := 102) (by decide +kernel), List.mem_of_getElem? (i := 588) (by decide +kernel), List.mem_of_getElem? (i := 589) (by decide +kernel)⟩
theorem lw_p9 : lw_okq (⟨"CourtMatcher$Tape", "nameOfThree", "(III)V"⟩, 9) := ⟨⟨by decide +kernel, by decide +kernel⟩, List.mem_of_getElem? (i := 102) (by decide +kernel), List.mem_of_getElem? (i := 592) (by decide +kernel), List.mem_of_getElem? (i := 593) (by decide +kernel)⟩
theorem lw_p10 : lw_okq (⟨"CourtMatcher$Tape", "digits", "(I)V"⟩, 9) := ⟨⟨by decide +kernel, by decide +kernel⟩, List.mem_of_getElem? (i := 102) (by decide +kernel), List.mem_of_getElem? (i := 599) (by decide +kernel), List.mem_of_getElem? (i := 600) (by decide +kernel)⟩
theorem lw_p11 : lw_okq (⟨"CourtMatcher$Tape", "expr", "()Z"⟩, 9) := ⟨⟨by decide +kernel, by decide +kernel⟩, List.mem_of_getElem? (i := 102) (by decide +kernel), List.mem_of_getElem? (i := 606) (by decide +kernel), List.mem_of_getElem? (i := 607) (by decide +kernel)⟩
theorem lw_p12 : lw_okq (⟨"CourtMatcher$Tape", "sum", "()Z"⟩, 9) := ⟨⟨by decide +kernel, by decide +kernel⟩, List.mem_of_getElem? (i := 102) (by decide +kernel), List.mem_of_getElem? (i := 610) (by decide +kernel), List.mem_of_getElem? (i := 611) (by decide +kernel)⟩
theorem lw_p13 : lw_okq (⟨"CourtMatcher$Tape", "product", "()Z"⟩, 9) := ⟨⟨by decide +kernel, by decide +kernel⟩, List.mem_of_getElem? (i := 102) (by decide +kernel), List.mem_of_getElem? (i := 614) (by decide +kernel), List.mem_of_getElem? (i := 615) (by decide +kernel)⟩
theorem lw_p14 : lw_okq (⟨"CourtMatcher$Tape", "factor", "()Z"⟩, 9) := ⟨⟨by decide +kernel, by decide +kernel⟩, List.mem_of_getElem? (i := 102) (by decide +kernel), List.mem_of_getElem? (i := 618) (by decide +kernel), List.mem_of_getElem? (i := 619) (by decide +kernel)⟩
theorem lw_p15 : lw_okq (⟨"CourtMatcher$Tape", "part", "()Z"⟩, 9) := ⟨⟨by decide +kernel, by decide +kernel⟩, List.mem_of_getElem? (i := 102) (by decide +kernel), List.mem_of_getElem? (i := 622) (by decide +kernel), List.mem_of_getElem? (i := 623) (by decide +kernel)⟩
def lw_privs_1 : List (MethodName × Nat) := [(⟨"CourtMatcher", "changed", "()V"⟩, 17), (⟨"CourtMatcher", "refreshPlan", "()V"⟩, 17), (⟨"CourtMatcher$Teller", "fail", "(III)J"⟩, 7), (⟨"CourtMatcher$Plan", "force", "(II)V"⟩, 10), (⟨"CourtMatcher$Plan", "listCases", "()V"⟩, 10), (⟨"CourtMatcher$Plan", "weighFrom", "(IIZ)V"⟩, 10), (⟨"CourtMatcher$Tape", "step", "()V"⟩, 9), (⟨"CourtMatcher$Tape", "word", "(I)V"⟩, 9), (⟨"CourtMatcher$Tape", "nameOfOne", "(I)V"⟩, 9), (⟨"CourtMatcher$Tape", "nameOfThree", "(III)V"⟩, 9), (⟨"CourtMatcher$Tape", "digits", "(I)V"⟩, 9), (⟨"CourtMatcher$Tape", "expr", "()Z"⟩, 9), (⟨"CourtMatcher$Tape", "sum", "()Z"⟩, 9), (⟨"CourtMatcher$Tape", "product", "()Z"⟩, 9), (⟨"CourtMatcher$Tape", "factor", "()Z"⟩, 9), (⟨"CourtMatcher$Tape", "part", "()Z"⟩, 9)]
theorem lw_r1 : ∀ q ∈ lw_privs_1, lw_okq q := List.forall_mem_cons.mpr ⟨lw_p0, List.forall_mem_cons.mpr ⟨lw_p1, List.forall_mem_cons.mpr ⟨lw_p2, List.forall_mem_cons.mpr ⟨lw_p3, List.forall_mem_cons.mpr ⟨lw_p4, List.forall_mem_cons.mpr ⟨lw_p5, List.forall_mem_cons.mpr ⟨lw_p6, List.forall_mem_cons.mpr ⟨lw_p7, List.forall_mem_cons.mpr ⟨lw_p8, List.forall_mem_cons.mpr ⟨lw_p9, List.forall_mem_cons.mpr ⟨lw_p10, List.forall_mem_cons.mpr ⟨lw_p11, List.forall_mem_cons.mpr ⟨lw_p12, List.forall_mem_cons.mpr ⟨lw_p13, List.forall_mem_cons.mpr ⟨lw_p14, List.forall_mem_cons.mpr ⟨lw_p15, fun _ h => absurd h List.not_mem_nil⟩⟩⟩⟩⟩⟩⟩⟩⟩⟩⟩⟩⟩⟩⟩⟩
theorem lw_p16 : lw_okq (⟨"CourtMatcher$Tape", "atom", "()Z"⟩, 9) := ⟨⟨by decide +kernel, by decide +kernel⟩, List.mem_of_getElem? (i := 102) (by decide +kernel), List.mem_of_getElem? (i := 626) (by decide +kernel), List.mem_of_getElem? (i := 627) (by decide +kernel)⟩
theorem lw_p17 : lw_okq (⟨"CourtMatcher$Tape", "enter", "()Z"⟩, 9) := ⟨⟨by decide +kernel, by decide +kernel⟩, List.mem_of_getElem? (i := 102) (by decide +kernel), List.mem_of_getElem? (i := 634) (by decide +kernel), List.mem_of_getElem? (i := 635) (by decide +kernel)⟩
theorem lw_p18 : lw_okq (⟨"CourtMatcher$Tape", "leave", "(I)Z"⟩, 9) := ⟨⟨by decide +kernel, by decide +kernel⟩, List.mem_of_getElem? (i := 102) (by decide +kernel), List.mem_of_getElem? (i := 638) (by decide +kernel), List.mem_of_getElem? (i := 639) (by decide +kernel)⟩
theorem lw_p19 : lw_okq (⟨"CourtMatcher$Tape", "function", "()Z"⟩, 9) := ⟨⟨by decide +kernel, by decide +kernel⟩, List.mem_of_getElem? (i := 102) (by decide +kernel), List.mem_of_getElem? (i := 642) (by decide +kernel), List.mem_of_getElem? (i := 643) (by decide +kernel)⟩
theorem lw_p20 : lw_okq (⟨"CourtMatcher$Rounds", "firstPay", "(LCourtMatcher$Plan;I)J"⟩, 6) := ⟨⟨by decide +kernel, by decide +kernel⟩, List.mem_of_getElem? (i := 259) (by decide +kernel), List.mem_of_getElem? (i := 705) (by decide +kernel), List.mem_of_getElem? (i := 706) (by decide +kernel)⟩
theorem lw_p21 : lw_okq (⟨"CourtMatcher$Rounds", "findTight", "(LCourtMatcher$Plan;)I"⟩, 6) := ⟨⟨by decide +kernel, by decide +kernel⟩, List.mem_of_getElem? (i := 259) (by decide +kernel), List.mem_of_getElem? (i := 712) (by decide +kernel), List.mem_of_getElem? (i := 713) (by decide +kernel)⟩
theorem lw_p22 : lw_okq (⟨"CourtMatcher$Rounds", "slack", "(LCourtMatcher$Plan;II)J"⟩, 6) := ⟨⟨by decide +kernel, by decide +kernel⟩, List.mem_of_getElem? (i := 259) (by decide +kernel), List.mem_of_getElem? (i := 717) (by decide +kernel), List.mem_of_getElem? (i := 718) (by decide +kernel)⟩
theorem lw_p23 : lw_okq (⟨"CourtMatcher$Greatest", "grow", "([II)Z"⟩, 7) := ⟨⟨by decide +kernel, by decide +kernel⟩, List.mem_of_getElem? (i := 225) (by decide +kernel), List.mem_of_getElem? (i := 726) (by decide +kernel), List.mem_of_getElem? (i := 727) (by decide +kernel)⟩
theorem lw_p24 : lw_okq (⟨"CourtMatcher$Greatest", "turn", "(I)V"⟩, 7) := ⟨⟨by decide +kernel, by decide +kernel⟩, List.mem_of_getElem? (i := 225) (by decide +kernel), List.mem_of_getElem? (i := 730) (by decide +kernel), List.mem_of_getElem? (i := 731) (by decide +kernel)⟩
theorem lw_p25 : lw_okq (⟨"CourtMatcher$Greatest", "spread", "([II)V"⟩, 7) := ⟨⟨by decide +kernel, by decide +kernel⟩, List.mem_of_getElem? (i := 225) (by decide +kernel), List.mem_of_getElem? (i := 734) (by decide +kernel), List.mem_of_getElem? (i := 735) (by decide +kernel)⟩
theorem lw_p26 : lw_okq (⟨"CourtMatcher$Rounds", "leastSlack", "(LCourtMatcher$Plan;II)J"⟩, 6) := ⟨⟨by decide +kernel, by decide +kernel⟩, List.mem_of_getElem? (i := 259) (by decide +kernel), List.mem_of_getElem? (i := 738) (by decide +kernel), List.mem_of_getElem? (i := 739) (by decide +kernel)⟩
theorem lw_p27 : lw_okq (⟨"CourtMatcher$Rounds", "keep", "(IILCourtMatcher$Greatest;)V"⟩, 6) := ⟨⟨by decide +kernel, by decide +kernel⟩, List.mem_of_getElem? (i := 259) (by decide +kernel), List.mem_of_getElem? (i := 742) (by decide +kernel), List.mem_of_getElem? (i := 743) (by decide +kernel)⟩
theorem lw_p28 : lw_okq (⟨"CourtMatcher$Rounds", "raise", "(LCourtMatcher$Greatest;J)V"⟩, 6) := ⟨⟨by decide +kernel, by decide +kernel⟩, List.mem_of_getElem? (i := 259) (by decide +kernel), List.mem_of_getElem? (i := 749) (by decide +kernel), List.mem_of_getElem? (i := 750) (by decide +kernel)⟩
theorem lw_p29 : lw_okq (⟨"CourtMatcher$Plan", "leads", "(III)Z"⟩, 10) := ⟨⟨by decide +kernel, by decide +kernel⟩, List.mem_of_getElem? (i := 173) (by decide +kernel), List.mem_of_getElem? (i := 777) (by decide +kernel), List.mem_of_getElem? (i := 778) (by decide +kernel)⟩
theorem lw_p30 : lw_okq (⟨"CourtMatcher", "refreshShares", "()V"⟩, 17) := ⟨⟨by decide +kernel, by decide +kernel⟩, List.mem_of_getElem? (i := 18) (by decide +kernel), List.mem_of_getElem? (i := 785) (by decide +kernel), List.mem_of_getElem? (i := 786) (by decide +kernel)⟩
theorem lw_p31 : lw_okq (⟨"CourtMatcher$Plan", "shareFrom", "(II)V"⟩, 10) := ⟨⟨by decide +kernel, by decide +kernel⟩, List.mem_of_getElem? (i := 173) (by decide +kernel), List.mem_of_getElem? (i := 793) (by decide +kernel), List.mem_of_getElem? (i := 794) (by decide +kernel)⟩
def lw_privs_2 : List (MethodName × Nat) := [(⟨"CourtMatcher$Tape", "atom", "()Z"⟩, 9), (⟨"CourtMatcher$Tape", "enter", "()Z"⟩, 9), (⟨"CourtMatcher$Tape", "leave", "(I)Z"⟩, 9), (⟨"CourtMatcher$Tape", "function", "()Z"⟩, 9), (⟨"CourtMatcher$Rounds", "firstPay", "(LCourtMatcher$Plan;I)J"⟩, 6), (⟨"CourtMatcher$Rounds", "findTight", "(LCourtMatcher$Plan;)I"⟩, 6), (⟨"CourtMatcher$Rounds", "slack", "(LCourtMatcher$Plan;II)J"⟩, 6), (⟨"CourtMatcher$Greatest", "grow", "([II)Z"⟩, 7), (⟨"CourtMatcher$Greatest", "turn", "(I)V"⟩, 7), (⟨"CourtMatcher$Greatest", "spread", "([II)V"⟩, 7), (⟨"CourtMatcher$Rounds", "leastSlack", "(LCourtMatcher$Plan;II)J"⟩, 6), (⟨"CourtMatcher$Rounds", "keep", "(IILCourtMatcher$Greatest;)V"⟩, 6), (⟨"CourtMatcher$Rounds", "raise", "(LCourtMatcher$Greatest;J)V"⟩, 6), (⟨"CourtMatcher$Plan", "leads", "(III)Z"⟩, 10), (⟨"CourtMatcher", "refreshShares", "()V"⟩, 17), (⟨"CourtMatcher$Plan", "shareFrom", "(II)V"⟩, 10)]
theorem lw_r2 : ∀ q ∈ lw_privs_2, lw_okq q := List.forall_mem_cons.mpr ⟨lw_p16, List.forall_mem_cons.mpr ⟨lw_p17, List.forall_mem_cons.mpr ⟨lw_p18, List.forall_mem_cons.mpr ⟨lw_p19, List.forall_mem_cons.mpr ⟨lw_p20, List.forall_mem_cons.mpr ⟨lw_p21, List.forall_mem_cons.mpr ⟨lw_p22, List.forall_mem_cons.mpr ⟨lw_p23, List.forall_mem_cons.mpr ⟨lw_p24, List.forall_mem_cons.mpr ⟨lw_p25, List.forall_mem_cons.mpr ⟨lw_p26, List.forall_mem_cons.mpr ⟨lw_p27, List.forall_mem_cons.mpr ⟨lw_p28, List.forall_mem_cons.mpr ⟨lw_p29, List.forall_mem_cons.mpr ⟨lw_p30, List.forall_mem_cons.mpr ⟨lw_p31, fun _ h => absurd h List.not_mem_nil⟩⟩⟩⟩⟩⟩⟩⟩⟩⟩⟩⟩⟩⟩⟩⟩
theorem lw_p32 : lw_okq (⟨"CourtMatcher", "refreshNextOnes", "()V"⟩, 17) := ⟨⟨by decide +kernel, by decide +kernel⟩, List.mem_of_getElem? (i := 18) (by decide +kernel), List.mem_of_getElem? (i := 810) (by decide +kernel), List.mem_of_getElem? (i := 811) (by decide +kernel)⟩
theorem lw_p33 : lw_okq (⟨"CourtMatcher$NextOnes", "merge", "(LCourtMatcher$Plan;II)I"⟩, 7) := ⟨⟨by decide +kernel, by decide +kernel⟩, List.mem_of_getElem? (i := 287) (by decide +kernel), List.mem_of_getElem? (i := 821) (by decide +kernel), List.mem_of_getElem? (i := 822) (by decide +kernel)⟩
theorem lw_p34 : lw_okq (⟨"CourtMatcher$NextOnes", "headTotal", "(LCourtMatcher$Plan;III)J"⟩, 7) := ⟨⟨by decide +kernel, by decide +kernel⟩, List.mem_of_getElem? (i := 287) (by decide +kernel), List.mem_of_getElem? (i := 826) (by decide +kernel), List.mem_of_getElem? (i := 827) (by decide +kernel)⟩
theorem lw_p35 : lw_okq (⟨"CourtMatcher$NextOnes", "firstJudge", "()I"⟩, 7) := ⟨⟨by decide +kernel, by decide +kernel⟩, List.mem_of_getElem? (i := 287) (by decide +kernel), List.mem_of_getElem? (i := 830) (by decide +kernel), List.mem_of_getElem? (i := 831) (by decide +kernel)⟩
theorem lw_p36 : lw_okq (⟨"CourtMatcher$NextOnes", "follow", "(LCourtMatcher$Plan;I)V"⟩, 7) := ⟨⟨by decide +kernel, by decide +kernel⟩, List.mem_of_getElem? (i := 287) (by decide +kernel), List.mem_of_getElem? (i := 834) (by decide +kernel), List.mem_of_getElem? (i := 835) (by decide +kernel)⟩
theorem lw_p37 : lw_okq (⟨"CourtMatcher", "refreshDiary", "()V"⟩, 17) := ⟨⟨by decide +kernel, by decide +kernel⟩, List.mem_of_getElem? (i := 18) (by decide +kernel), List.mem_of_getElem? (i := 855) (by decide +kernel), List.mem_of_getElem? (i := 856) (by decide +kernel)⟩
theorem lw_p38 : lw_okq (⟨"CourtMatcher$Diary", "hear", "(LCourtMatcher$Plan;I)V"⟩, 5) := ⟨⟨by decide +kernel, by decide +kernel⟩, List.mem_of_getElem? (i := 318) (by decide +kernel), List.mem_of_getElem? (i := 868) (by decide +kernel), List.mem_of_getElem? (i := 869) (by decide +kernel)⟩
theorem lw_p39 : lw_okq (⟨"CourtMatcherModel", "next", "()V"⟩, 80) := ⟨⟨by decide +kernel, by decide +kernel⟩, List.mem_of_getElem? (i := 990) (by decide +kernel), List.mem_of_getElem? (i := 1265) (by decide +kernel), List.mem_of_getElem? (i := 1266) (by decide +kernel)⟩
theorem lw_p40 : lw_okq (⟨"CourtMatcherModel", "byteAt", "(I)I"⟩, 80) := ⟨⟨by decide +kernel, by decide +kernel⟩, List.mem_of_getElem? (i := 990) (by decide +kernel), List.mem_of_getElem? (i := 1269) (by decide +kernel), List.mem_of_getElem? (i := 1270) (by decide +kernel)⟩
theorem lw_p41 : lw_okq (⟨"CourtMatcherModel", "word", "()I"⟩, 80) := ⟨⟨by decide +kernel, by decide +kernel⟩, List.mem_of_getElem? (i := 990) (by decide +kernel), List.mem_of_getElem? (i := 1278) (by decide +kernel), List.mem_of_getElem? (i := 1279) (by decide +kernel)⟩
theorem lw_p42 : lw_okq (⟨"CourtMatcherModel", "isThree", "(III)Z"⟩, 80) := ⟨⟨by decide +kernel, by decide +kernel⟩, List.mem_of_getElem? (i := 990) (by decide +kernel), List.mem_of_getElem? (i := 1282) (by decide +kernel), List.mem_of_getElem? (i := 1283) (by decide +kernel)⟩
theorem lw_p43 : lw_okq (⟨"CourtMatcherModel", "expression", "()I"⟩, 80) := ⟨⟨by decide +kernel, by decide +kernel⟩, List.mem_of_getElem? (i := 990) (by decide +kernel), List.mem_of_getElem? (i := 1298) (by decide +kernel), List.mem_of_getElem? (i := 1299) (by decide +kernel)⟩
theorem lw_p44 : lw_okq (⟨"CourtMatcherModel", "sum", "()I"⟩, 80) := ⟨⟨by decide +kernel, by decide +kernel⟩, List.mem_of_getElem? (i := 990) (by decide +kernel), List.mem_of_getElem? (i := 1302) (by decide +kernel), List.mem_of_getElem? (i := 1303) (by decide +kernel)⟩
theorem lw_p45 : lw_okq (⟨"CourtMatcherModel", "product", "()I"⟩, 80) := ⟨⟨by decide +kernel, by decide +kernel⟩, List.mem_of_getElem? (i := 990) (by decide +kernel), List.mem_of_getElem? (i := 1306) (by decide +kernel), List.mem_of_getElem? (i := 1307) (by decide +kernel)⟩
theorem lw_p46 : lw_okq (⟨"CourtMatcherModel", "factor", "()I"⟩, 80) := ⟨⟨by decide +kernel, by decide +kernel⟩, List.mem_of_getElem? (i := 990) (by decide +kernel), List.mem_of_getElem? (i := 1310) (by decide +kernel), List.mem_of_getElem? (i := 1311) (by decide +kernel)⟩
theorem lw_p47 : lw_okq (⟨"CourtMatcherModel", "part", "(II)I"⟩, 80) := ⟨⟨by decide +kernel, by decide +kernel⟩, List.mem_of_getElem? (i := 990) (by decide +kernel), List.mem_of_getElem? (i := 1314) (by decide +kernel), List.mem_of_getElem? (i := 1315) (by decide +kernel)⟩
def lw_privs_3 : List (MethodName × Nat) := [(⟨"CourtMatcher", "refreshNextOnes", "()V"⟩, 17), (⟨"CourtMatcher$NextOnes", "merge", "(LCourtMatcher$Plan;II)I"⟩, 7), (⟨"CourtMatcher$NextOnes", "headTotal", "(LCourtMatcher$Plan;III)J"⟩, 7), (⟨"CourtMatcher$NextOnes", "firstJudge", "()I"⟩, 7), (⟨"CourtMatcher$NextOnes", "follow", "(LCourtMatcher$Plan;I)V"⟩, 7), (⟨"CourtMatcher", "refreshDiary", "()V"⟩, 17), (⟨"CourtMatcher$Diary", "hear", "(LCourtMatcher$Plan;I)V"⟩, 5), (⟨"CourtMatcherModel", "next", "()V"⟩, 80), (⟨"CourtMatcherModel", "byteAt", "(I)I"⟩, 80), (⟨"CourtMatcherModel", "word", "()I"⟩, 80), (⟨"CourtMatcherModel", "isThree", "(III)Z"⟩, 80), (⟨"CourtMatcherModel", "expression", "()I"⟩, 80), (⟨"CourtMatcherModel", "sum", "()I"⟩, 80), (⟨"CourtMatcherModel", "product", "()I"⟩, 80), (⟨"CourtMatcherModel", "factor", "()I"⟩, 80), (⟨"CourtMatcherModel", "part", "(II)I"⟩, 80)]
theorem lw_r3 : ∀ q ∈ lw_privs_3, lw_okq q := List.forall_mem_cons.mpr ⟨lw_p32, List.forall_mem_cons.mpr ⟨lw_p33, List.forall_mem_cons.mpr ⟨lw_p34, List.forall_mem_cons.mpr ⟨lw_p35, List.forall_mem_cons.mpr ⟨lw_p36, List.forall_mem_cons.mpr ⟨lw_p37, List.forall_mem_cons.mpr ⟨lw_p38, List.forall_mem_cons.mpr ⟨lw_p39, List.forall_mem_cons.mpr ⟨lw_p40, List.forall_mem_cons.mpr ⟨lw_p41, List.forall_mem_cons.mpr ⟨lw_p42, List.forall_mem_cons.mpr ⟨lw_p43, List.forall_mem_cons.mpr ⟨lw_p44, List.forall_mem_cons.mpr ⟨lw_p45, List.forall_mem_cons.mpr ⟨lw_p46, List.forall_mem_cons.mpr ⟨lw_p47, fun _ h => absurd h List.not_mem_nil⟩⟩⟩⟩⟩⟩⟩⟩⟩⟩⟩⟩⟩⟩⟩⟩
theorem lw_p48 : lw_okq (⟨"CourtMatcherModel", "fail", "()V"⟩, 80) := ⟨⟨by decide +kernel, by decide +kernel⟩, List.mem_of_getElem? (i := 990) (by decide +kernel), List.mem_of_getElem? (i := 1318) (by decide +kernel), List.mem_of_getElem? (i := 1319) (by decide +kernel)⟩
theorem lw_p49 : lw_okq (⟨"CourtMatcherModel", "ofTwo", "()I"⟩, 80) := ⟨⟨by decide +kernel, by decide +kernel⟩, List.mem_of_getElem? (i := 990) (by decide +kernel), List.mem_of_getElem? (i := 1322) (by decide +kernel), List.mem_of_getElem? (i := 1323) (by decide +kernel)⟩
theorem lw_p50 : lw_okq (⟨"CourtMatcherModel", "isSign", "(I)Z"⟩, 80) := ⟨⟨by decide +kernel, by decide +kernel⟩, List.mem_of_getElem? (i := 990) (by decide +kernel), List.mem_of_getElem? (i := 1326) (by decide +kernel), List.mem_of_getElem? (i := 1327) (by decide +kernel)⟩
theorem lw_p51 : lw_okq (⟨"CourtMatcherModel", "opens", "()Z"⟩, 80) := ⟨⟨by decide +kernel, by decide +kernel⟩, List.mem_of_getElem? (i := 990) (by decide +kernel), List.mem_of_getElem? (i := 1330) (by decide +kernel), List.mem_of_getElem? (i := 1331) (by decide +kernel)⟩
theorem lw_p52 : lw_okq (⟨"CourtMatcherModel", "takes", "(I)V"⟩, 80) := ⟨⟨by decide +kernel, by decide +kernel⟩, List.mem_of_getElem? (i := 990) (by decide +kernel), List.mem_of_getElem? (i := 1334) (by decide +kernel), List.mem_of_getElem? (i := 1335) (by decide +kernel)⟩
theorem lw_p53 : lw_okq (⟨"CourtMatcherModel", "trades", "(I)V"⟩, 80) := ⟨⟨by decide +kernel, by decide +kernel⟩, List.mem_of_getElem? (i := 990) (by decide +kernel), List.mem_of_getElem? (i := 1338) (by decide +kernel), List.mem_of_getElem? (i := 1339) (by decide +kernel)⟩
theorem lw_p54 : lw_okq (⟨"CourtMatcherModel", "comesTo", "(I)I"⟩, 80) := ⟨⟨by decide +kernel, by decide +kernel⟩, List.mem_of_getElem? (i := 990) (by decide +kernel), List.mem_of_getElem? (i := 1342) (by decide +kernel), List.mem_of_getElem? (i := 1343) (by decide +kernel)⟩
theorem lw_p55 : lw_okq (⟨"CourtMatcherModel", "names", "(I)I"⟩, 80) := ⟨⟨by decide +kernel, by decide +kernel⟩, List.mem_of_getElem? (i := 990) (by decide +kernel), List.mem_of_getElem? (i := 1346) (by decide +kernel), List.mem_of_getElem? (i := 1347) (by decide +kernel)⟩
theorem lw_p56 : lw_okq (⟨"CourtMatcherModel", "isHeavy", "()Z"⟩, 80) := ⟨⟨by decide +kernel, by decide +kernel⟩, List.mem_of_getElem? (i := 990) (by decide +kernel), List.mem_of_getElem? (i := 1350) (by decide +kernel), List.mem_of_getElem? (i := 1351) (by decide +kernel)⟩
theorem lw_p57 : lw_okq (⟨"CourtMatcherModel", "weight", "(I)I"⟩, 80) := ⟨⟨by decide +kernel, by decide +kernel⟩, List.mem_of_getElem? (i := 990) (by decide +kernel), List.mem_of_getElem? (i := 1354) (by decide +kernel), List.mem_of_getElem? (i := 1355) (by decide +kernel)⟩
theorem lw_p58 : lw_okq (⟨"CourtMatcherModel", "asked", "(III)J"⟩, 80) := ⟨⟨by decide +kernel, by decide +kernel⟩, List.mem_of_getElem? (i := 990) (by decide +kernel), List.mem_of_getElem? (i := 1375) (by decide +kernel), List.mem_of_getElem? (i := 1376) (by decide +kernel)⟩
theorem lw_p59 : lw_okq (⟨"CourtMatcherModel", "valueOf", "(I)J"⟩, 80) := ⟨⟨by decide +kernel, by decide +kernel⟩, List.mem_of_getElem? (i := 990) (by decide +kernel), List.mem_of_getElem? (i := 1379) (by decide +kernel), List.mem_of_getElem? (i := 1380) (by decide +kernel)⟩
theorem lw_p60 : lw_okq (⟨"CourtMatcherModel", "valueOf", "(II)J"⟩, 80) := ⟨⟨by decide +kernel, by decide +kernel⟩, List.mem_of_getElem? (i := 990) (by decide +kernel), List.mem_of_getElem? (i := 1383) (by decide +kernel), List.mem_of_getElem? (i := 1384) (by decide +kernel)⟩
theorem lw_p61 : lw_okq (⟨"CourtMatcherModel", "named", "(II)J"⟩, 80) := ⟨⟨by decide +kernel, by decide +kernel⟩, List.mem_of_getElem? (i := 990) (by decide +kernel), List.mem_of_getElem? (i := 1387) (by decide +kernel), List.mem_of_getElem? (i := 1388) (by decide +kernel)⟩
theorem lw_p62 : lw_okq (⟨"CourtMatcherModel", "limited", "(JII)J"⟩, 80) := ⟨⟨by decide +kernel, by decide +kernel⟩, List.mem_of_getElem? (i := 990) (by decide +kernel), List.mem_of_getElem? (i := 1391) (by decide +kernel), List.mem_of_getElem? (i := 1392) (by decide +kernel)⟩
theorem lw_p63 : lw_okq (⟨"CourtMatcherModel", "fails", "(III)J"⟩, 80) := ⟨⟨by decide +kernel, by decide +kernel⟩, List.mem_of_getElem? (i := 990) (by decide +kernel), List.mem_of_getElem? (i := 1397) (by decide +kernel), List.mem_of_getElem? (i := 1398) (by decide +kernel)⟩
def lw_privs_4 : List (MethodName × Nat) := [(⟨"CourtMatcherModel", "fail", "()V"⟩, 80), (⟨"CourtMatcherModel", "ofTwo", "()I"⟩, 80), (⟨"CourtMatcherModel", "isSign", "(I)Z"⟩, 80), (⟨"CourtMatcherModel", "opens", "()Z"⟩, 80), (⟨"CourtMatcherModel", "takes", "(I)V"⟩, 80), (⟨"CourtMatcherModel", "trades", "(I)V"⟩, 80), (⟨"CourtMatcherModel", "comesTo", "(I)I"⟩, 80), (⟨"CourtMatcherModel", "names", "(I)I"⟩, 80), (⟨"CourtMatcherModel", "isHeavy", "()Z"⟩, 80), (⟨"CourtMatcherModel", "weight", "(I)I"⟩, 80), (⟨"CourtMatcherModel", "asked", "(III)J"⟩, 80), (⟨"CourtMatcherModel", "valueOf", "(I)J"⟩, 80), (⟨"CourtMatcherModel", "valueOf", "(II)J"⟩, 80), (⟨"CourtMatcherModel", "named", "(II)J"⟩, 80), (⟨"CourtMatcherModel", "limited", "(JII)J"⟩, 80), (⟨"CourtMatcherModel", "fails", "(III)J"⟩, 80)]
theorem lw_r4 : ∀ q ∈ lw_privs_4, lw_okq q := List.forall_mem_cons.mpr ⟨lw_p48, List.forall_mem_cons.mpr ⟨lw_p49, List.forall_mem_cons.mpr ⟨lw_p50, List.forall_mem_cons.mpr ⟨lw_p51, List.forall_mem_cons.mpr ⟨lw_p52, List.forall_mem_cons.mpr ⟨lw_p53, List.forall_mem_cons.mpr ⟨lw_p54, List.forall_mem_cons.mpr ⟨lw_p55, List.forall_mem_cons.mpr ⟨lw_p56, List.forall_mem_cons.mpr ⟨lw_p57, List.forall_mem_cons.mpr ⟨lw_p58, List.forall_mem_cons.mpr ⟨lw_p59, List.forall_mem_cons.mpr ⟨lw_p60, List.forall_mem_cons.mpr ⟨lw_p61, List.forall_mem_cons.mpr ⟨lw_p62, List.forall_mem_cons.mpr ⟨lw_p63, fun _ h => absurd h List.not_mem_nil⟩⟩⟩⟩⟩⟩⟩⟩⟩⟩⟩⟩⟩⟩⟩⟩
theorem lw_p64 : lw_okq (⟨"CourtMatcherModel", "burdenOf", "(II)J"⟩, 80) := ⟨⟨by decide +kernel, by decide +kernel⟩, List.mem_of_getElem? (i := 990) (by decide +kernel), List.mem_of_getElem? (i := 1411) (by decide +kernel), List.mem_of_getElem? (i := 1412) (by decide +kernel)⟩
theorem lw_p65 : lw_okq (⟨"CourtMatcherModel", "costs", "()V"⟩, 80) := ⟨⟨by decide +kernel, by decide +kernel⟩, List.mem_of_getElem? (i := 990) (by decide +kernel), List.mem_of_getElem? (i := 1426) (by decide +kernel), List.mem_of_getElem? (i := 1427) (by decide +kernel)⟩
theorem lw_p66 : lw_okq (⟨"CourtMatcherModel", "tellsBurdens", "()V"⟩, 80) := ⟨⟨by decide +kernel, by decide +kernel⟩, List.mem_of_getElem? (i := 990) (by decide +kernel), List.mem_of_getElem? (i := 1430) (by decide +kernel), List.mem_of_getElem? (i := 1431) (by decide +kernel)⟩
theorem lw_p67 : lw_okq (⟨"CourtMatcherModel", "opens", "([I)V"⟩, 80) := ⟨⟨by decide +kernel, by decide +kernel⟩, List.mem_of_getElem? (i := 990) (by decide +kernel), List.mem_of_getElem? (i := 1434) (by decide +kernel), List.mem_of_getElem? (i := 1435) (by decide +kernel)⟩
theorem lw_p68 : lw_okq (⟨"CourtMatcherModel", "isOpen", "([III)Z"⟩, 80) := ⟨⟨by decide +kernel, by decide +kernel⟩, List.mem_of_getElem? (i := 990) (by decide +kernel), List.mem_of_getElem? (i := 1438) (by decide +kernel), List.mem_of_getElem? (i := 1439) (by decide +kernel)⟩
theorem lw_p69 : lw_okq (⟨"CourtMatcherModel", "isJudge", "(I)Z"⟩, 80) := ⟨⟨by decide +kernel, by decide +kernel⟩, List.mem_of_getElem? (i := 990) (by decide +kernel), List.mem_of_getElem? (i := 1442) (by decide +kernel), List.mem_of_getElem? (i := 1443) (by decide +kernel)⟩
theorem lw_p70 : lw_okq (⟨"CourtMatcherModel", "isCase", "(I)Z"⟩, 80) := ⟨⟨by decide +kernel, by decide +kernel⟩, List.mem_of_getElem? (i := 990) (by decide +kernel), List.mem_of_getElem? (i := 1446) (by decide +kernel), List.mem_of_getElem? (i := 1447) (by decide +kernel)⟩
theorem lw_p71 : lw_okq (⟨"CourtMatcherModel", "least", "()J"⟩, 80) := ⟨⟨by decide +kernel, by decide +kernel⟩, List.mem_of_getElem? (i := 990) (by decide +kernel), List.mem_of_getElem? (i := 1459) (by decide +kernel), List.mem_of_getElem? (i := 1460) (by decide +kernel)⟩
theorem lw_p72 : lw_okq (⟨"CourtMatcherModel", "picks", "(I)V"⟩, 80) := ⟨⟨by decide +kernel, by decide +kernel⟩, List.mem_of_getElem? (i := 990) (by decide +kernel), List.mem_of_getElem? (i := 1476) (by decide +kernel), List.mem_of_getElem? (i := 1477) (by decide +kernel)⟩
theorem lw_p73 : lw_okq (⟨"CourtMatcherModel", "with", "(II)J"⟩, 80) := ⟨⟨by decide +kernel, by decide +kernel⟩, List.mem_of_getElem? (i := 990) (by decide +kernel), List.mem_of_getElem? (i := 1484) (by decide +kernel), List.mem_of_getElem? (i := 1485) (by decide +kernel)⟩
theorem lw_p74 : lw_okq (⟨"CourtMatcherModel", "lacking", "(II)J"⟩, 80) := ⟨⟨by decide +kernel, by decide +kernel⟩, List.mem_of_getElem? (i := 990) (by decide +kernel), List.mem_of_getElem? (i := 1488) (by decide +kernel), List.mem_of_getElem? (i := 1489) (by decide +kernel)⟩
theorem lw_p75 : lw_okq (⟨"CourtMatcherModel", "lists", "()V"⟩, 80) := ⟨⟨by decide +kernel, by decide +kernel⟩, List.mem_of_getElem? (i := 990) (by decide +kernel), List.mem_of_getElem? (i := 1501) (by decide +kernel), List.mem_of_getElem? (i := 1502) (by decide +kernel)⟩
theorem lw_p76 : lw_okq (⟨"CourtMatcherModel", "walks", "(IIJ)V"⟩, 80) := ⟨⟨by decide +kernel, by decide +kernel⟩, List.mem_of_getElem? (i := 990) (by decide +kernel), List.mem_of_getElem? (i := 1505) (by decide +kernel), List.mem_of_getElem? (i := 1506) (by decide +kernel)⟩
theorem lw_p77 : lw_okq (⟨"CourtMatcherModel", "enters", "(J)V"⟩, 80) := ⟨⟨by decide +kernel, by decide +kernel⟩, List.mem_of_getElem? (i := 990) (by decide +kernel), List.mem_of_getElem? (i := 1509) (by decide +kernel), List.mem_of_getElem? (i := 1510) (by decide +kernel)⟩
theorem lw_p78 : lw_okq (⟨"CourtMatcherModel", "heaviest", "()J"⟩, 80) := ⟨⟨by decide +kernel, by decide +kernel⟩, List.mem_of_getElem? (i := 990) (by decide +kernel), List.mem_of_getElem? (i := 1517) (by decide +kernel), List.mem_of_getElem? (i := 1518) (by decide +kernel)⟩
theorem lw_p79 : lw_okq (⟨"CourtMatcherModel", "begins", "()V"⟩, 80) := ⟨⟨by decide +kernel, by decide +kernel⟩, List.mem_of_getElem? (i := 990) (by decide +kernel), List.mem_of_getElem? (i := 1527) (by decide +kernel), List.mem_of_getElem? (i := 1528) (by decide +kernel)⟩
def lw_privs_5 : List (MethodName × Nat) := [(⟨"CourtMatcherModel", "burdenOf", "(II)J"⟩, 80), (⟨"CourtMatcherModel", "costs", "()V"⟩, 80), (⟨"CourtMatcherModel", "tellsBurdens", "()V"⟩, 80), (⟨"CourtMatcherModel", "opens", "([I)V"⟩, 80), (⟨"CourtMatcherModel", "isOpen", "([III)Z"⟩, 80), (⟨"CourtMatcherModel", "isJudge", "(I)Z"⟩, 80), (⟨"CourtMatcherModel", "isCase", "(I)Z"⟩, 80), (⟨"CourtMatcherModel", "least", "()J"⟩, 80), (⟨"CourtMatcherModel", "picks", "(I)V"⟩, 80), (⟨"CourtMatcherModel", "with", "(II)J"⟩, 80), (⟨"CourtMatcherModel", "lacking", "(II)J"⟩, 80), (⟨"CourtMatcherModel", "lists", "()V"⟩, 80), (⟨"CourtMatcherModel", "walks", "(IIJ)V"⟩, 80), (⟨"CourtMatcherModel", "enters", "(J)V"⟩, 80), (⟨"CourtMatcherModel", "heaviest", "()J"⟩, 80), (⟨"CourtMatcherModel", "begins", "()V"⟩, 80)]
theorem lw_r5 : ∀ q ∈ lw_privs_5, lw_okq q := List.forall_mem_cons.mpr ⟨lw_p64, List.forall_mem_cons.mpr ⟨lw_p65, List.forall_mem_cons.mpr ⟨lw_p66, List.forall_mem_cons.mpr ⟨lw_p67, List.forall_mem_cons.mpr ⟨lw_p68, List.forall_mem_cons.mpr ⟨lw_p69, List.forall_mem_cons.mpr ⟨lw_p70, List.forall_mem_cons.mpr ⟨lw_p71, List.forall_mem_cons.mpr ⟨lw_p72, List.forall_mem_cons.mpr ⟨lw_p73, List.forall_mem_cons.mpr ⟨lw_p74, List.forall_mem_cons.mpr ⟨lw_p75, List.forall_mem_cons.mpr ⟨lw_p76, List.forall_mem_cons.mpr ⟨lw_p77, List.forall_mem_cons.mpr ⟨lw_p78, List.forall_mem_cons.mpr ⟨lw_p79, fun _ h => absurd h List.not_mem_nil⟩⟩⟩⟩⟩⟩⟩⟩⟩⟩⟩⟩⟩⟩⟩⟩
theorem lw_p80 : lw_okq (⟨"CourtMatcherModel", "casesIn", "()I"⟩, 80) := ⟨⟨by decide +kernel, by decide +kernel⟩, List.mem_of_getElem? (i := 990) (by decide +kernel), List.mem_of_getElem? (i := 1531) (by decide +kernel), List.mem_of_getElem? (i := 1532) (by decide +kernel)⟩
theorem lw_p81 : lw_okq (⟨"CourtMatcherModel", "isLast", "()Z"⟩, 80) := ⟨⟨by decide +kernel, by decide +kernel⟩, List.mem_of_getElem? (i := 990) (by decide +kernel), List.mem_of_getElem? (i := 1535) (by decide +kernel), List.mem_of_getElem? (i := 1536) (by decide +kernel)⟩
theorem lw_p82 : lw_okq (⟨"CourtMatcherModel", "slack", "(II)J"⟩, 80) := ⟨⟨by decide +kernel, by decide +kernel⟩, List.mem_of_getElem? (i := 990) (by decide +kernel), List.mem_of_getElem? (i := 1539) (by decide +kernel), List.mem_of_getElem? (i := 1540) (by decide +kernel)⟩
theorem lw_p83 : lw_okq (⟨"CourtMatcherModel", "marking", "()I"⟩, 80) := ⟨⟨by decide +kernel, by decide +kernel⟩, List.mem_of_getElem? (i := 990) (by decide +kernel), List.mem_of_getElem? (i := 1543) (by decide +kernel), List.mem_of_getElem? (i := 1544) (by decide +kernel)⟩
theorem lw_p84 : lw_okq (⟨"CourtMatcherModel", "greatest", "(I)I"⟩, 80) := ⟨⟨by decide +kernel, by decide +kernel⟩, List.mem_of_getElem? (i := 990) (by decide +kernel), List.mem_of_getElem? (i := 1547) (by decide +kernel), List.mem_of_getElem? (i := 1548) (by decide +kernel)⟩
theorem lw_p85 : lw_okq (⟨"CourtMatcherModel", "finds", "(I)Z"⟩, 80) := ⟨⟨by decide +kernel, by decide +kernel⟩, List.mem_of_getElem? (i := 990) (by decide +kernel), List.mem_of_getElem? (i := 1551) (by decide +kernel), List.mem_of_getElem? (i := 1552) (by decide +kernel)⟩
theorem lw_p86 : lw_okq (⟨"CourtMatcherModel", "rise", "()J"⟩, 80) := ⟨⟨by decide +kernel, by decide +kernel⟩, List.mem_of_getElem? (i := 990) (by decide +kernel), List.mem_of_getElem? (i := 1555) (by decide +kernel), List.mem_of_getElem? (i := 1556) (by decide +kernel)⟩
theorem lw_p87 : lw_okq (⟨"CourtMatcherModel", "daysOf", "(I)J"⟩, 80) := ⟨⟨by decide +kernel, by decide +kernel⟩, List.mem_of_getElem? (i := 990) (by decide +kernel), List.mem_of_getElem? (i := 1573) (by decide +kernel), List.mem_of_getElem? (i := 1574) (by decide +kernel)⟩
theorem lw_p88 : lw_okq (⟨"CourtMatcherModel", "reads", "(I)Z"⟩, 80) := ⟨⟨by decide +kernel, by decide +kernel⟩, List.mem_of_getElem? (i := 990) (by decide +kernel), List.mem_of_getElem? (i := 1598) (by decide +kernel), List.mem_of_getElem? (i := 1599) (by decide +kernel)⟩
theorem lw_p89 : lw_okq (⟨"CourtMatcherModel", "casesMany", "()I"⟩, 80) := ⟨⟨by decide +kernel, by decide +kernel⟩, List.mem_of_getElem? (i := 990) (by decide +kernel), List.mem_of_getElem? (i := 1602) (by decide +kernel), List.mem_of_getElem? (i := 1603) (by decide +kernel)⟩
theorem lw_p90 : lw_okq (⟨"CourtMatcherModel", "placeOf", "()I"⟩, 80) := ⟨⟨by decide +kernel, by decide +kernel⟩, List.mem_of_getElem? (i := 990) (by decide +kernel), List.mem_of_getElem? (i := 1607) (by decide +kernel), List.mem_of_getElem? (i := 1608) (by decide +kernel)⟩
theorem lw_p91 : lw_okq (⟨"CourtMatcherModel", "keeps", "(Z)V"⟩, 80) := ⟨⟨by decide +kernel, by decide +kernel⟩, List.mem_of_getElem? (i := 990) (by decide +kernel), List.mem_of_getElem? (i := 1619) (by decide +kernel), List.mem_of_getElem? (i := 1620) (by decide +kernel)⟩
theorem lw_p92 : lw_okq (⟨"CourtMatcherModel", "openMany", "()I"⟩, 80) := ⟨⟨by decide +kernel, by decide +kernel⟩, List.mem_of_getElem? (i := 990) (by decide +kernel), List.mem_of_getElem? (i := 1626) (by decide +kernel), List.mem_of_getElem? (i := 1627) (by decide +kernel)⟩
theorem lw_p93 : lw_okq (⟨"CourtMatcherModel", "marksOf", "(I)I"⟩, 80) := ⟨⟨by decide +kernel, by decide +kernel⟩, List.mem_of_getElem? (i := 990) (by decide +kernel), List.mem_of_getElem? (i := 1638) (by decide +kernel), List.mem_of_getElem? (i := 1639) (by decide +kernel)⟩
def lw_privs_6 : List (MethodName × Nat) := [(⟨"CourtMatcherModel", "casesIn", "()I"⟩, 80), (⟨"CourtMatcherModel", "isLast", "()Z"⟩, 80), (⟨"CourtMatcherModel", "slack", "(II)J"⟩, 80), (⟨"CourtMatcherModel", "marking", "()I"⟩, 80), (⟨"CourtMatcherModel", "greatest", "(I)I"⟩, 80), (⟨"CourtMatcherModel", "finds", "(I)Z"⟩, 80), (⟨"CourtMatcherModel", "rise", "()J"⟩, 80), (⟨"CourtMatcherModel", "daysOf", "(I)J"⟩, 80), (⟨"CourtMatcherModel", "reads", "(I)Z"⟩, 80), (⟨"CourtMatcherModel", "casesMany", "()I"⟩, 80), (⟨"CourtMatcherModel", "placeOf", "()I"⟩, 80), (⟨"CourtMatcherModel", "keeps", "(Z)V"⟩, 80), (⟨"CourtMatcherModel", "openMany", "()I"⟩, 80), (⟨"CourtMatcherModel", "marksOf", "(I)I"⟩, 80)]
theorem lw_r6 : ∀ q ∈ lw_privs_6, lw_okq q := List.forall_mem_cons.mpr ⟨lw_p80, List.forall_mem_cons.mpr ⟨lw_p81, List.forall_mem_cons.mpr ⟨lw_p82, List.forall_mem_cons.mpr ⟨lw_p83, List.forall_mem_cons.mpr ⟨lw_p84, List.forall_mem_cons.mpr ⟨lw_p85, List.forall_mem_cons.mpr ⟨lw_p86, List.forall_mem_cons.mpr ⟨lw_p87, List.forall_mem_cons.mpr ⟨lw_p88, List.forall_mem_cons.mpr ⟨lw_p89, List.forall_mem_cons.mpr ⟨lw_p90, List.forall_mem_cons.mpr ⟨lw_p91, List.forall_mem_cons.mpr ⟨lw_p92, List.forall_mem_cons.mpr ⟨lw_p93, fun _ h => absurd h List.not_mem_nil⟩⟩⟩⟩⟩⟩⟩⟩⟩⟩⟩⟩⟩⟩
def lw_privs : List (MethodName × Nat) := lw_privs_1 ++ (lw_privs_2 ++ (lw_privs_3 ++ (lw_privs_4 ++ (lw_privs_5 ++ (lw_privs_6)))))
def lw_tbl : List Cond := k2_sels lw_privs ++ tables_1
theorem lw_privs_ok : ∀ q ∈ lw_privs, lw_okq q := by
  show ∀ q ∈ lw_privs_1 ++ (lw_privs_2 ++ (lw_privs_3 ++ (lw_privs_4 ++ (lw_privs_5 ++ (lw_privs_6))))), lw_okq q
  exact List.forall_mem_append.mpr ⟨lw_r1, List.forall_mem_append.mpr ⟨lw_r2, List.forall_mem_append.mpr ⟨lw_r3, List.forall_mem_append.mpr ⟨lw_r4, List.forall_mem_append.mpr ⟨lw_r5, lw_r6⟩⟩⟩⟩⟩
end
section
/-! names, as the program beside the claim printed them: classes, fields, types, codes, methods -/
def RX0 : String := "CourtMatcher$Court"
def TX0 : u_T := fun k => match k with
  | 0 => ("CourtMatcher$Court", "judges", "I", false)
  | 1 => ("CourtMatcher$Court", "matters", "I", false)
  | 2 => ("CourtMatcher$Court", "traits", "[I", true)
  | 3 => ("CourtMatcher$Court", "own", "[J", true)
  | 4 => ("CourtMatcher$Court", "marks", "[I", true)
  | 5 => ("CourtMatcher$Court", "rules", "[LCourtMatcher$Rule;", true)
  | _ => ("CourtMatcher$Court", "weights", "[I", true)
def tyX0 : Nat → FieldType := fun k => match k with
  | 0 => .int
  | 1 => .int
  | 2 => .array .int
  | 3 => .array .long
  | 4 => .array .int
  | 5 => .array (.object "CourtMatcher$Rule")
  | _ => .array .int
theorem nmX0 : ∀ a, a < 7 → ∀ b, b < 7 → a ≠ b → (TX0 a).2.1 ≠ (TX0 b).2.1 := by decide +kernel
theorem tyX0_ok : ∀ k, k < 7 → parseFieldDescriptor (TX0 k).2.2.1 = some (tyX0 k) := by decide +kernel
abbrev cX0_init : ByteArray := prog_2_method_1_code
def yX0_init : MethodName := ⟨RX0, "<init>", "()V"⟩
abbrev cX0_take : ByteArray := prog_2_method_2_code
def yX0_take : MethodName := ⟨RX0, "take", "(LCourtMatcher$Court;)V"⟩
abbrev cX0_seat : ByteArray := prog_2_method_3_code
def yX0_seat : MethodName := ⟨RX0, "seat", "(III)I"⟩
abbrev cX0_isIn : ByteArray := prog_2_method_4_code
def yX0_isIn : MethodName := ⟨RX0, "isIn", "(I)Z"⟩
abbrev cX0_forcedBeside : ByteArray := prog_2_method_5_code
def yX0_forcedBeside : MethodName := ⟨RX0, "forcedBeside", "(I)Z"⟩
abbrev cX0_marked : ByteArray := prog_2_method_6_code
def yX0_marked : MethodName := ⟨RX0, "marked", "(I)I"⟩
abbrev cX0_owned : ByteArray := prog_2_method_7_code
def yX0_owned : MethodName := ⟨RX0, "owned", "()I"⟩
abbrev cX0_namersOf : ByteArray := prog_2_method_8_code
def yX0_namersOf : MethodName := ⟨RX0, "namersOf", "(I)I"⟩
abbrev cX0_reachOf : ByteArray := prog_2_method_9_code
def yX0_reachOf : MethodName := ⟨RX0, "reachOf", "(I)I"⟩
abbrev cX0_weighRules : ByteArray := prog_2_method_10_code
def yX0_weighRules : MethodName := ⟨RX0, "weighRules", "()V"⟩
abbrev cX0_refusalOf : ByteArray := prog_2_method_11_code
def yX0_refusalOf : MethodName := ⟨RX0, "refusalOf", "(I)I"⟩
def RX1 : String := "CourtMatcher$Diary"
def TX1 : u_T := fun k => match k with
  | 0 => ("CourtMatcher$Diary", "heard", "I", false)
  | 1 => ("CourtMatcher$Diary", "totals", "[J", true)
  | 2 => ("CourtMatcher$Diary", "judges", "[I", true)
  | 3 => ("CourtMatcher$Diary", "picks", "[I", true)
  | _ => ("CourtMatcher$Diary", "marks", "[I", true)
def tyX1 : Nat → FieldType := fun k => match k with
  | 0 => .int
  | 1 => .array .long
  | 2 => .array .int
  | 3 => .array .int
  | _ => .array .int
theorem nmX1 : ∀ a, a < 5 → ∀ b, b < 5 → a ≠ b → (TX1 a).2.1 ≠ (TX1 b).2.1 := by decide +kernel
theorem tyX1_ok : ∀ k, k < 5 → parseFieldDescriptor (TX1 k).2.2.1 = some (tyX1 k) := by decide +kernel
abbrev cX1_init : ByteArray := prog_3_method_1_code
def yX1_init : MethodName := ⟨RX1, "<init>", "()V"⟩
abbrev cX1_write : ByteArray := prog_3_method_2_code
def yX1_write : MethodName := ⟨RX1, "write", "(LCourtMatcher$Plan;LCourtMatcher$Plan;[I)V"⟩
abbrev cX1_hear : ByteArray := prog_3_method_3_code
def yX1_hear : MethodName := ⟨RX1, "hear", "(LCourtMatcher$Plan;I)V"⟩
def RX2 : String := "CourtMatcher$Greatest"
def TX2 : u_T := fun k => match k with
  | 0 => ("CourtMatcher$Greatest", "size", "I", false)
  | 1 => ("CourtMatcher$Greatest", "markedCases", "I", false)
  | 2 => ("CourtMatcher$Greatest", "markedJudges", "I", false)
  | 3 => ("CourtMatcher$Greatest", "judgeOf", "[I", true)
  | 4 => ("CourtMatcher$Greatest", "caseOf", "[I", true)
  | 5 => ("CourtMatcher$Greatest", "from", "[I", true)
  | _ => ("CourtMatcher$Greatest", "queue", "[I", true)
def tyX2 : Nat → FieldType := fun k => match k with
  | 0 => .int
  | 1 => .int
  | 2 => .int
  | 3 => .array .int
  | 4 => .array .int
  | 5 => .array .int
  | _ => .array .int
theorem nmX2 : ∀ a, a < 7 → ∀ b, b < 7 → a ≠ b → (TX2 a).2.1 ≠ (TX2 b).2.1 := by decide +kernel
theorem tyX2_ok : ∀ k, k < 7 → parseFieldDescriptor (TX2 k).2.2.1 = some (tyX2 k) := by decide +kernel
abbrev cX2_init : ByteArray := prog_4_method_1_code
def yX2_init : MethodName := ⟨RX2, "<init>", "()V"⟩
abbrev cX2_find : ByteArray := prog_4_method_2_code
def yX2_find : MethodName := ⟨RX2, "find", "([II)V"⟩
abbrev cX2_grow : ByteArray := prog_4_method_3_code
def yX2_grow : MethodName := ⟨RX2, "grow", "([II)Z"⟩
abbrev cX2_turn : ByteArray := prog_4_method_4_code
def yX2_turn : MethodName := ⟨RX2, "turn", "(I)V"⟩
abbrev cX2_spread : ByteArray := prog_4_method_5_code
def yX2_spread : MethodName := ⟨RX2, "spread", "([II)V"⟩
def RX3 : String := "CourtMatcher$NextOnes"
def TX3 : u_T := fun k => match k with
  | 0 => ("CourtMatcher$NextOnes", "sizes", "[I", true)
  | 1 => ("CourtMatcher$NextOnes", "totals", "[J", true)
  | 2 => ("CourtMatcher$NextOnes", "firsts", "[I", true)
  | 3 => ("CourtMatcher$NextOnes", "onward", "[I", true)
  | 4 => ("CourtMatcher$NextOnes", "heads", "[I", true)
  | 5 => ("CourtMatcher$NextOnes", "sums", "[J", true)
  | _ => ("CourtMatcher$NextOnes", "judges", "[I", true)
def tyX3 : Nat → FieldType := fun k => match k with
  | 0 => .array .int
  | 1 => .array .long
  | 2 => .array .int
  | 3 => .array .int
  | 4 => .array .int
  | 5 => .array .long
  | _ => .array .int
theorem nmX3 : ∀ a, a < 7 → ∀ b, b < 7 → a ≠ b → (TX3 a).2.1 ≠ (TX3 b).2.1 := by decide +kernel
theorem tyX3_ok : ∀ k, k < 7 → parseFieldDescriptor (TX3 k).2.2.1 = some (tyX3 k) := by decide +kernel
abbrev cX3_init : ByteArray := prog_5_method_1_code
def yX3_init : MethodName := ⟨RX3, "<init>", "()V"⟩
abbrev cX3_find : ByteArray := prog_5_method_2_code
def yX3_find : MethodName := ⟨RX3, "find", "(LCourtMatcher$Plan;)V"⟩
abbrev cX3_merge : ByteArray := prog_5_method_3_code
def yX3_merge : MethodName := ⟨RX3, "merge", "(LCourtMatcher$Plan;II)I"⟩
abbrev cX3_headTotal : ByteArray := prog_5_method_4_code
def yX3_headTotal : MethodName := ⟨RX3, "headTotal", "(LCourtMatcher$Plan;III)J"⟩
abbrev cX3_firstJudge : ByteArray := prog_5_method_5_code
def yX3_firstJudge : MethodName := ⟨RX3, "firstJudge", "()I"⟩
abbrev cX3_follow : ByteArray := prog_5_method_6_code
def yX3_follow : MethodName := ⟨RX3, "follow", "(LCourtMatcher$Plan;I)V"⟩
abbrev cX3_placeOf : ByteArray := prog_5_method_7_code
def yX3_placeOf : MethodName := ⟨RX3, "placeOf", "([I)I"⟩
def RX4 : String := "CourtMatcher$Plan"
def TX4 : u_T := fun k => match k with
  | 0 => ("CourtMatcher$Plan", "matters", "I", false)
  | 1 => ("CourtMatcher$Plan", "cases", "I", false)
  | 2 => ("CourtMatcher$Plan", "order", "[I", true)
  | 3 => ("CourtMatcher$Plan", "openJudges", "I", false)
  | 4 => ("CourtMatcher$Plan", "burdens", "[J", true)
  | 5 => ("CourtMatcher$Plan", "rows", "[I", true)
  | 6 => ("CourtMatcher$Plan", "least", "[J", true)
  | 7 => ("CourtMatcher$Plan", "ways", "[I", true)
  | 8 => ("CourtMatcher$Plan", "reached", "[I", true)
  | _ => ("CourtMatcher$Plan", "shares", "[I", true)
def tyX4 : Nat → FieldType := fun k => match k with
  | 0 => .int
  | 1 => .int
  | 2 => .array .int
  | 3 => .int
  | 4 => .array .long
  | 5 => .array .int
  | 6 => .array .long
  | 7 => .array .int
  | 8 => .array .int
  | _ => .array .int
theorem nmX4 : ∀ a, a < 10 → ∀ b, b < 10 → a ≠ b → (TX4 a).2.1 ≠ (TX4 b).2.1 := by decide +kernel
theorem tyX4_ok : ∀ k, k < 10 → parseFieldDescriptor (TX4 k).2.2.1 = some (tyX4 k) := by decide +kernel
abbrev cX4_init : ByteArray := prog_6_method_1_code
def yX4_init : MethodName := ⟨RX4, "<init>", "()V"⟩
abbrev cX4_load : ByteArray := prog_6_method_2_code
def yX4_load : MethodName := ⟨RX4, "load", "(LCourtMatcher$Court;LCourtMatcher$Teller;)V"⟩
abbrev cX4_take : ByteArray := prog_6_method_3_code
def yX4_take : MethodName := ⟨RX4, "take", "(LCourtMatcher$Plan;)V"⟩
abbrev cX4_openBy : ByteArray := prog_6_method_4_code
def yX4_openBy : MethodName := ⟨RX4, "openBy", "([I)V"⟩
abbrev cX4_force : ByteArray := prog_6_method_5_code
def yX4_force : MethodName := ⟨RX4, "force", "(II)V"⟩
abbrev cX4_isOpen : ByteArray := prog_6_method_6_code
def yX4_isOpen : MethodName := ⟨RX4, "isOpen", "(II)Z"⟩
abbrev cX4_openPairs : ByteArray := prog_6_method_7_code
def yX4_openPairs : MethodName := ⟨RX4, "openPairs", "()I"⟩
abbrev cX4_closeJudge : ByteArray := prog_6_method_8_code
def yX4_closeJudge : MethodName := ⟨RX4, "closeJudge", "(I)V"⟩
abbrev cX4_closeHeavier : ByteArray := prog_6_method_9_code
def yX4_closeHeavier : MethodName := ⟨RX4, "closeHeavier", "(J)V"⟩
abbrev cX4_heavierThan : ByteArray := prog_6_method_10_code
def yX4_heavierThan : MethodName := ⟨RX4, "heavierThan", "(J)I"⟩
abbrev cX4_weigh : ByteArray := prog_6_method_11_code
def yX4_weigh : MethodName := ⟨RX4, "weigh", "(Z)V"⟩
abbrev cX4_listCases : ByteArray := prog_6_method_12_code
def yX4_listCases : MethodName := ⟨RX4, "listCases", "()V"⟩
abbrev cX4_canTake : ByteArray := prog_6_method_13_code
def yX4_canTake : MethodName := ⟨RX4, "canTake", "(I)Z"⟩
abbrev cX4_weighFrom : ByteArray := prog_6_method_14_code
def yX4_weighFrom : MethodName := ⟨RX4, "weighFrom", "(IIZ)V"⟩
abbrev cX4_leads : ByteArray := prog_6_method_15_code
def yX4_leads : MethodName := ⟨RX4, "leads", "(III)Z"⟩
abbrev cX4_pick : ByteArray := prog_6_method_16_code
def yX4_pick : MethodName := ⟨RX4, "pick", "(I[I)V"⟩
abbrev cX4_share : ByteArray := prog_6_method_17_code
def yX4_share : MethodName := ⟨RX4, "share", "()V"⟩
abbrev cX4_shareFrom : ByteArray := prog_6_method_18_code
def yX4_shareFrom : MethodName := ⟨RX4, "shareFrom", "(II)V"⟩
abbrev cX4_follows : ByteArray := prog_6_method_19_code
def yX4_follows : MethodName := ⟨RX4, "follows", "(LCourtMatcher$Sheet;[I)Z"⟩
abbrev cX4_sumOf : ByteArray := prog_6_method_20_code
def yX4_sumOf : MethodName := ⟨RX4, "sumOf", "([I)J"⟩
abbrev cX4_sharedOf : ByteArray := prog_6_method_21_code
def yX4_sharedOf : MethodName := ⟨RX4, "sharedOf", "([I)I"⟩
def RX5 : String := "CourtMatcher$Rounds"
def TX5 : u_T := fun k => match k with
  | 0 => ("CourtMatcher$Rounds", "made", "I", false)
  | 1 => ("CourtMatcher$Rounds", "facts", "[J", true)
  | 2 => ("CourtMatcher$Rounds", "prices", "[J", true)
  | 3 => ("CourtMatcher$Rounds", "tolls", "[J", true)
  | 4 => ("CourtMatcher$Rounds", "pays", "[J", true)
  | _ => ("CourtMatcher$Rounds", "tight", "[I", true)
def tyX5 : Nat → FieldType := fun k => match k with
  | 0 => .int
  | 1 => .array .long
  | 2 => .array .long
  | 3 => .array .long
  | 4 => .array .long
  | _ => .array .int
theorem nmX5 : ∀ a, a < 6 → ∀ b, b < 6 → a ≠ b → (TX5 a).2.1 ≠ (TX5 b).2.1 := by decide +kernel
theorem tyX5_ok : ∀ k, k < 6 → parseFieldDescriptor (TX5 k).2.2.1 = some (tyX5 k) := by decide +kernel
abbrev cX5_init : ByteArray := prog_7_method_1_code
def yX5_init : MethodName := ⟨RX5, "<init>", "()V"⟩
abbrev cX5_make : ByteArray := prog_7_method_2_code
def yX5_make : MethodName := ⟨RX5, "make", "(LCourtMatcher$Plan;LCourtMatcher$Greatest;)V"⟩
abbrev cX5_firstPay : ByteArray := prog_7_method_3_code
def yX5_firstPay : MethodName := ⟨RX5, "firstPay", "(LCourtMatcher$Plan;I)J"⟩
abbrev cX5_slack : ByteArray := prog_7_method_4_code
def yX5_slack : MethodName := ⟨RX5, "slack", "(LCourtMatcher$Plan;II)J"⟩
abbrev cX5_findTight : ByteArray := prog_7_method_5_code
def yX5_findTight : MethodName := ⟨RX5, "findTight", "(LCourtMatcher$Plan;)I"⟩
abbrev cX5_leastSlack : ByteArray := prog_7_method_6_code
def yX5_leastSlack : MethodName := ⟨RX5, "leastSlack", "(LCourtMatcher$Plan;II)J"⟩
abbrev cX5_keep : ByteArray := prog_7_method_7_code
def yX5_keep : MethodName := ⟨RX5, "keep", "(IILCourtMatcher$Greatest;)V"⟩
abbrev cX5_raise : ByteArray := prog_7_method_8_code
def yX5_raise : MethodName := ⟨RX5, "raise", "(LCourtMatcher$Greatest;J)V"⟩
def RX6 : String := "CourtMatcher$Rule"
def TX6 : u_T := fun k => match k with
  | 0 => ("CourtMatcher$Rule", "parts", "I", false)
  | 1 => ("CourtMatcher$Rule", "steps", "I", false)
  | 2 => ("CourtMatcher$Rule", "ops", "[I", true)
  | 3 => ("CourtMatcher$Rule", "args", "[I", true)
  | _ => ("CourtMatcher$Rule", "places", "[I", true)
def tyX6 : Nat → FieldType := fun k => match k with
  | 0 => .int
  | 1 => .int
  | 2 => .array .int
  | 3 => .array .int
  | _ => .array .int
theorem nmX6 : ∀ a, a < 5 → ∀ b, b < 5 → a ≠ b → (TX6 a).2.1 ≠ (TX6 b).2.1 := by decide +kernel
theorem tyX6_ok : ∀ k, k < 5 → parseFieldDescriptor (TX6 k).2.2.1 = some (tyX6 k) := by decide +kernel
abbrev cX6_init : ByteArray := prog_8_method_1_code
def yX6_init : MethodName := ⟨RX6, "<init>", "()V"⟩
abbrev cX6_clear : ByteArray := prog_8_method_2_code
def yX6_clear : MethodName := ⟨RX6, "clear", "()V"⟩
abbrev cX6_take : ByteArray := prog_8_method_3_code
def yX6_take : MethodName := ⟨RX6, "take", "(LCourtMatcher$Rule;)V"⟩
abbrev cX6_add : ByteArray := prog_8_method_4_code
def yX6_add : MethodName := ⟨RX6, "add", "(III)V"⟩
abbrev cX6_landHere : ByteArray := prog_8_method_5_code
def yX6_landHere : MethodName := ⟨RX6, "landHere", "(I)V"⟩
abbrev cX6_names : ByteArray := prog_8_method_6_code
def yX6_names : MethodName := ⟨RX6, "names", "()I"⟩
abbrev cX6_weightBy : ByteArray := prog_8_method_7_code
def yX6_weightBy : MethodName := ⟨RX6, "weightBy", "([I)I"⟩
def RX7 : String := "CourtMatcher$Sheet"
def TX7 : u_T := fun k => match k with
  | 0 => ("CourtMatcher$Sheet", "sort", "I", false)
  | 1 => ("CourtMatcher$Sheet", "size", "I", false)
  | _ => ("CourtMatcher$Sheet", "items", "[J", true)
def tyX7 : Nat → FieldType := fun k => match k with
  | 0 => .int
  | 1 => .int
  | _ => .array .long
theorem nmX7 : ∀ a, a < 3 → ∀ b, b < 3 → a ≠ b → (TX7 a).2.1 ≠ (TX7 b).2.1 := by decide +kernel
theorem tyX7_ok : ∀ k, k < 3 → parseFieldDescriptor (TX7 k).2.2.1 = some (tyX7 k) := by decide +kernel
abbrev cX7_init : ByteArray := prog_9_method_1_code
def yX7_init : MethodName := ⟨RX7, "<init>", "()V"⟩
abbrev cX7_become : ByteArray := prog_9_method_2_code
def yX7_become : MethodName := ⟨RX7, "become", "(II)V"⟩
abbrev cX7_holds : ByteArray := prog_9_method_3_code
def yX7_holds : MethodName := ⟨RX7, "holds", "(II)Z"⟩
abbrev cX7_set : ByteArray := prog_9_method_4_code
def yX7_set : MethodName := ⟨RX7, "set", "(IJ)V"⟩
def RX8 : String := "CourtMatcher$Tape"
def TX8 : u_T := fun k => match k with
  | 0 => ("CourtMatcher$Tape", "bytes", "[I", true)
  | 1 => ("CourtMatcher$Tape", "size", "I", false)
  | 2 => ("CourtMatcher$Tape", "draft", "LCourtMatcher$Rule;", false)
  | 3 => ("CourtMatcher$Tape", "at", "I", false)
  | 4 => ("CourtMatcher$Tape", "nested", "I", false)
  | 5 => ("CourtMatcher$Tape", "token", "I", false)
  | 6 => ("CourtMatcher$Tape", "place", "I", false)
  | 7 => ("CourtMatcher$Tape", "op", "I", false)
  | _ => ("CourtMatcher$Tape", "arg", "I", false)
def tyX8 : Nat → FieldType := fun k => match k with
  | 0 => .array .int
  | 1 => .int
  | 2 => .object "CourtMatcher$Rule"
  | 3 => .int
  | 4 => .int
  | 5 => .int
  | 6 => .int
  | 7 => .int
  | _ => .int
theorem nmX8 : ∀ a, a < 9 → ∀ b, b < 9 → a ≠ b → (TX8 a).2.1 ≠ (TX8 b).2.1 := by decide +kernel
theorem tyX8_ok : ∀ k, k < 9 → parseFieldDescriptor (TX8 k).2.2.1 = some (tyX8 k) := by decide +kernel
abbrev cX8_init : ByteArray := prog_10_method_1_code
def yX8_init : MethodName := ⟨RX8, "<init>", "()V"⟩
abbrev cX8_add : ByteArray := prog_10_method_2_code
def yX8_add : MethodName := ⟨RX8, "add", "(I)Z"⟩
abbrev cX8_parse : ByteArray := prog_10_method_3_code
def yX8_parse : MethodName := ⟨RX8, "parse", "()I"⟩
abbrev cX8_expr : ByteArray := prog_10_method_4_code
def yX8_expr : MethodName := ⟨RX8, "expr", "()Z"⟩
abbrev cX8_sum : ByteArray := prog_10_method_5_code
def yX8_sum : MethodName := ⟨RX8, "sum", "()Z"⟩
abbrev cX8_product : ByteArray := prog_10_method_6_code
def yX8_product : MethodName := ⟨RX8, "product", "()Z"⟩
abbrev cX8_factor : ByteArray := prog_10_method_7_code
def yX8_factor : MethodName := ⟨RX8, "factor", "()Z"⟩
abbrev cX8_atom : ByteArray := prog_10_method_8_code
def yX8_atom : MethodName := ⟨RX8, "atom", "()Z"⟩
abbrev cX8_function : ByteArray := prog_10_method_9_code
def yX8_function : MethodName := ⟨RX8, "function", "()Z"⟩
abbrev cX8_part : ByteArray := prog_10_method_10_code
def yX8_part : MethodName := ⟨RX8, "part", "()Z"⟩
abbrev cX8_enter : ByteArray := prog_10_method_11_code
def yX8_enter : MethodName := ⟨RX8, "enter", "()Z"⟩
abbrev cX8_leave : ByteArray := prog_10_method_12_code
def yX8_leave : MethodName := ⟨RX8, "leave", "(I)Z"⟩
abbrev cX8_step : ByteArray := prog_10_method_13_code
def yX8_step : MethodName := ⟨RX8, "step", "()V"⟩
abbrev cX8_word : ByteArray := prog_10_method_14_code
def yX8_word : MethodName := ⟨RX8, "word", "(I)V"⟩
abbrev cX8_nameOfOne : ByteArray := prog_10_method_15_code
def yX8_nameOfOne : MethodName := ⟨RX8, "nameOfOne", "(I)V"⟩
abbrev cX8_nameOfThree : ByteArray := prog_10_method_16_code
def yX8_nameOfThree : MethodName := ⟨RX8, "nameOfThree", "(III)V"⟩
abbrev cX8_digits : ByteArray := prog_10_method_17_code
def yX8_digits : MethodName := ⟨RX8, "digits", "(I)V"⟩
abbrev cX8_isLetter : ByteArray := prog_10_method_18_code
def yX8_isLetter : MethodName := ⟨RX8, "isLetter", "(I)Z"⟩
abbrev cX8_isDigit : ByteArray := prog_10_method_19_code
def yX8_isDigit : MethodName := ⟨RX8, "isDigit", "(I)Z"⟩
abbrev cX8_isSign : ByteArray := prog_10_method_20_code
def yX8_isSign : MethodName := ⟨RX8, "isSign", "(I)Z"⟩
def RX9 : String := "CourtMatcher$Teller"
def TX9 : u_T := fun k => match k with
  | 0 => ("CourtMatcher$Teller", "stack", "[J", true)
  | 1 => ("CourtMatcher$Teller", "path", "[I", true)
  | 2 => ("CourtMatcher$Teller", "failure", "I", false)
  | 3 => ("CourtMatcher$Teller", "place", "I", false)
  | 4 => ("CourtMatcher$Teller", "chain", "I", false)
  | 5 => ("CourtMatcher$Teller", "last", "I", false)
  | _ => ("CourtMatcher$Teller", "ahead", "I", false)
def tyX9 : Nat → FieldType := fun k => match k with
  | 0 => .array .long
  | 1 => .array .int
  | 2 => .int
  | 3 => .int
  | 4 => .int
  | 5 => .int
  | _ => .int
theorem nmX9 : ∀ a, a < 7 → ∀ b, b < 7 → a ≠ b → (TX9 a).2.1 ≠ (TX9 b).2.1 := by decide +kernel
theorem tyX9_ok : ∀ k, k < 7 → parseFieldDescriptor (TX9 k).2.2.1 = some (tyX9 k) := by decide +kernel
abbrev cX9_init : ByteArray := prog_11_method_1_code
def yX9_init : MethodName := ⟨RX9, "<init>", "()V"⟩
abbrev cX9_burdenOf : ByteArray := prog_11_method_2_code
def yX9_burdenOf : MethodName := ⟨RX9, "burdenOf", "(LCourtMatcher$Court;I)J"⟩
abbrev cX9_read : ByteArray := prog_11_method_3_code
def yX9_read : MethodName := ⟨RX9, "read", "(LCourtMatcher$Court;III)J"⟩
abbrev cX9_leaf : ByteArray := prog_11_method_4_code
def yX9_leaf : MethodName := ⟨RX9, "leaf", "(LCourtMatcher$Court;III)J"⟩
abbrev cX9_join : ByteArray := prog_11_method_5_code
def yX9_join : MethodName := ⟨RX9, "join", "(IJJ)J"⟩
abbrev cX9_fail : ByteArray := prog_11_method_6_code
def yX9_fail : MethodName := ⟨RX9, "fail", "(III)J"⟩
def RX10 : String := "CourtMatcher"
def TX10 : u_T := fun k => match k with
  | 0 => ("CourtMatcher", "court", "LCourtMatcher$Court;", true)
  | 1 => ("CourtMatcher", "kept", "LCourtMatcher$Court;", true)
  | 2 => ("CourtMatcher", "imaged", "Z", false)
  | 3 => ("CourtMatcher", "tape", "LCourtMatcher$Tape;", true)
  | 4 => ("CourtMatcher", "teller", "LCourtMatcher$Teller;", true)
  | 5 => ("CourtMatcher", "plan", "LCourtMatcher$Plan;", true)
  | 6 => ("CourtMatcher", "thought", "LCourtMatcher$Plan;", true)
  | 7 => ("CourtMatcher", "greatest", "LCourtMatcher$Greatest;", true)
  | 8 => ("CourtMatcher", "rounds", "LCourtMatcher$Rounds;", true)
  | 9 => ("CourtMatcher", "nextOnes", "LCourtMatcher$NextOnes;", true)
  | 10 => ("CourtMatcher", "diary", "LCourtMatcher$Diary;", true)
  | 11 => ("CourtMatcher", "picks", "[I", true)
  | 12 => ("CourtMatcher", "planned", "Z", false)
  | 13 => ("CourtMatcher", "shared", "Z", false)
  | 14 => ("CourtMatcher", "listed", "Z", false)
  | 15 => ("CourtMatcher", "heard", "Z", false)
  | _ => ("CourtMatcher", "sheets", "[LCourtMatcher$Sheet;", true)
def tyX10 : Nat → FieldType := fun k => match k with
  | 0 => .object "CourtMatcher$Court"
  | 1 => .object "CourtMatcher$Court"
  | 2 => .boolean
  | 3 => .object "CourtMatcher$Tape"
  | 4 => .object "CourtMatcher$Teller"
  | 5 => .object "CourtMatcher$Plan"
  | 6 => .object "CourtMatcher$Plan"
  | 7 => .object "CourtMatcher$Greatest"
  | 8 => .object "CourtMatcher$Rounds"
  | 9 => .object "CourtMatcher$NextOnes"
  | 10 => .object "CourtMatcher$Diary"
  | 11 => .array .int
  | 12 => .boolean
  | 13 => .boolean
  | 14 => .boolean
  | 15 => .boolean
  | _ => .array (.object "CourtMatcher$Sheet")
theorem nmX10 : ∀ a, a < 17 → ∀ b, b < 17 → a ≠ b → (TX10 a).2.1 ≠ (TX10 b).2.1 := by decide +kernel
theorem tyX10_ok : ∀ k, k < 17 → parseFieldDescriptor (TX10 k).2.2.1 = some (tyX10 k) := by decide +kernel
abbrev cX10_init : ByteArray := prog_1_method_1_code
def yX10_init : MethodName := ⟨RX10, "<init>", "()V"⟩
abbrev cX10_here : ByteArray := prog_1_method_2_code
def yX10_here : MethodName := ⟨RX10, "here", "(III)I"⟩
abbrev cX10_trait : ByteArray := prog_1_method_3_code
def yX10_trait : MethodName := ⟨RX10, "trait", "(IIII)I"⟩
abbrev cX10_tell : ByteArray := prog_1_method_4_code
def yX10_tell : MethodName := ⟨RX10, "tell", "(IIJ)J"⟩
abbrev cX10_burden : ByteArray := prog_1_method_5_code
def yX10_burden : MethodName := ⟨RX10, "burden", "(II)J"⟩
abbrev cX10_mark : ByteArray := prog_1_method_6_code
def yX10_mark : MethodName := ⟨RX10, "mark", "(III)I"⟩
abbrev cX10_open : ByteArray := prog_1_method_7_code
def yX10_open : MethodName := ⟨RX10, "open", "(II)I"⟩
abbrev cX10_feed : ByteArray := prog_1_method_8_code
def yX10_feed : MethodName := ⟨RX10, "feed", "(I)I"⟩
abbrev cX10_text : ByteArray := prog_1_method_9_code
def yX10_text : MethodName := ⟨RX10, "text", "(I)I"⟩
abbrev cX10_empty : ByteArray := prog_1_method_10_code
def yX10_empty : MethodName := ⟨RX10, "empty", "(I)I"⟩
abbrev cX10_told : ByteArray := prog_1_method_11_code
def yX10_told : MethodName := ⟨RX10, "told", "(II)I"⟩
abbrev cX10_value : ByteArray := prog_1_method_12_code
def yX10_value : MethodName := ⟨RX10, "value", "(III)J"⟩
abbrev cX10_why : ByteArray := prog_1_method_13_code
def yX10_why : MethodName := ⟨RX10, "why", "(III)I"⟩
abbrev cX10_solve : ByteArray := prog_1_method_14_code
def yX10_solve : MethodName := ⟨RX10, "solve", "()I"⟩
abbrev cX10_round : ByteArray := prog_1_method_15_code
def yX10_round : MethodName := ⟨RX10, "round", "(II)J"⟩
abbrev cX10_price : ByteArray := prog_1_method_16_code
def yX10_price : MethodName := ⟨RX10, "price", "(III)J"⟩
abbrev cX10_total : ByteArray := prog_1_method_17_code
def yX10_total : MethodName := ⟨RX10, "total", "()J"⟩
abbrev cX10_many : ByteArray := prog_1_method_18_code
def yX10_many : MethodName := ⟨RX10, "many", "()I"⟩
abbrev cX10_best : ByteArray := prog_1_method_19_code
def yX10_best : MethodName := ⟨RX10, "best", "(II)I"⟩
abbrev cX10_kind : ByteArray := prog_1_method_20_code
def yX10_kind : MethodName := ⟨RX10, "kind", "(II)I"⟩
abbrev cX10_room : ByteArray := prog_1_method_21_code
def yX10_room : MethodName := ⟨RX10, "room", "(III)J"⟩
abbrev cX10_next : ByteArray := prog_1_method_22_code
def yX10_next : MethodName := ⟨RX10, "next", "(II)J"⟩
abbrev cX10_fair : ByteArray := prog_1_method_23_code
def yX10_fair : MethodName := ⟨RX10, "fair", "(I)J"⟩
abbrev cX10_days : ByteArray := prog_1_method_24_code
def yX10_days : MethodName := ⟨RX10, "days", "(I)J"⟩
abbrev cX10_day : ByteArray := prog_1_method_25_code
def yX10_day : MethodName := ⟨RX10, "day", "(II)I"⟩
abbrev cX10_lack : ByteArray := prog_1_method_26_code
def yX10_lack : MethodName := ⟨RX10, "lack", "(I)I"⟩
abbrev cX10_without : ByteArray := prog_1_method_27_code
def yX10_without : MethodName := ⟨RX10, "without", "(II)J"⟩
abbrev cX10_tells : ByteArray := prog_1_method_28_code
def yX10_tells : MethodName := ⟨RX10, "tells", "(II)J"⟩
abbrev cX10_film : ByteArray := prog_1_method_29_code
def yX10_film : MethodName := ⟨RX10, "film", "(II)I"⟩
abbrev cX10_image : ByteArray := prog_1_method_30_code
def yX10_image : MethodName := ⟨RX10, "image", "()I"⟩
abbrev cX10_back : ByteArray := prog_1_method_31_code
def yX10_back : MethodName := ⟨RX10, "back", "()I"⟩
abbrev cX10_count : ByteArray := prog_1_method_32_code
def yX10_count : MethodName := ⟨RX10, "count", "(I)I"⟩
abbrev cX10_sheet : ByteArray := prog_1_method_33_code
def yX10_sheet : MethodName := ⟨RX10, "sheet", "(III)I"⟩
abbrev cX10_put : ByteArray := prog_1_method_34_code
def yX10_put : MethodName := ⟨RX10, "put", "(IIJ)I"⟩
abbrev cX10_item : ByteArray := prog_1_method_35_code
def yX10_item : MethodName := ⟨RX10, "item", "(II)J"⟩
abbrev cX10_copy : ByteArray := prog_1_method_36_code
def yX10_copy : MethodName := ⟨RX10, "copy", "(IIIII)I"⟩
abbrev cX10_lay : ByteArray := prog_1_method_37_code
def yX10_lay : MethodName := ⟨RX10, "lay", "(IIIII)I"⟩
abbrev cX10_isSide : ByteArray := prog_1_method_38_code
def yX10_isSide : MethodName := ⟨RX10, "isSide", "(I)Z"⟩
abbrev cX10_isSeat : ByteArray := prog_1_method_39_code
def yX10_isSeat : MethodName := ⟨RX10, "isSeat", "(I)Z"⟩
abbrev cX10_isPair : ByteArray := prog_1_method_40_code
def yX10_isPair : MethodName := ⟨RX10, "isPair", "(II)Z"⟩
abbrev cX10_isRule : ByteArray := prog_1_method_41_code
def yX10_isRule : MethodName := ⟨RX10, "isRule", "(I)Z"⟩
abbrev cX10_isSheet : ByteArray := prog_1_method_42_code
def yX10_isSheet : MethodName := ⟨RX10, "isSheet", "(I)Z"⟩
abbrev cX10_changed : ByteArray := prog_1_method_43_code
def yX10_changed : MethodName := ⟨RX10, "changed", "()V"⟩
abbrev cX10_refreshPlan : ByteArray := prog_1_method_44_code
def yX10_refreshPlan : MethodName := ⟨RX10, "refreshPlan", "()V"⟩
abbrev cX10_refreshShares : ByteArray := prog_1_method_45_code
def yX10_refreshShares : MethodName := ⟨RX10, "refreshShares", "()V"⟩
abbrev cX10_refreshNextOnes : ByteArray := prog_1_method_46_code
def yX10_refreshNextOnes : MethodName := ⟨RX10, "refreshNextOnes", "()V"⟩
abbrev cX10_refreshDiary : ByteArray := prog_1_method_47_code
def yX10_refreshDiary : MethodName := ⟨RX10, "refreshDiary", "()V"⟩
def RX11 : String := "CourtMatcherModel"
def TX11 : u_T := fun k => match k with
  | 0 => ("CourtMatcherModel", "thrown", "I", false)
  | 1 => ("CourtMatcherModel", "isIn", "[I", true)
  | 2 => ("CourtMatcherModel", "traits", "[I", true)
  | 3 => ("CourtMatcherModel", "own", "[J", true)
  | 4 => ("CourtMatcherModel", "marks", "[I", true)
  | 5 => ("CourtMatcherModel", "partsOf", "[I", true)
  | 6 => ("CourtMatcherModel", "rootOf", "[I", true)
  | 7 => ("CourtMatcherModel", "namedBy", "[I", true)
  | 8 => ("CourtMatcherModel", "ops", "[I", true)
  | 9 => ("CourtMatcherModel", "nums", "[I", true)
  | 10 => ("CourtMatcherModel", "lefts", "[I", true)
  | 11 => ("CourtMatcherModel", "rights", "[I", true)
  | 12 => ("CourtMatcherModel", "thens", "[I", true)
  | 13 => ("CourtMatcherModel", "elses", "[I", true)
  | 14 => ("CourtMatcherModel", "places", "[I", true)
  | 15 => ("CourtMatcherModel", "tape", "[I", true)
  | 16 => ("CourtMatcherModel", "taped", "I", false)
  | 17 => ("CourtMatcherModel", "here", "I", false)
  | 18 => ("CourtMatcherModel", "token", "I", false)
  | 19 => ("CourtMatcherModel", "tokenAt", "I", false)
  | 20 => ("CourtMatcherModel", "worth", "I", false)
  | 21 => ("CourtMatcherModel", "open", "I", false)
  | 22 => ("CourtMatcherModel", "bad", "Z", false)
  | 23 => ("CourtMatcherModel", "fault", "I", false)
  | 24 => ("CourtMatcherModel", "rows", "I", false)
  | 25 => ("CourtMatcherModel", "readOp", "[I", true)
  | 26 => ("CourtMatcherModel", "readNum", "[I", true)
  | 27 => ("CourtMatcherModel", "readLeft", "[I", true)
  | 28 => ("CourtMatcherModel", "readRight", "[I", true)
  | 29 => ("CourtMatcherModel", "readThen", "[I", true)
  | 30 => ("CourtMatcherModel", "readElse", "[I", true)
  | 31 => ("CourtMatcherModel", "readPlace", "[I", true)
  | 32 => ("CourtMatcherModel", "namedWas", "[I", true)
  | 33 => ("CourtMatcherModel", "kind", "I", false)
  | 34 => ("CourtMatcherModel", "place", "I", false)
  | 35 => ("CourtMatcherModel", "chain", "I", false)
  | 36 => ("CourtMatcherModel", "last", "I", false)
  | 37 => ("CourtMatcherModel", "ahead", "I", false)
  | 38 => ("CourtMatcherModel", "judgeAt", "I", false)
  | 39 => ("CourtMatcherModel", "caseAt", "I", false)
  | 40 => ("CourtMatcherModel", "burdens", "[J", true)
  | 41 => ("CourtMatcherModel", "costs", "[J", true)
  | 42 => ("CourtMatcherModel", "leastOf", "[J", true)
  | 43 => ("CourtMatcherModel", "manyOf", "[I", true)
  | 44 => ("CourtMatcherModel", "judges", "[I", true)
  | 45 => ("CourtMatcherModel", "kept", "[J", true)
  | 46 => ("CourtMatcherModel", "nextTotal", "[J", true)
  | 47 => ("CourtMatcherModel", "nextJudge", "[I", true)
  | 48 => ("CourtMatcherModel", "nextMany", "I", false)
  | 49 => ("CourtMatcherModel", "heavy", "[J", true)
  | 50 => ("CourtMatcherModel", "rounds", "I", false)
  | 51 => ("CourtMatcherModel", "tolls", "[J", true)
  | 52 => ("CourtMatcherModel", "pays", "[J", true)
  | 53 => ("CourtMatcherModel", "roundMany", "[I", true)
  | 54 => ("CourtMatcherModel", "roundCases", "[I", true)
  | 55 => ("CourtMatcherModel", "roundJudges", "[I", true)
  | 56 => ("CourtMatcherModel", "roundTight", "[I", true)
  | 57 => ("CourtMatcherModel", "roundRise", "[J", true)
  | 58 => ("CourtMatcherModel", "prices", "[J", true)
  | 59 => ("CourtMatcherModel", "near", "[I", true)
  | 60 => ("CourtMatcherModel", "heldBy", "[I", true)
  | 61 => ("CourtMatcherModel", "seen", "I", false)
  | 62 => ("CourtMatcherModel", "marked", "I", false)
  | 63 => ("CourtMatcherModel", "markedJudges", "I", false)
  | 64 => ("CourtMatcherModel", "casesThen", "I", false)
  | 65 => ("CourtMatcherModel", "roundIn", "[I", true)
  | 66 => ("CourtMatcherModel", "marksThen", "[I", true)
  | 67 => ("CourtMatcherModel", "read", "[I", true)
  | 68 => ("CourtMatcherModel", "isKept", "Z", false)
  | 69 => ("CourtMatcherModel", "isInKept", "[I", true)
  | 70 => ("CourtMatcherModel", "traitsKept", "[I", true)
  | 71 => ("CourtMatcherModel", "ownKept", "[J", true)
  | 72 => ("CourtMatcherModel", "marksKept", "[I", true)
  | 73 => ("CourtMatcherModel", "partsKept", "[I", true)
  | 74 => ("CourtMatcherModel", "rootKept", "[I", true)
  | 75 => ("CourtMatcherModel", "namedKept", "[I", true)
  | 76 => ("CourtMatcherModel", "textKept", "[I", true)
  | 77 => ("CourtMatcherModel", "sorts", "[I", true)
  | 78 => ("CourtMatcherModel", "sizes", "[I", true)
  | _ => ("CourtMatcherModel", "items", "[J", true)
def tyX11 : Nat → FieldType := fun k => match k with
  | 0 => .int
  | 1 => .array .int
  | 2 => .array .int
  | 3 => .array .long
  | 4 => .array .int
  | 5 => .array .int
  | 6 => .array .int
  | 7 => .array .int
  | 8 => .array .int
  | 9 => .array .int
  | 10 => .array .int
  | 11 => .array .int
  | 12 => .array .int
  | 13 => .array .int
  | 14 => .array .int
  | 15 => .array .int
  | 16 => .int
  | 17 => .int
  | 18 => .int
  | 19 => .int
  | 20 => .int
  | 21 => .int
  | 22 => .boolean
  | 23 => .int
  | 24 => .int
  | 25 => .array .int
  | 26 => .array .int
  | 27 => .array .int
  | 28 => .array .int
  | 29 => .array .int
  | 30 => .array .int
  | 31 => .array .int
  | 32 => .array .int
  | 33 => .int
  | 34 => .int
  | 35 => .int
  | 36 => .int
  | 37 => .int
  | 38 => .int
  | 39 => .int
  | 40 => .array .long
  | 41 => .array .long
  | 42 => .array .long
  | 43 => .array .int
  | 44 => .array .int
  | 45 => .array .long
  | 46 => .array .long
  | 47 => .array .int
  | 48 => .int
  | 49 => .array .long
  | 50 => .int
  | 51 => .array .long
  | 52 => .array .long
  | 53 => .array .int
  | 54 => .array .int
  | 55 => .array .int
  | 56 => .array .int
  | 57 => .array .long
  | 58 => .array .long
  | 59 => .array .int
  | 60 => .array .int
  | 61 => .int
  | 62 => .int
  | 63 => .int
  | 64 => .int
  | 65 => .array .int
  | 66 => .array .int
  | 67 => .array .int
  | 68 => .boolean
  | 69 => .array .int
  | 70 => .array .int
  | 71 => .array .long
  | 72 => .array .int
  | 73 => .array .int
  | 74 => .array .int
  | 75 => .array .int
  | 76 => .array .int
  | 77 => .array .int
  | 78 => .array .int
  | _ => .array .long
theorem nmX11 : ∀ a, a < 80 → ∀ b, b < 80 → a ≠ b → (TX11 a).2.1 ≠ (TX11 b).2.1 := by decide +kernel
theorem tyX11_ok : ∀ k, k < 80 → parseFieldDescriptor (TX11 k).2.2.1 = some (tyX11 k) := by decide +kernel
abbrev cX11_in : ByteArray := prog_13_method_2_code
def yX11_in : MethodName := ⟨RX11, "in", "(JJJ)Z"⟩
abbrev cX11_init : ByteArray := prog_13_method_3_code
def yX11_init : MethodName := ⟨RX11, "<init>", "()V"⟩
abbrev cX11_isWho : ByteArray := prog_13_method_4_code
def yX11_isWho : MethodName := ⟨RX11, "isWho", "(II)Z"⟩
abbrev cX11_isPair : ByteArray := prog_13_method_5_code
def yX11_isPair : MethodName := ⟨RX11, "isPair", "(II)Z"⟩
abbrev cX11_isJudge : ByteArray := prog_13_method_6_code
def yX11_isJudge : MethodName := ⟨RX11, "isJudge", "(I)Z"⟩
abbrev cX11_isCase : ByteArray := prog_13_method_7_code
def yX11_isCase : MethodName := ⟨RX11, "isCase", "(I)Z"⟩
abbrev cX11_here : ByteArray := prog_13_method_8_code
def yX11_here : MethodName := ⟨RX11, "here", "(III)I"⟩
abbrev cX11_trait : ByteArray := prog_13_method_9_code
def yX11_trait : MethodName := ⟨RX11, "trait", "(IIII)I"⟩
abbrev cX11_feed : ByteArray := prog_13_method_10_code
def yX11_feed : MethodName := ⟨RX11, "feed", "(I)I"⟩
abbrev cX11_byteAt : ByteArray := prog_13_method_11_code
def yX11_byteAt : MethodName := ⟨RX11, "byteAt", "(I)I"⟩
abbrev cX11_isLetter : ByteArray := prog_13_method_12_code
def yX11_isLetter : MethodName := ⟨RX11, "isLetter", "(I)Z"⟩
abbrev cX11_isDigit : ByteArray := prog_13_method_13_code
def yX11_isDigit : MethodName := ⟨RX11, "isDigit", "(I)Z"⟩
abbrev cX11_isThree : ByteArray := prog_13_method_14_code
def yX11_isThree : MethodName := ⟨RX11, "isThree", "(III)Z"⟩
abbrev cX11_word : ByteArray := prog_13_method_15_code
def yX11_word : MethodName := ⟨RX11, "word", "()I"⟩
abbrev cX11_isSignByte : ByteArray := prog_13_method_16_code
def yX11_isSignByte : MethodName := ⟨RX11, "isSignByte", "(I)Z"⟩
abbrev cX11_next : ByteArray := prog_13_method_17_code
def yX11_next : MethodName := ⟨RX11, "next", "()V"⟩
abbrev cX11_fail : ByteArray := prog_13_method_18_code
def yX11_fail : MethodName := ⟨RX11, "fail", "()V"⟩
abbrev cX11_isSign : ByteArray := prog_13_method_19_code
def yX11_isSign : MethodName := ⟨RX11, "isSign", "(I)Z"⟩
abbrev cX11_takes : ByteArray := prog_13_method_20_code
def yX11_takes : MethodName := ⟨RX11, "takes", "(I)V"⟩
abbrev cX11_part : ByteArray := prog_13_method_21_code
def yX11_part : MethodName := ⟨RX11, "part", "(II)I"⟩
abbrev cX11_opens : ByteArray := prog_13_method_22_code
def yX11_opens : MethodName := ⟨RX11, "opens", "()Z"⟩
abbrev cX11_expression : ByteArray := prog_13_method_23_code
def yX11_expression : MethodName := ⟨RX11, "expression", "()I"⟩
abbrev cX11_sum : ByteArray := prog_13_method_24_code
def yX11_sum : MethodName := ⟨RX11, "sum", "()I"⟩
abbrev cX11_product : ByteArray := prog_13_method_25_code
def yX11_product : MethodName := ⟨RX11, "product", "()I"⟩
abbrev cX11_factor : ByteArray := prog_13_method_26_code
def yX11_factor : MethodName := ⟨RX11, "factor", "()I"⟩
abbrev cX11_ofTwo : ByteArray := prog_13_method_27_code
def yX11_ofTwo : MethodName := ⟨RX11, "ofTwo", "()I"⟩
abbrev cX11_names : ByteArray := prog_13_method_28_code
def yX11_names : MethodName := ⟨RX11, "names", "(I)I"⟩
abbrev cX11_comesTo : ByteArray := prog_13_method_29_code
def yX11_comesTo : MethodName := ⟨RX11, "comesTo", "(I)I"⟩
abbrev cX11_weight : ByteArray := prog_13_method_30_code
def yX11_weight : MethodName := ⟨RX11, "weight", "(I)I"⟩
abbrev cX11_trades : ByteArray := prog_13_method_31_code
def yX11_trades : MethodName := ⟨RX11, "trades", "(I)V"⟩
abbrev cX11_isHeavy : ByteArray := prog_13_method_32_code
def yX11_isHeavy : MethodName := ⟨RX11, "isHeavy", "()Z"⟩
abbrev cX11_text : ByteArray := prog_13_method_33_code
def yX11_text : MethodName := ⟨RX11, "text", "(I)I"⟩
abbrev cX11_empty : ByteArray := prog_13_method_34_code
def yX11_empty : MethodName := ⟨RX11, "empty", "(I)I"⟩
abbrev cX11_told : ByteArray := prog_13_method_35_code
def yX11_told : MethodName := ⟨RX11, "told", "(II)I"⟩
abbrev cX11_fails : ByteArray := prog_13_method_36_code
def yX11_fails : MethodName := ⟨RX11, "fails", "(III)J"⟩
abbrev cX11_valueOf : ByteArray := prog_13_method_37_code
def yX11_valueOf : MethodName := ⟨RX11, "valueOf", "(I)J"⟩
abbrev cX11_named : ByteArray := prog_13_method_38_code
def yX11_named : MethodName := ⟨RX11, "named", "(II)J"⟩
abbrev cX11_limited : ByteArray := prog_13_method_39_code
def yX11_limited : MethodName := ⟨RX11, "limited", "(JII)J"⟩
abbrev cX11_valueOf_ : ByteArray := prog_13_method_40_code
def yX11_valueOf_ : MethodName := ⟨RX11, "valueOf", "(II)J"⟩
abbrev cX11_asked : ByteArray := prog_13_method_41_code
def yX11_asked : MethodName := ⟨RX11, "asked", "(III)J"⟩
abbrev cX11_value : ByteArray := prog_13_method_42_code
def yX11_value : MethodName := ⟨RX11, "value", "(III)J"⟩
abbrev cX11_why : ByteArray := prog_13_method_43_code
def yX11_why : MethodName := ⟨RX11, "why", "(III)I"⟩
abbrev cX11_burdenOf : ByteArray := prog_13_method_44_code
def yX11_burdenOf : MethodName := ⟨RX11, "burdenOf", "(II)J"⟩
abbrev cX11_forcedOf : ByteArray := prog_13_method_45_code
def yX11_forcedOf : MethodName := ⟨RX11, "forcedOf", "([III)I"⟩
abbrev cX11_isOpen : ByteArray := prog_13_method_46_code
def yX11_isOpen : MethodName := ⟨RX11, "isOpen", "([III)Z"⟩
abbrev cX11_tellsBurdens : ByteArray := prog_13_method_47_code
def yX11_tellsBurdens : MethodName := ⟨RX11, "tellsBurdens", "()V"⟩
abbrev cX11_opens_ : ByteArray := prog_13_method_48_code
def yX11_opens_ : MethodName := ⟨RX11, "opens", "([I)V"⟩
abbrev cX11_costs : ByteArray := prog_13_method_49_code
def yX11_costs : MethodName := ⟨RX11, "costs", "()V"⟩
abbrev cX11_burden : ByteArray := prog_13_method_50_code
def yX11_burden : MethodName := ⟨RX11, "burden", "(II)J"⟩
abbrev cX11_mark : ByteArray := prog_13_method_51_code
def yX11_mark : MethodName := ⟨RX11, "mark", "(III)I"⟩
abbrev cX11_open : ByteArray := prog_13_method_52_code
def yX11_open : MethodName := ⟨RX11, "open", "(II)I"⟩
abbrev cX11_openMany : ByteArray := prog_13_method_53_code
def yX11_openMany : MethodName := ⟨RX11, "openMany", "()I"⟩
abbrev cX11_least : ByteArray := prog_13_method_54_code
def yX11_least : MethodName := ⟨RX11, "least", "()J"⟩
abbrev cX11_toldOr : ByteArray := prog_13_method_55_code
def yX11_toldOr : MethodName := ⟨RX11, "toldOr", "(J)J"⟩
abbrev cX11_picks : ByteArray := prog_13_method_56_code
def yX11_picks : MethodName := ⟨RX11, "picks", "(I)V"⟩
abbrev cX11_tell : ByteArray := prog_13_method_57_code
def yX11_tell : MethodName := ⟨RX11, "tell", "(IIJ)J"⟩
abbrev cX11_total : ByteArray := prog_13_method_58_code
def yX11_total : MethodName := ⟨RX11, "total", "()J"⟩
abbrev cX11_many : ByteArray := prog_13_method_59_code
def yX11_many : MethodName := ⟨RX11, "many", "()I"⟩
abbrev cX11_best : ByteArray := prog_13_method_60_code
def yX11_best : MethodName := ⟨RX11, "best", "(II)I"⟩
abbrev cX11_with : ByteArray := prog_13_method_61_code
def yX11_with : MethodName := ⟨RX11, "with", "(II)J"⟩
abbrev cX11_lacking : ByteArray := prog_13_method_62_code
def yX11_lacking : MethodName := ⟨RX11, "lacking", "(II)J"⟩
abbrev cX11_kind : ByteArray := prog_13_method_63_code
def yX11_kind : MethodName := ⟨RX11, "kind", "(II)I"⟩
abbrev cX11_room : ByteArray := prog_13_method_64_code
def yX11_room : MethodName := ⟨RX11, "room", "(III)J"⟩
abbrev cX11_enters : ByteArray := prog_13_method_65_code
def yX11_enters : MethodName := ⟨RX11, "enters", "(J)V"⟩
abbrev cX11_walks : ByteArray := prog_13_method_66_code
def yX11_walks : MethodName := ⟨RX11, "walks", "(IIJ)V"⟩
abbrev cX11_lists : ByteArray := prog_13_method_67_code
def yX11_lists : MethodName := ⟨RX11, "lists", "()V"⟩
abbrev cX11_next_ : ByteArray := prog_13_method_68_code
def yX11_next_ : MethodName := ⟨RX11, "next", "(II)J"⟩
abbrev cX11_heaviest : ByteArray := prog_13_method_69_code
def yX11_heaviest : MethodName := ⟨RX11, "heaviest", "()J"⟩
abbrev cX11_fair : ByteArray := prog_13_method_70_code
def yX11_fair : MethodName := ⟨RX11, "fair", "(I)J"⟩
abbrev cX11_finds : ByteArray := prog_13_method_71_code
def yX11_finds : MethodName := ⟨RX11, "finds", "(I)Z"⟩
abbrev cX11_greatest : ByteArray := prog_13_method_72_code
def yX11_greatest : MethodName := ⟨RX11, "greatest", "(I)I"⟩
abbrev cX11_marking : ByteArray := prog_13_method_73_code
def yX11_marking : MethodName := ⟨RX11, "marking", "()I"⟩
abbrev cX11_casesIn : ByteArray := prog_13_method_74_code
def yX11_casesIn : MethodName := ⟨RX11, "casesIn", "()I"⟩
abbrev cX11_slack : ByteArray := prog_13_method_75_code
def yX11_slack : MethodName := ⟨RX11, "slack", "(II)J"⟩
abbrev cX11_rise : ByteArray := prog_13_method_76_code
def yX11_rise : MethodName := ⟨RX11, "rise", "()J"⟩
abbrev cX11_begins : ByteArray := prog_13_method_77_code
def yX11_begins : MethodName := ⟨RX11, "begins", "()V"⟩
abbrev cX11_isLast : ByteArray := prog_13_method_78_code
def yX11_isLast : MethodName := ⟨RX11, "isLast", "()Z"⟩
abbrev cX11_solve : ByteArray := prog_13_method_79_code
def yX11_solve : MethodName := ⟨RX11, "solve", "()I"⟩
abbrev cX11_round : ByteArray := prog_13_method_80_code
def yX11_round : MethodName := ⟨RX11, "round", "(II)J"⟩
abbrev cX11_price : ByteArray := prog_13_method_81_code
def yX11_price : MethodName := ⟨RX11, "price", "(III)J"⟩
abbrev cX11_daysOf : ByteArray := prog_13_method_82_code
def yX11_daysOf : MethodName := ⟨RX11, "daysOf", "(I)J"⟩
abbrev cX11_days : ByteArray := prog_13_method_83_code
def yX11_days : MethodName := ⟨RX11, "days", "(I)J"⟩
abbrev cX11_day : ByteArray := prog_13_method_84_code
def yX11_day : MethodName := ⟨RX11, "day", "(II)I"⟩
abbrev cX11_lack : ByteArray := prog_13_method_85_code
def yX11_lack : MethodName := ⟨RX11, "lack", "(I)I"⟩
abbrev cX11_without : ByteArray := prog_13_method_86_code
def yX11_without : MethodName := ⟨RX11, "without", "(II)J"⟩
abbrev cX11_casesMany : ByteArray := prog_13_method_87_code
def yX11_casesMany : MethodName := ⟨RX11, "casesMany", "()I"⟩
abbrev cX11_reads : ByteArray := prog_13_method_88_code
def yX11_reads : MethodName := ⟨RX11, "reads", "(I)Z"⟩
abbrev cX11_tells : ByteArray := prog_13_method_89_code
def yX11_tells : MethodName := ⟨RX11, "tells", "(II)J"⟩
abbrev cX11_placeOf : ByteArray := prog_13_method_90_code
def yX11_placeOf : MethodName := ⟨RX11, "placeOf", "()I"⟩
abbrev cX11_film : ByteArray := prog_13_method_91_code
def yX11_film : MethodName := ⟨RX11, "film", "(II)I"⟩
abbrev cX11_copies : ByteArray := prog_13_method_92_code
def yX11_copies : MethodName := ⟨RX11, "copies", "([I[IIIZ)V"⟩
abbrev cX11_keeps : ByteArray := prog_13_method_93_code
def yX11_keeps : MethodName := ⟨RX11, "keeps", "(Z)V"⟩
abbrev cX11_image : ByteArray := prog_13_method_94_code
def yX11_image : MethodName := ⟨RX11, "image", "()I"⟩
abbrev cX11_back : ByteArray := prog_13_method_95_code
def yX11_back : MethodName := ⟨RX11, "back", "()I"⟩
abbrev cX11_marksOf : ByteArray := prog_13_method_96_code
def yX11_marksOf : MethodName := ⟨RX11, "marksOf", "(I)I"⟩
abbrev cX11_count : ByteArray := prog_13_method_97_code
def yX11_count : MethodName := ⟨RX11, "count", "(I)I"⟩
abbrev cX11_isSheet : ByteArray := prog_13_method_98_code
def yX11_isSheet : MethodName := ⟨RX11, "isSheet", "(I)Z"⟩
abbrev cX11_sheet : ByteArray := prog_13_method_99_code
def yX11_sheet : MethodName := ⟨RX11, "sheet", "(III)I"⟩
abbrev cX11_put : ByteArray := prog_13_method_100_code
def yX11_put : MethodName := ⟨RX11, "put", "(IIJ)I"⟩
abbrev cX11_item : ByteArray := prog_13_method_101_code
def yX11_item : MethodName := ⟨RX11, "item", "(II)J"⟩
abbrev cX11_copy : ByteArray := prog_13_method_102_code
def yX11_copy : MethodName := ⟨RX11, "copy", "(IIIII)I"⟩
abbrev cX11_lay : ByteArray := prog_13_method_103_code
def yX11_lay : MethodName := ⟨RX11, "lay", "(IIIII)I"⟩
def RJ6 : String := "java/lang/Integer"
def TJ6 : u_T := fun k => match k with
  | _ => ("", "", "", false)
def tyJ6 : Nat → FieldType := fun k => match k with
  | _ => .int
abbrev cJ6_bitCount_0f7a4 : ByteArray := prog_14_method_49_code
def yJ6_bitCount_0f7a4 : MethodName := ⟨RJ6, "bitCount", "(I)I"⟩
def RJ9 : String := "java/lang/Math"
def TJ9 : u_T := fun k => match k with
  | _ => ("", "", "", false)
def tyJ9 : Nat → FieldType := fun k => match k with
  | _ => .int
abbrev cJ9_floorDiv_f86c9 : ByteArray := prog_15_method_49_code
def yJ9_floorDiv_f86c9 : MethodName := ⟨RJ9, "floorDiv", "(JJ)J"⟩
abbrev cJ9_floorMod_f86c9 : ByteArray := prog_15_method_52_code
def yJ9_floorMod_f86c9 : MethodName := ⟨RJ9, "floorMod", "(JJ)J"⟩
abbrev cJ9_abs_067f4 : ByteArray := prog_15_method_61_code
def yJ9_abs_067f4 : MethodName := ⟨RJ9, "abs", "(J)J"⟩
abbrev cJ9_max_f86c9 : ByteArray := prog_15_method_66_code
def yJ9_max_f86c9 : MethodName := ⟨RJ9, "max", "(JJ)J"⟩
abbrev cJ9_min_f86c9 : ByteArray := prog_15_method_70_code
def yJ9_min_f86c9 : MethodName := ⟨RJ9, "min", "(JJ)J"⟩
def RJ10 : String := "java/lang/System"
def TJ10 : u_T := fun k => match k with
  | _ => ("", "", "", false)
def tyJ10 : Nat → FieldType := fun k => match k with
  | _ => .int
def RJ7 : String := "java/util/Arrays"
def TJ7 : u_T := fun k => match k with
  | _ => ("", "", "", false)
def tyJ7 : Nat → FieldType := fun k => match k with
  | _ => .int
abbrev cJ7_fill_d0a16 : ByteArray := prog_17_method_101_code
def yJ7_fill_d0a16 : MethodName := ⟨RJ7, "fill", "([JJ)V"⟩
abbrev cJ7_fill_53178 : ByteArray := prog_17_method_103_code
def yJ7_fill_53178 : MethodName := ⟨RJ7, "fill", "([II)V"⟩
def RL : String := "CourtMatcherLaw"
abbrev cL_law : ByteArray := code
def yL_law : MethodName := ⟨RL, "law", "([I)Z"⟩
end
section
/-! THE ABSTRACT MACHINE: the walked methods' instructions over numbers (Int) alone; a cell is a number, its places are numbers.
Values: jI an int, jL a long, jO c a an object of class c at cell a, jY t n a an array (t 0 int, 1 long, 2 Rule, 3 Sheet, 4 the script) of length n at cell a. -/
abbrev jV : Type := Int ⊕ (Int ⊕ ((Nat × Int) ⊕ (Nat × Int × Int)))
abbrev jI (a : Int) : jV := .inl a
abbrev jL (a : Int) : jV := .inr (.inl a)
abbrev jO (c : Nat) (a : Int) : jV := .inr (.inr (.inl (c, a)))
abbrev jY (t : Nat) (n a : Int) : jV := .inr (.inr (.inr (t, n, a)))
abbrev jS : Type := List (Option jV)
abbrev jM : Type := Int → Int → Int
/-- one place of the memory gets a value -/
def jUp (m : jM) (k i v : Int) : jM := fun a b => if a = k ∧ b = i then v else m a b
/-- n places from sp on of a0 come to a1, dp -/
def jCp (m : jM) (a0 sp a1 dp n : Int) : jM := fun k i => if k = a1 ∧ dp ≤ i ∧ i < dp + n then m a0 (sp + (i - dp)) else m k i
def w32 (z : Int) : Int := z.bmod 4294967296
def w64 (z : Int) : Int := z.bmod 18446744073709551616
def iAnd (a b : Int) : Int := (Int32.ofInt a &&& Int32.ofInt b).toInt
def iOr (a b : Int) : Int := (Int32.ofInt a ||| Int32.ofInt b).toInt
def iXor (a b : Int) : Int := (Int32.ofInt a ^^^ Int32.ofInt b).toInt
def iShl (a b : Int) : Int := (Int32.ofInt a <<< (Int32.ofInt b &&& 31)).toInt
def iShr (a b : Int) : Int := (Int32.ofInt a >>> (Int32.ofInt b &&& 31)).toInt
def iUshr (a b : Int) : Int := ((Int32.ofInt a).toUInt32 >>> ((Int32.ofInt b).toUInt32 &&& Int32.toUInt32 31)).toInt32.toInt
def iDiv (a b : Int) : Int := w32 (a.tdiv b)
def iRem (a b : Int) : Int := a.tmod b
def lAnd (a b : Int) : Int := (Int64.ofInt a &&& Int64.ofInt b).toInt
def lOr (a b : Int) : Int := (Int64.ofInt a ||| Int64.ofInt b).toInt
def lXor (a b : Int) : Int := (Int64.ofInt a ^^^ Int64.ofInt b).toInt
def lShl (a b : Int) : Int := (Int64.ofInt a <<< ((Int32.ofInt b).toInt64 &&& 63)).toInt
def lDiv (a b : Int) : Int := w64 (a.tdiv b)
def lRem (a b : Int) : Int := a.tmod b
def i2b (a : Int) : Int := a.bmod 256
/-- what a method's number says: its place in the tables, how many arguments, what it answers (0 nothing, 1 int, 2 long, 3 boolean), its locals, its class, how it is called (0 static, 1 virtual, 2 a constructor), its mode (0 as ever, 1 it makes cells, 2 a leaf), how many cells it makes -/
def jIx (z : Nat) : Nat := z % 256
def jNa (z : Nat) : Nat := z / 256 % 16
def jRt (z : Nat) : Nat := z / 4096 % 8
def jMx (z : Nat) : Nat := z / 32768 % 64
def jCl (z : Nat) : Nat := z / 2097152 % 16
def jKi (z : Nat) : Nat := z / 33554432 % 4
def jMd (z : Nat) : Nat := z / 134217728 % 4
def jMc (z : Nat) : Nat := z / 536870912
/-- what a field's number says: class, place, tag (0 int, 1 long, 2 boolean, 3 an object that stays, 4 an array that stays, 5 an object that may change), the object's class or the array's sort, how far behind the holder the cell lies, its length -/
def jFc (f : Nat) : Nat := f % 16
def jFj (f : Nat) : Nat := f / 16 % 128
def jFg (f : Nat) : Nat := f / 2048 % 8
def jFt (f : Nat) : Nat := f / 16384 % 32
def jFo (f : Nat) : Nat := f / 524288 % 1024
def jFl (f : Nat) : Nat := f / 536870912
/-- locals -/
def jKl (ls : jS) (i : Nat) : jS := match i with
  | 0 => ls
  | i + 1 => match ls[i]? with
    | some (some (.inr (.inl _))) => ls.set i none
    | _ => ls
def jSt1 (ls : jS) (i : Nat) (v : jV) : Option jS := if i < ls.length then some ((jKl ls i).set i (some v)) else none
def jSt2 (ls : jS) (i : Nat) (v : jV) : Option jS := if i + 1 < ls.length then some (((jKl ls i).set i (some v)).set (i + 1) none) else none
def jLay : List jV → jS
  | [] => []
  | .inr (.inl a) :: r => some (.inr (.inl a)) :: none :: jLay r
  | v :: r => some v :: jLay r
def jEnt (z : Nat) (args : List jV) : jS := jLay args ++ List.replicate (jMx z - (jLay args).length) none
def jCat : jV → Nat
  | .inr (.inl _) => 2
  | _ => 1
def jCats (st : List jV) : Nat := (st.map jCat).sum
def jPush (rt : Nat) (v : Int) (st : List jV) : List jV := match rt with
  | 0 => st
  | 2 => .inr (.inl v) :: st
  | _ => .inl v :: st
/-- where an instruction leads: on; on if ..; two ways; many ways; a call; the end -/
abbrev jE : Type := (Nat × jS × List jV × jM) ⊕ ((Prop × Nat × jS × List jV × jM) ⊕ ((Prop × Nat × Nat × List jV) ⊕ ((List (Prop × Nat) × List jV) ⊕ ((Nat × List jV × List jV) ⊕ Int))))
abbrev jN (pc : Nat) (ls : jS) (st : List jV) (m : jM) : Option jE := some (.inl (pc, ls, st, m))
abbrev jG (c : Prop) (pc : Nat) (ls : jS) (st : List jV) (m : jM) : Option jE := some (.inr (.inl (c, pc, ls, st, m)))
abbrev jB (c : Prop) (p1 p2 : Nat) (st : List jV) : Option jE := some (.inr (.inr (.inl (c, p1, p2, st))))
abbrev jW (l : List (Prop × Nat)) (st : List jV) : Option jE := some (.inr (.inr (.inr (.inl (l, st)))))
abbrev jC (y : Nat) (args st : List jV) : Option jE := some (.inr (.inr (.inr (.inr (.inl (y, args, st))))))
abbrev jR (v : Int) : Option jE := some (.inr (.inr (.inr (.inr (.inr v)))))
def jBr (c : Jvm.ClassFile.Cond) (x y : Int) (t n : Nat) (st : List jV) : Option jE := match c with
  | .eq => jB (x = y) t n st
  | .ne => jB (x = y) n t st
  | .lt => jB (x < y) t n st
  | .ge => jB (x < y) n t st
  | .gt => jB (y < x) t n st
  | .le => jB (y < x) n t st
/-- the list's spine is made plain, then it goes on -/
def jFor {β : Type} : jS → (jS → β) → β
  | [], k => k []
  | a :: l, k => jFor l (fun l' => k (a :: l'))
def jForP : jS → (jS → Prop) → Prop
  | [], k => k []
  | a :: l, k => jForP l (fun l' => k (a :: l'))
def jLs (o : Option jS) (pc : Nat) (st : List jV) (m : jM) : Option jE := match o with
  | none => none
  | some ls => jFor ls (fun ls => jN pc ls st m)
end
section
/-! THE TABLES, by program: the cells (kind, length), the methods (instructions with their operands resolved). Cells: CourtMatcher 0 .. 103, CourtMatcherModel 104 .. 160. -/
def jKs : List Nat := [10, 0, 20, 21, 20, 22, 20, 6, 20, 20, 20, 6, 20, 20, 20, 6, 20, 20, 20, 6, 20, 20, 20, 0, 20, 21, 20, 22, 20, 6, 20, 20, 20, 6, 20, 20, 20, 6, 20, 20, 20, 6, 20, 20, 20, 8, 20, 6, 20, 20, 20, 9, 21, 20, 4, 20, 21, 20, 21, 20, 20, 20, 4, 20, 21, 20, 21, 20, 20, 20, 2, 20, 20, 20, 20, 5, 21, 21, 21, 21, 20, 3, 20, 21, 20, 20, 20, 21, 20, 1, 21, 20, 20, 20, 20, 23, 7, 21, 7, 21, 7, 21, 7, 21, 11, 20, 20, 21, 20, 20, 20, 20, 20, 20, 20, 20, 20, 20, 20, 20, 20, 20, 20, 20, 20, 20, 20, 20, 21, 21, 21, 20, 20, 21, 21, 20, 21, 21, 21, 20, 20, 20, 20, 21, 21, 20, 20, 20, 20, 20, 20, 20, 21, 20, 20, 20, 20, 20, 20, 20, 21]
def jLs0 : List Int := [17, 7, 48, 64, 64, 4, 4, 5, 40, 40, 40, 5, 40, 40, 40, 5, 40, 40, 40, 5, 40, 40, 40, 7, 48, 64, 64, 4, 4, 5, 40, 40, 40, 5, 40, 40, 40, 5, 40, 40, 40, 5, 40, 40, 40, 9, 60, 5, 40, 40, 40, 7, 160, 4, 10, 8, 64, 8, 256, 256, 256, 64, 10, 8, 64, 8, 256, 256, 256, 64, 7, 8, 8, 8, 8, 6, 384, 1024, 8, 8, 8, 7, 256, 3072, 3072, 3072, 8, 8, 96, 5, 8, 64, 8, 64, 8, 4, 3, 40, 3, 40, 3, 40, 3, 40, 80, 16, 48, 64, 64, 4, 4, 16, 96, 96, 96, 96, 96, 96, 96, 60, 24, 24, 24, 24, 24, 24, 24, 4, 64, 64, 2304, 2304, 8, 8, 13, 104, 2304, 8, 8, 120, 120, 120, 120, 120, 1920, 8, 8, 120, 64, 8, 16, 48, 64, 64, 4, 4, 16, 672, 4, 4, 160]
def jKd (k : Int) : Nat := jKs.getD k.toNat 99
def jLn (k : Int) : Int := jLs0.getD k.toNat 0
def jRfs : List (Nat × Int) := [(0, 2), (0, 3), (0, 4), (0, 5), (0, 6), (1, 1), (1, 2), (1, 3), (1, 4), (2, 3), (2, 4), (2, 5), (2, 6), (3, 0), (3, 1), (3, 2), (3, 3), (3, 4), (3, 5), (3, 6), (4, 2), (4, 4), (4, 5), (4, 6), (4, 7), (4, 8), (4, 9), (5, 1), (5, 2), (5, 3), (5, 4), (5, 5), (6, 2), (6, 3), (6, 4), (7, 2), (8, 0), (8, 2), (9, 0), (9, 1), (10, 0), (10, 1), (10, 3), (10, 4), (10, 5), (10, 6), (10, 7), (10, 8), (10, 9), (10, 10), (10, 11), (10, 16), (11, 1), (11, 2), (11, 3), (11, 4), (11, 5), (11, 6), (11, 7), (11, 8), (11, 9), (11, 10), (11, 11), (11, 12), (11, 13), (11, 14), (11, 15), (11, 25), (11, 26), (11, 27), (11, 28), (11, 29), (11, 30), (11, 31), (11, 32), (11, 40), (11, 41), (11, 42), (11, 43), (11, 44), (11, 45), (11, 46), (11, 47), (11, 49), (11, 51), (11, 52), (11, 53), (11, 54), (11, 55), (11, 56), (11, 57), (11, 58), (11, 59), (11, 60), (11, 65), (11, 66), (11, 67), (11, 69), (11, 70), (11, 71), (11, 72), (11, 73), (11, 74), (11, 75), (11, 76), (11, 77), (11, 78), (11, 79)]
def jDf (k i : Int) : Int := if jKd k = 22 ∨ jKd k = 23 ∨ (jKd k, i) ∈ jRfs then -1 else 0
def jFin : List (Int × Int × Int) := [(0, 0, 1), (0, 1, 23), (0, 3, 45), (0, 4, 51), (0, 5, 54), (0, 6, 62), (0, 7, 70), (0, 8, 75), (0, 9, 81), (0, 10, 89), (0, 11, 94), (0, 16, 95), (1, 2, 2), (1, 3, 3), (1, 4, 4), (1, 5, 5), (1, 6, 6), (7, 2, 8), (7, 3, 9), (7, 4, 10), (11, 2, 12), (11, 3, 13), (11, 4, 14), (15, 2, 16), (15, 3, 17), (15, 4, 18), (19, 2, 20), (19, 3, 21), (19, 4, 22), (23, 2, 24), (23, 3, 25), (23, 4, 26), (23, 5, 27), (23, 6, 28), (29, 2, 30), (29, 3, 31), (29, 4, 32), (33, 2, 34), (33, 3, 35), (33, 4, 36), (37, 2, 38), (37, 3, 39), (37, 4, 40), (41, 2, 42), (41, 3, 43), (41, 4, 44), (45, 0, 46), (47, 2, 48), (47, 3, 49), (47, 4, 50), (51, 0, 52), (51, 1, 53), (54, 2, 55), (54, 4, 56), (54, 5, 57), (54, 6, 58), (54, 7, 59), (54, 8, 60), (54, 9, 61), (62, 2, 63), (62, 4, 64), (62, 5, 65), (62, 6, 66), (62, 7, 67), (62, 8, 68), (62, 9, 69), (70, 3, 71), (70, 4, 72), (70, 5, 73), (70, 6, 74), (75, 1, 76), (75, 2, 77), (75, 3, 78), (75, 4, 79), (75, 5, 80), (81, 0, 82), (81, 1, 83), (81, 2, 84), (81, 3, 85), (81, 4, 86), (81, 5, 87), (81, 6, 88), (89, 1, 90), (89, 2, 91), (89, 3, 92), (89, 4, 93), (96, 2, 97), (98, 2, 99), (100, 2, 101), (102, 2, 103), (104, 1, 105), (104, 2, 106), (104, 3, 107), (104, 4, 108), (104, 5, 109), (104, 6, 110), (104, 7, 111), (104, 8, 112), (104, 9, 113), (104, 10, 114), (104, 11, 115), (104, 12, 116), (104, 13, 117), (104, 14, 118), (104, 15, 119), (104, 25, 120), (104, 26, 121), (104, 27, 122), (104, 28, 123), (104, 29, 124), (104, 30, 125), (104, 31, 126), (104, 32, 127), (104, 40, 128), (104, 41, 129), (104, 42, 130), (104, 43, 131), (104, 44, 132), (104, 45, 133), (104, 46, 134), (104, 47, 135), (104, 49, 136), (104, 51, 137), (104, 52, 138), (104, 53, 139), (104, 54, 140), (104, 55, 141), (104, 56, 142), (104, 57, 143), (104, 58, 144), (104, 59, 145), (104, 60, 146), (104, 65, 147), (104, 66, 148), (104, 67, 149), (104, 69, 150), (104, 70, 151), (104, 71, 152), (104, 72, 153), (104, 73, 154), (104, 74, 155), (104, 75, 156), (104, 76, 157), (104, 77, 158), (104, 78, 159), (104, 79, 160)]
def jMut : List (Int × Int × Nat) := [(45, 2, 6), (5, 0, 6), (5, 1, 6), (5, 2, 6), (5, 3, 6), (27, 0, 6), (27, 1, 6), (27, 2, 6), (27, 3, 6), (95, 0, 7), (95, 1, 7), (95, 2, 7), (95, 3, 7)]
/-- all cells are made, the references that stay are set, those that change are set too -/
def jFull (m : jM) : Prop := m (-3) 0 = 161 ∧ (∀ q ∈ jFin, m q.1 q.2.1 = q.2.2) ∧ ∀ q ∈ jMut, 0 ≤ m q.1 q.2.1 ∧ m q.1 q.2.1 < 161 ∧ jKd (m q.1 q.2.1) = q.2.2
abbrev zX0_init : Nat := 11475681536
abbrev zX0_take : Nat := 33653249
abbrev zX0_seat : Nat := 33756162
abbrev zX0_isIn : Nat := 33632771
abbrev zX0_forcedBeside : Nat := 33698308
abbrev zX0_marked : Nat := 33690117
abbrev zX0_owned : Nat := 33657094
abbrev zX0_namersOf : Nat := 33690119
abbrev zX0_reachOf : Nat := 33722888
abbrev zX0_weighRules : Nat := 33653001
abbrev zX0_refusalOf : Nat := 33657354
abbrev zX1_init : Nat := 2350940427
abbrev zX1_write : Nat := 35849228
abbrev zX1_hear : Nat := 35816205
abbrev zX2_init : Nat := 2353037582
abbrev zX2_find : Nat := 37880591
abbrev zX2_grow : Nat := 38056720
abbrev zX2_turn : Nat := 37945873
abbrev zX2_spread : Nat := 37913362
abbrev zX3_init : Nat := 3965747475
abbrev zX3_find : Nat := 39977492
abbrev zX3_merge : Nat := 40080405
abbrev zX3_headTotal : Nat := 40084758
abbrev zX3_firstJudge : Nat := 39948567
abbrev zX3_follow : Nat := 40076056
abbrev zX3_placeOf : Nat := 40014361
abbrev zX4_init : Nat := 3967844634
abbrev zX4_load : Nat := 42074907
abbrev zX4_take : Nat := 42009116
abbrev zX4_openBy : Nat := 42041885
abbrev zX4_force : Nat := 42074910
abbrev zX4_isOpen : Nat := 42054431
abbrev zX4_openPairs : Nat := 42045728
abbrev zX4_closeJudge : Nat := 42041889
abbrev zX4_closeHeavier : Nat := 42074658
abbrev zX4_heavierThan : Nat := 42111523
abbrev zX4_weigh : Nat := 42074660
abbrev zX4_listCases : Nat := 42008869
abbrev zX4_canTake : Nat := 42021414
abbrev zX4_weighFrom : Nat := 42468391
abbrev zX4_leads : Nat := 42120232
abbrev zX4_pick : Nat := 42238761
abbrev zX4_share : Nat := 42041642
abbrev zX4_shareFrom : Nat := 42107691
abbrev zX4_follows : Nat := 42251052
abbrev zX4_sumOf : Nat := 42148397
abbrev zX4_sharedOf : Nat := 42111534
abbrev zX5_init : Nat := 2896199983
abbrev zX5_make : Nat := 44270384
abbrev zX5_firstPay : Nat := 44311345
abbrev zX5_slack : Nat := 44180530
abbrev zX5_findTight : Nat := 44241459
abbrev zX5_leastSlack : Nat := 44442676
abbrev zX5_keep : Nat := 44172341
abbrev zX5_raise : Nat := 44204854
abbrev zX6_init : Nat := 1824555319
abbrev zX6_clear : Nat := 46170424
abbrev zX6_take : Nat := 46203449
abbrev zX6_add : Nat := 46269498
abbrev zX6_landHere : Nat := 46203451
abbrev zX6_names : Nat := 46240060
abbrev zX6_weightBy : Nat := 46273085
abbrev zX7_init : Nat := 752910654
abbrev zX7_become : Nat := 48333631
abbrev zX7_holds : Nat := 48345920
abbrev zX7_set : Nat := 48366401
abbrev zX8_init : Nat := 2902491458
abbrev zX8_add : Nat := 50410051
abbrev zX8_parse : Nat := 50368836
abbrev zX8_expr : Nat := 50475333
abbrev zX8_sum : Nat := 50475334
abbrev zX8_product : Nat := 50442567
abbrev zX8_factor : Nat := 50442568
abbrev zX8_atom : Nat := 50377033
abbrev zX8_function : Nat := 50442570
abbrev zX8_part : Nat := 50377035
abbrev zX8_enter : Nat := 50377036
abbrev zX8_leave : Nat := 50410061
abbrev zX8_step : Nat := 50397518
abbrev zX8_word : Nat := 50430543
abbrev zX8_nameOfOne : Nat := 50397776
abbrev zX8_nameOfThree : Nat := 50463825
abbrev zX8_digits : Nat := 50397778
abbrev zX8_isLetter : Nat := 16822611
abbrev zX8_isDigit : Nat := 16822612
abbrev zX8_isSign : Nat := 16822613
abbrev zX9_init : Nat := 1293975894
abbrev zX9_burdenOf : Nat := 52601687
abbrev zX9_read : Nat := 52929880
abbrev zX9_leaf : Nat := 19047513
abbrev zX9_join : Nat := 19047258
abbrev zX9_fail : Nat := 52569179
abbrev zX10_init : Nat := 55520067932
abbrev zX10_here : Nat := 54662237
abbrev zX10_trait : Nat := 54760798
abbrev zX10_tell : Nat := 54699103
abbrev zX10_burden : Nat := 54633312
abbrev zX10_mark : Nat := 54727777
abbrev zX10_open : Nat := 54629218
abbrev zX10_feed : Nat := 54596195
abbrev zX10_text : Nat := 54694500
abbrev zX10_empty : Nat := 54628965
abbrev zX10_told : Nat := 54629222
abbrev zX10_value : Nat := 54666343
abbrev zX10_why : Nat := 54695016
abbrev zX10_solve : Nat := 54563177
abbrev zX10_round : Nat := 54633322
abbrev zX10_price : Nat := 54666347
abbrev zX10_total : Nat := 54567276
abbrev zX10_many : Nat := 54563181
abbrev zX10_best : Nat := 54629230
abbrev zX10_kind : Nat := 54694767
abbrev zX10_room : Nat := 54699120
abbrev zX10_next : Nat := 54633329
abbrev zX10_fair : Nat := 54665842
abbrev zX10_days : Nat := 54698611
abbrev zX10_day : Nat := 54629236
abbrev zX10_lack : Nat := 54596213
abbrev zX10_without : Nat := 54633334
abbrev zX10_tells : Nat := 54633335
abbrev zX10_film : Nat := 54694776
abbrev zX10_image : Nat := 54563193
abbrev zX10_back : Nat := 54563194
abbrev zX10_count : Nat := 54596219
abbrev zX10_sheet : Nat := 54662268
abbrev zX10_put : Nat := 54727805
abbrev zX10_item : Nat := 54666110
abbrev zX10_copy : Nat := 54793855
abbrev zX10_lay : Nat := 54793856
abbrev zX10_isSide : Nat := 21016961
abbrev zX10_isSeat : Nat := 21016962
abbrev zX10_isPair : Nat := 21049987
abbrev zX10_isRule : Nat := 21016964
abbrev zX10_isSheet : Nat := 21016965
abbrev zX10_changed : Nat := 54559110
abbrev zX10_refreshPlan : Nat := 54559111
abbrev zX10_refreshShares : Nat := 54559112
abbrev zX10_refreshNextOnes : Nat := 54559113
abbrev zX10_refreshDiary : Nat := 54559114
abbrev zX11_in : Nat := 23278475
abbrev zX11_init : Nat := 30289232268
abbrev zX11_isWho : Nat := 23147149
abbrev zX11_isPair : Nat := 23147150
abbrev zX11_isJudge : Nat := 56701583
abbrev zX11_isCase : Nat := 56701584
abbrev zX11_here : Nat := 56792209
abbrev zX11_trait : Nat := 56858002
abbrev zX11_feed : Nat := 56693395
abbrev zX11_byteAt : Nat := 56693396
abbrev zX11_isLetter : Nat := 23114133
abbrev zX11_isDigit : Nat := 23114134
abbrev zX11_isThree : Nat := 56767639
abbrev zX11_word : Nat := 56693144
abbrev zX11_isSignByte : Nat := 23114137
abbrev zX11_next : Nat := 56689050
abbrev zX11_fail : Nat := 56656283
abbrev zX11_isSign : Nat := 56701596
abbrev zX11_takes : Nat := 56689309
abbrev zX11_part : Nat := 56759198
abbrev zX11_opens : Nat := 56668575
abbrev zX11_expression : Nat := 56725920
abbrev zX11_sum : Nat := 56725921
abbrev zX11_product : Nat := 56725922
abbrev zX11_factor : Nat := 56693155
abbrev zX11_ofTwo : Nat := 56693156
abbrev zX11_names : Nat := 56758949
abbrev zX11_comesTo : Nat := 56791718
abbrev zX11_weight : Nat := 56758951
abbrev zX11_trades : Nat := 56754856
abbrev zX11_isHeavy : Nat := 56701353
abbrev zX11_text : Nat := 56824490
abbrev zX11_empty : Nat := 56758955
abbrev zX11_told : Nat := 56791980
abbrev zX11_fails : Nat := 56763565
abbrev zX11_valueOf : Nat := 56697518
abbrev zX11_named : Nat := 56796079
abbrev zX11_limited : Nat := 56796336
abbrev zX11_valueOf_ : Nat := 56927153
abbrev zX11_asked : Nat := 56763570
abbrev zX11_value : Nat := 56829107
abbrev zX11_why : Nat := 56759476
abbrev zX11_burdenOf : Nat := 56796085
abbrev zX11_forcedOf : Nat := 23237558
abbrev zX11_isOpen : Nat := 56800439
abbrev zX11_tellsBurdens : Nat := 56689080
abbrev zX11_opens_ : Nat := 56722105
abbrev zX11_costs : Nat := 56656314
abbrev zX11_burden : Nat := 56796091
abbrev zX11_mark : Nat := 56792252
abbrev zX11_open : Nat := 56726461
abbrev zX11_openMany : Nat := 56725950
abbrev zX11_least : Nat := 56893887
abbrev zX11_toldOr : Nat := 23142848
abbrev zX11_picks : Nat := 56853185
abbrev zX11_tell : Nat := 56796354
abbrev zX11_total : Nat := 56664515
abbrev zX11_many : Nat := 56660420
abbrev zX11_best : Nat := 56726469
abbrev zX11_with : Nat := 56828870
abbrev zX11_lacking : Nat := 56861639
abbrev zX11_kind : Nat := 56792008
abbrev zX11_room : Nat := 56763593
abbrev zX11_enters : Nat := 56787658
abbrev zX11_walks : Nat := 56952011
abbrev zX11_lists : Nat := 56656332
abbrev zX11_next_ : Nat := 56730573
abbrev zX11_heaviest : Nat := 56828366
abbrev zX11_fair : Nat := 56828623
abbrev zX11_finds : Nat := 56734416
abbrev zX11_greatest : Nat := 56758993
abbrev zX11_marking : Nat := 56725970
abbrev zX11_casesIn : Nat := 56725971
abbrev zX11_slack : Nat := 56730580
abbrev zX11_rise : Nat := 56828373
abbrev zX11_begins : Nat := 56852950
abbrev zX11_isLast : Nat := 56832471
abbrev zX11_solve : Nat := 56693208
abbrev zX11_round : Nat := 56730585
abbrev zX11_price : Nat := 56763610
abbrev zX11_daysOf : Nat := 56894171
abbrev zX11_days : Nat := 56697564
abbrev zX11_day : Nat := 56726493
abbrev zX11_lack : Nat := 56759006
abbrev zX11_without : Nat := 56828895
abbrev zX11_casesMany : Nat := 56660448
abbrev zX11_reads : Nat := 56865505
abbrev zX11_tells : Nat := 56861666
abbrev zX11_placeOf : Nat := 56758755
abbrev zX11_film : Nat := 56792036
abbrev zX11_copies : Nat := 23266789
abbrev zX11_keeps : Nat := 56754918
abbrev zX11_image : Nat := 56660455
abbrev zX11_back : Nat := 56660456
abbrev zX11_marksOf : Nat := 56759017
abbrev zX11_count : Nat := 56759018
abbrev zX11_isSheet : Nat := 23114219
abbrev zX11_sheet : Nat := 56792300
abbrev zX11_put : Nat := 56792301
abbrev zX11_item : Nat := 56730606
abbrev zX11_copy : Nat := 56923887
abbrev zX11_lay : Nat := 56923888
abbrev zJ6_bitCount_0f7a4 : Nat := 295735793
abbrev zJ9_floorDiv_f86c9 : Nat := 298001138
abbrev zJ9_floorMod_f86c9 : Nat := 298001139
abbrev zJ9_abs_067f4 : Nat := 297869812
abbrev zJ9_max_f86c9 : Nat := 297935605
abbrev zJ9_min_f86c9 : Nat := 297935606
abbrev zJ7_fill_d0a16 : Nat := 300057335
abbrev zJ7_fill_53178 : Nat := 300024568
abbrev zL_law : Nat := 86595744249
def jcX0_init : List (Nat × Instr × Nat) := [(0, .aload 0, 1), (1, .pop, 3), (4, .aload 0, 1), (5, .iconst 0, 1), (6, .putfield 0, 3), (9, .aload 0, 1), (10, .iconst 0, 1), (11, .putfield 16, 3), (14, .aload 0, 1), (15, .iconst 48, 2), (17, .newarray .int, 2), (19, .putfield 25770336288, 3), (22, .aload 0, 1), (23, .iconst 64, 2), (25, .newarray .long, 2), (27, .putfield 34360811568, 3), (30, .aload 0, 1), (31, .iconst 64, 2), (33, .newarray .int, 2), (35, .putfield 34361319488, 3), (38, .aload 0, 1), (39, .iconst 4, 1), (40, .anewarray 2, 3), (43, .putfield 2149621840, 3), (46, .aload 0, 1), (47, .iconst 4, 1), (48, .newarray .int, 2), (50, .putfield 2150113376, 3), (53, .aload 0, 1), (54, .getfield 34360811568, 3), (57, .sipush (-1), 3), (60, .invokestatic 300057335, 3), (63, .iconst 0, 1), (64, .istore 1, 1), (65, .iload 1, 1), (66, .iconst 4, 1), (67, .if_icmp .ge 89, 3), (70, .aload 0, 1), (71, .getfield 2149621840, 3), (74, .iload 1, 1), (75, .new 6, 3), (78, .dup, 1), (79, .invokestatic 1824555319, 3), (82, .aastore, 1), (83, .iinc 1 1, 3), (86, .goto 65, 3), (89, .return_, 1)]
def jcX0_take : List (Nat × Instr × Nat) := [(0, .aload 0, 1), (1, .aload 1, 1), (2, .getfield 0, 3), (5, .putfield 0, 3), (8, .aload 0, 1), (9, .aload 1, 1), (10, .getfield 16, 3), (13, .putfield 16, 3), (16, .aload 1, 1), (17, .getfield 25770336288, 3), (20, .iconst 0, 1), (21, .aload 0, 1), (22, .getfield 25770336288, 3), (25, .iconst 0, 1), (26, .aload 0, 1), (27, .getfield 25770336288, 3), (30, .arraylength, 1), (31, .swap, 3), (34, .aload 1, 1), (35, .getfield 34360811568, 3), (38, .iconst 0, 1), (39, .aload 0, 1), (40, .getfield 34360811568, 3), (43, .iconst 0, 1), (44, .iconst 64, 2), (46, .swap, 3), (49, .aload 1, 1), (50, .getfield 34361319488, 3), (53, .iconst 0, 1), (54, .aload 0, 1), (55, .getfield 34361319488, 3), (58, .iconst 0, 1), (59, .iconst 64, 2), (61, .swap, 3), (64, .iconst 0, 1), (65, .istore 2, 1), (66, .iload 2, 1), (67, .iconst 4, 1), (68, .if_icmp .ge 92, 3), (71, .aload 0, 1), (72, .getfield 2149621840, 3), (75, .iload 2, 1), (76, .aaload, 1), (77, .aload 1, 1), (78, .getfield 2149621840, 3), (81, .iload 2, 1), (82, .aaload, 1), (83, .invokestatic 46203449, 3), (86, .iinc 2 1, 3), (89, .goto 66, 3), (92, .return_, 1)]
def jcX0_seat : List (Nat × Instr × Nat) := [(0, .iload 1, 1), (1, .ifCond .ne 11, 3), (4, .aload 0, 1), (5, .getfield 0, 3), (8, .goto 15, 3), (11, .aload 0, 1), (12, .getfield 16, 3), (15, .istore 4, 2), (17, .iload 4, 2), (19, .iload 2, 1), (20, .ishr, 1), (21, .iconst 1, 1), (22, .iand, 1), (23, .istore 5, 2), (25, .iload 4, 2), (27, .iconst 1, 1), (28, .iload 2, 1), (29, .ishl, 1), (30, .iconst (-1), 1), (31, .ixor, 1), (32, .iand, 1), (33, .iload 3, 1), (34, .iload 2, 1), (35, .ishl, 1), (36, .ior, 1), (37, .istore 4, 2), (39, .iload 1, 1), (40, .ifCond .ne 52, 3), (43, .aload 0, 1), (44, .iload 4, 2), (46, .putfield 0, 3), (49, .goto 58, 3), (52, .aload 0, 1), (53, .iload 4, 2), (55, .putfield 16, 3), (58, .iload 5, 2), (60, .ireturn, 1)]
def jcX0_isIn : List (Nat × Instr × Nat) := [(0, .aload 0, 1), (1, .getfield 0, 3), (4, .iload 1, 1), (5, .iconst 8, 2), (7, .idiv, 1), (8, .ishr, 1), (9, .aload 0, 1), (10, .getfield 16, 3), (13, .iload 1, 1), (14, .iconst 8, 2), (16, .irem, 1), (17, .ishr, 1), (18, .iand, 1), (19, .iconst 1, 1), (20, .iand, 1), (21, .iconst 1, 1), (22, .if_icmp .ne 29, 3), (25, .iconst 1, 1), (26, .goto 30, 3), (29, .iconst 0, 1), (30, .ireturn, 1)]
def jcX0_forcedBeside : List (Nat × Instr × Nat) := [(0, .iconst 0, 1), (1, .istore 2, 1), (2, .iload 2, 1), (3, .iconst 64, 2), (5, .if_icmp .ge 63, 3), (8, .iload 2, 1), (9, .iconst 8, 2), (11, .idiv, 1), (12, .iload 1, 1), (13, .iconst 8, 2), (15, .idiv, 1), (16, .if_icmp .eq 30, 3), (19, .iload 2, 1), (20, .iconst 8, 2), (22, .irem, 1), (23, .iload 1, 1), (24, .iconst 8, 2), (26, .irem, 1), (27, .if_icmp .ne 34, 3), (30, .iconst 1, 1), (31, .goto 35, 3), (34, .iconst 0, 1), (35, .istore 3, 1), (36, .iload 2, 1), (37, .iload 1, 1), (38, .if_icmp .eq 57, 3), (41, .iload 3, 1), (42, .ifCond .eq 57, 3), (45, .aload 0, 1), (46, .getfield 34361319488, 3), (49, .iload 2, 1), (50, .iaload, 1), (51, .iconst 2, 1), (52, .if_icmp .ne 57, 3), (55, .iconst 1, 1), (56, .ireturn, 1), (57, .iinc 2 1, 3), (60, .goto 2, 3), (63, .iconst 0, 1), (64, .ireturn, 1)]
def jcX0_marked : List (Nat × Instr × Nat) := [(0, .iconst 0, 1), (1, .istore 2, 1), (2, .iconst 0, 1), (3, .istore 3, 1), (4, .iload 3, 1), (5, .iconst 64, 2), (7, .if_icmp .ge 34, 3), (10, .iload 2, 1), (11, .aload 0, 1), (12, .getfield 34361319488, 3), (15, .iload 3, 1), (16, .iaload, 1), (17, .iload 1, 1), (18, .if_icmp .ne 25, 3), (21, .iconst 1, 1), (22, .goto 26, 3), (25, .iconst 0, 1), (26, .iadd, 1), (27, .istore 2, 1), (28, .iinc 3 1, 3), (31, .goto 4, 3), (34, .iload 2, 1), (35, .ireturn, 1)]
def jcX0_owned : List (Nat × Instr × Nat) := [(0, .iconst 0, 1), (1, .istore 1, 1), (2, .iconst 0, 1), (3, .istore 2, 1), (4, .iload 2, 1), (5, .iconst 64, 2), (7, .if_icmp .ge 37, 3), (10, .iload 1, 1), (11, .aload 0, 1), (12, .getfield 34360811568, 3), (15, .iload 2, 1), (16, .laload, 1), (17, .sipush (-1), 3), (20, .multianewarray 0 28, 4), (24, .iconst 1, 1), (25, .goto 29, 3), (28, .iconst 0, 1), (29, .iadd, 1), (30, .istore 1, 1), (31, .iinc 2 1, 3), (34, .goto 4, 3), (37, .iload 1, 1), (38, .ireturn, 1)]
def jcX0_namersOf : List (Nat × Instr × Nat) := [(0, .iconst 0, 1), (1, .istore 2, 1), (2, .iconst 0, 1), (3, .istore 3, 1), (4, .iload 3, 1), (5, .iconst 4, 1), (6, .if_icmp .ge 33, 3), (9, .iload 2, 1), (10, .aload 0, 1), (11, .getfield 2149621840, 3), (14, .iload 3, 1), (15, .aaload, 1), (16, .invokestatic 46240060, 3), (19, .iload 1, 1), (20, .ishr, 1), (21, .iconst 1, 1), (22, .iand, 1), (23, .iload 3, 1), (24, .ishl, 1), (25, .ior, 1), (26, .istore 2, 1), (27, .iinc 3 1, 3), (30, .goto 4, 3), (33, .iload 2, 1), (34, .ireturn, 1)]
def jcX0_reachOf : List (Nat × Instr × Nat) := [(0, .aload 0, 1), (1, .getfield 2149621840, 3), (4, .iload 1, 1), (5, .aaload, 1), (6, .invokestatic 46240060, 3), (9, .istore 2, 1), (10, .iconst 0, 1), (11, .istore 3, 1), (12, .iload 3, 1), (13, .iconst 4, 1), (14, .if_icmp .ge 61, 3), (17, .iconst 0, 1), (18, .istore 4, 2), (20, .iload 4, 2), (22, .iconst 4, 1), (23, .if_icmp .ge 55, 3), (26, .iload 2, 1), (27, .iload 4, 2), (29, .ishr, 1), (30, .iconst 1, 1), (31, .iand, 1), (32, .iconst 1, 1), (33, .if_icmp .ne 49, 3), (36, .iload 2, 1), (37, .aload 0, 1), (38, .getfield 2149621840, 3), (41, .iload 4, 2), (43, .aaload, 1), (44, .invokestatic 46240060, 3), (47, .ior, 1), (48, .istore 2, 1), (49, .iinc 4 1, 3), (52, .goto 20, 3), (55, .iinc 3 1, 3), (58, .goto 12, 3), (61, .iload 2, 1), (62, .ireturn, 1)]
def jcX0_weighRules : List (Nat × Instr × Nat) := [(0, .aload 0, 1), (1, .getfield 2150113376, 3), (4, .iconst 0, 1), (5, .invokestatic 300024568, 3), (8, .iconst 0, 1), (9, .istore 1, 1), (10, .iload 1, 1), (11, .iconst 4, 1), (12, .if_icmp .ge 53, 3), (15, .iconst 0, 1), (16, .istore 2, 1), (17, .iload 2, 1), (18, .iconst 4, 1), (19, .if_icmp .ge 47, 3), (22, .aload 0, 1), (23, .getfield 2150113376, 3), (26, .iload 2, 1), (27, .aload 0, 1), (28, .getfield 2149621840, 3), (31, .iload 2, 1), (32, .aaload, 1), (33, .aload 0, 1), (34, .getfield 2150113376, 3), (37, .invokestatic 46273085, 3), (40, .iastore, 1), (41, .iinc 2 1, 3), (44, .goto 17, 3), (47, .iinc 1 1, 3), (50, .goto 10, 3), (53, .return_, 1)]
def jcX0_refusalOf : List (Nat × Instr × Nat) := [(0, .aload 0, 1), (1, .iload 1, 1), (2, .invokestatic 33722888, 3), (5, .iload 1, 1), (6, .ishr, 1), (7, .iconst 1, 1), (8, .iand, 1), (9, .iconst 1, 1), (10, .if_icmp .ne 16, 3), (13, .iconst (-5), 2), (15, .ireturn, 1), (16, .aload 0, 1), (17, .invokestatic 33653001, 3), (20, .iconst 0, 1), (21, .istore 2, 1), (22, .iload 2, 1), (23, .iconst 4, 1), (24, .if_icmp .ge 47, 3), (27, .aload 0, 1), (28, .getfield 2150113376, 3), (31, .iload 2, 1), (32, .iaload, 1), (33, .iconst 60, 2), (35, .if_icmp .le 41, 3), (38, .iconst (-4), 2), (40, .ireturn, 1), (41, .iinc 2 1, 3), (44, .goto 22, 3), (47, .iconst 0, 1), (48, .ireturn, 1)]
def jcX1_init : List (Nat × Instr × Nat) := [(0, .aload 0, 1), (1, .pop, 3), (4, .aload 0, 1), (5, .iconst 0, 1), (6, .putfield 1, 3), (9, .aload 0, 1), (10, .iconst 8, 2), (12, .newarray .long, 2), (14, .putfield 4295516177, 3), (17, .aload 0, 1), (18, .iconst 64, 2), (20, .newarray .int, 2), (22, .putfield 34360795169, 3), (25, .aload 0, 1), (26, .iconst 8, 2), (28, .newarray .int, 2), (30, .putfield 4296548401, 3), (33, .aload 0, 1), (34, .iconst 64, 2), (36, .newarray .int, 2), (38, .putfield 34361843777, 3), (41, .return_, 1)]
def jcX1_write : List (Nat × Instr × Nat) := [(0, .aload 3, 1), (1, .iconst 0, 1), (2, .aload 0, 1), (3, .getfield 34361843777, 3), (6, .iconst 0, 1), (7, .iconst 64, 2), (9, .swap, 3), (12, .aload 2, 1), (13, .aload 1, 1), (14, .invokestatic 42009116, 3), (17, .aload 0, 1), (18, .iconst 0, 1), (19, .putfield 1, 3), (22, .iconst 0, 1), (23, .istore 4, 2), (25, .iconst 0, 1), (26, .istore 5, 2), (28, .iload 5, 2), (30, .iconst 8, 2), (32, .if_icmp .ge 91, 3), (35, .iload 4, 2), (37, .ifCond .ne 91, 3), (40, .aload 2, 1), (41, .aload 0, 1), (42, .getfield 34361843777, 3), (45, .invokestatic 42041885, 3), (48, .aload 2, 1), (49, .iconst 0, 1), (50, .invokestatic 42074660, 3), (53, .aload 2, 1), (54, .getfield 137441075300, 3), (57, .iconst 0, 1), (58, .laload, 1), (59, .sipush (-4611686018427387904), 3), (62, .multianewarray 1 70, 4), (66, .iconst 1, 1), (67, .goto 71, 3), (70, .iconst 0, 1), (71, .istore 4, 2), (73, .iload 4, 2), (75, .ifCond .ne 85, 3), (78, .aload 0, 1), (79, .aload 2, 1), (80, .iload 5, 2), (82, .invokestatic 35816205, 3), (85, .iinc 5 1, 3), (88, .goto 28, 3), (91, .return_, 1)]
def jcX1_hear : List (Nat × Instr × Nat) := [(0, .aload 1, 1), (1, .iconst 0, 1), (2, .aload 0, 1), (3, .getfield 4296548401, 3), (6, .invokestatic 42238761, 3), (9, .aload 0, 1), (10, .getfield 4295516177, 3), (13, .iload 2, 1), (14, .aload 1, 1), (15, .getfield 137441075300, 3), (18, .iconst 0, 1), (19, .laload, 1), (20, .lastore, 1), (21, .aload 0, 1), (22, .iload 2, 1), (23, .iconst 1, 1), (24, .iadd, 1), (25, .putfield 1, 3), (28, .iconst 0, 1), (29, .istore 3, 1), (30, .iload 3, 1), (31, .iconst 8, 2), (33, .if_icmp .ge 82, 3), (36, .aload 0, 1), (37, .getfield 4296548401, 3), (40, .iload 3, 1), (41, .iaload, 1), (42, .istore 4, 2), (44, .aload 0, 1), (45, .getfield 34360795169, 3), (48, .iload 2, 1), (49, .iconst 8, 2), (51, .imul, 1), (52, .iload 3, 1), (53, .iadd, 1), (54, .iload 4, 2), (56, .iastore, 1), (57, .iload 4, 2), (59, .iconst (-1), 1), (60, .if_icmp .eq 76, 3), (63, .aload 0, 1), (64, .getfield 34361843777, 3), (67, .iload 4, 2), (69, .iconst 8, 2), (71, .imul, 1), (72, .iload 3, 1), (73, .iadd, 1), (74, .iconst 1, 1), (75, .iastore, 1), (76, .iinc 3 1, 3), (79, .goto 30, 3), (82, .return_, 1)]
def jcX2_init : List (Nat × Instr × Nat) := [(0, .aload 0, 1), (1, .pop, 3), (4, .aload 0, 1), (5, .iconst 0, 1), (6, .putfield 2, 3), (9, .aload 0, 1), (10, .iconst 0, 1), (11, .putfield 18, 3), (14, .aload 0, 1), (15, .iconst 0, 1), (16, .putfield 34, 3), (19, .aload 0, 1), (20, .iconst 8, 2), (22, .newarray .int, 2), (24, .putfield 4295499826, 3), (27, .aload 0, 1), (28, .iconst 8, 2), (30, .newarray .int, 2), (32, .putfield 4296024130, 3), (35, .aload 0, 1), (36, .iconst 8, 2), (38, .newarray .int, 2), (40, .putfield 4296548434, 3), (43, .aload 0, 1), (44, .iconst 8, 2), (46, .newarray .int, 2), (48, .putfield 4297072738, 3), (51, .return_, 1)]
def jcX2_find : List (Nat × Instr × Nat) := [(0, .aload 0, 1), (1, .getfield 4295499826, 3), (4, .iconst (-1), 1), (5, .invokestatic 300024568, 3), (8, .aload 0, 1), (9, .getfield 4296024130, 3), (12, .iconst (-1), 1), (13, .invokestatic 300024568, 3), (16, .aload 0, 1), (17, .iconst 0, 1), (18, .putfield 2, 3), (21, .iconst 0, 1), (22, .istore 3, 1), (23, .iload 3, 1), (24, .iconst 8, 2), (26, .if_icmp .ge 63, 3), (29, .iload 2, 1), (30, .iload 3, 1), (31, .ishr, 1), (32, .iconst 1, 1), (33, .iand, 1), (34, .iconst 1, 1), (35, .if_icmp .ne 57, 3), (38, .aload 0, 1), (39, .aload 1, 1), (40, .iload 3, 1), (41, .invokestatic 38056720, 3), (44, .ifCond .eq 57, 3), (47, .aload 0, 1), (48, .dup, 1), (49, .getfield 2, 3), (52, .iconst 1, 1), (53, .iadd, 1), (54, .putfield 2, 3), (57, .iinc 3 1, 3), (60, .goto 23, 3), (63, .aload 0, 1), (64, .aload 1, 1), (65, .iload 2, 1), (66, .invokestatic 37913362, 3), (69, .return_, 1)]
def jcX2_grow : List (Nat × Instr × Nat) := [(0, .iconst 0, 1), (1, .istore 3, 1), (2, .iconst 1, 1), (3, .istore 4, 2), (5, .aload 0, 1), (6, .getfield 4297072738, 3), (9, .iconst 0, 1), (10, .iload 2, 1), (11, .iastore, 1), (12, .iconst 0, 1), (13, .istore 5, 2), (15, .iload 5, 2), (17, .iload 4, 2), (19, .if_icmp .ge 142, 3), (22, .iload 5, 2), (24, .iconst 8, 2), (26, .if_icmp .ge 142, 3), (29, .aload 0, 1), (30, .getfield 4297072738, 3), (33, .iload 5, 2), (35, .iaload, 1), (36, .istore 6, 2), (38, .aload 1, 1), (39, .iload 6, 2), (41, .iaload, 1), (42, .iload 3, 1), (43, .iconst (-1), 1), (44, .ixor, 1), (45, .iand, 1), (46, .istore 7, 2), (48, .iconst 0, 1), (49, .istore 8, 2), (51, .iload 8, 2), (53, .iconst 8, 2), (55, .if_icmp .ge 136, 3), (58, .iload 7, 2), (60, .iload 8, 2), (62, .ishr, 1), (63, .iconst 1, 1), (64, .iand, 1), (65, .ifCond .ne 71, 3), (68, .goto 130, 3), (71, .iload 3, 1), (72, .iconst 1, 1), (73, .iload 8, 2), (75, .ishl, 1), (76, .ior, 1), (77, .istore 3, 1), (78, .aload 0, 1), (79, .getfield 4296548434, 3), (82, .iload 8, 2), (84, .iload 6, 2), (86, .iastore, 1), (87, .aload 0, 1), (88, .getfield 4296024130, 3), (91, .iload 8, 2), (93, .iaload, 1), (94, .iconst (-1), 1), (95, .if_icmp .ne 106, 3), (98, .aload 0, 1), (99, .iload 8, 2), (101, .invokestatic 37945873, 3), (104, .iconst 1, 1), (105, .ireturn, 1), (106, .iload 4, 2), (108, .iconst 8, 2), (110, .if_icmp .ge 130, 3), (113, .aload 0, 1), (114, .getfield 4297072738, 3), (117, .iload 4, 2), (119, .aload 0, 1), (120, .getfield 4296024130, 3), (123, .iload 8, 2), (125, .iaload, 1), (126, .iastore, 1), (127, .iinc 4 1, 3), (130, .iinc 8 1, 3), (133, .goto 51, 3), (136, .iinc 5 1, 3), (139, .goto 15, 3), (142, .iconst 0, 1), (143, .ireturn, 1)]
def jcX2_turn : List (Nat × Instr × Nat) := [(0, .iload 1, 1), (1, .istore 2, 1), (2, .iconst 0, 1), (3, .istore 3, 1), (4, .iload 3, 1), (5, .iconst 8, 2), (7, .if_icmp .ge 57, 3), (10, .iload 2, 1), (11, .iconst (-1), 1), (12, .if_icmp .eq 57, 3), (15, .aload 0, 1), (16, .getfield 4296548434, 3), (19, .iload 2, 1), (20, .iaload, 1), (21, .istore 4, 2), (23, .aload 0, 1), (24, .getfield 4295499826, 3), (27, .iload 4, 2), (29, .iaload, 1), (30, .istore 5, 2), (32, .aload 0, 1), (33, .getfield 4295499826, 3), (36, .iload 4, 2), (38, .iload 2, 1), (39, .iastore, 1), (40, .aload 0, 1), (41, .getfield 4296024130, 3), (44, .iload 2, 1), (45, .iload 4, 2), (47, .iastore, 1), (48, .iload 5, 2), (50, .istore 2, 1), (51, .iinc 3 1, 3), (54, .goto 4, 3), (57, .return_, 1)]
def jcX2_spread : List (Nat × Instr × Nat) := [(0, .aload 0, 1), (1, .iconst 0, 1), (2, .putfield 18, 3), (5, .aload 0, 1), (6, .iconst 0, 1), (7, .putfield 34, 3), (10, .iconst 0, 1), (11, .istore 3, 1), (12, .iload 3, 1), (13, .iconst 8, 2), (15, .if_icmp .ge 55, 3), (18, .iload 2, 1), (19, .iload 3, 1), (20, .ishr, 1), (21, .iconst 1, 1), (22, .iand, 1), (23, .iconst 1, 1), (24, .if_icmp .ne 49, 3), (27, .aload 0, 1), (28, .getfield 4295499826, 3), (31, .iload 3, 1), (32, .iaload, 1), (33, .iconst (-1), 1), (34, .if_icmp .ne 49, 3), (37, .aload 0, 1), (38, .dup, 1), (39, .getfield 18, 3), (42, .iconst 1, 1), (43, .iload 3, 1), (44, .ishl, 1), (45, .ior, 1), (46, .putfield 18, 3), (49, .iinc 3 1, 3), (52, .goto 12, 3), (55, .iconst 0, 1), (56, .istore 3, 1), (57, .iload 3, 1), (58, .iconst 8, 2), (60, .if_icmp .gt 169, 3), (63, .iconst 0, 1), (64, .istore 4, 2), (66, .iload 4, 2), (68, .iconst 8, 2), (70, .if_icmp .ge 105, 3), (73, .aload 0, 1), (74, .getfield 18, 3), (77, .iload 4, 2), (79, .ishr, 1), (80, .iconst 1, 1), (81, .iand, 1), (82, .iconst 1, 1), (83, .if_icmp .ne 99, 3), (86, .aload 0, 1), (87, .dup, 1), (88, .getfield 34, 3), (91, .aload 1, 1), (92, .iload 4, 2), (94, .iaload, 1), (95, .ior, 1), (96, .putfield 34, 3), (99, .iinc 4 1, 3), (102, .goto 66, 3), (105, .iconst 0, 1), (106, .istore 4, 2), (108, .iload 4, 2), (110, .iconst 8, 2), (112, .if_icmp .ge 163, 3), (115, .aload 0, 1), (116, .getfield 34, 3), (119, .iload 4, 2), (121, .ishr, 1), (122, .iconst 1, 1), (123, .iand, 1), (124, .iconst 1, 1), (125, .if_icmp .ne 157, 3), (128, .aload 0, 1), (129, .getfield 4296024130, 3), (132, .iload 4, 2), (134, .iaload, 1), (135, .iconst (-1), 1), (136, .if_icmp .eq 157, 3), (139, .aload 0, 1), (140, .dup, 1), (141, .getfield 18, 3), (144, .iconst 1, 1), (145, .aload 0, 1), (146, .getfield 4296024130, 3), (149, .iload 4, 2), (151, .iaload, 1), (152, .ishl, 1), (153, .ior, 1), (154, .putfield 18, 3), (157, .iinc 4 1, 3), (160, .goto 108, 3), (163, .iinc 3 1, 3), (166, .goto 57, 3), (169, .return_, 1)]
def jcX3_init : List (Nat × Instr × Nat) := [(0, .aload 0, 1), (1, .pop, 3), (4, .aload 0, 1), (5, .iconst 256, 3), (8, .newarray .int, 2), (10, .putfield 137439485955, 3), (13, .aload 0, 1), (14, .iconst 3072, 3), (17, .newarray .long, 2), (19, .putfield 1649268514835, 3), (22, .aload 0, 1), (23, .iconst 3072, 3), (26, .newarray .int, 2), (28, .putfield 1649269022755, 3), (31, .aload 0, 1), (32, .iconst 3072, 3), (35, .newarray .int, 2), (37, .putfield 1649269547059, 3), (40, .aload 0, 1), (41, .iconst 8, 2), (43, .newarray .int, 2), (45, .putfield 4297596995, 3), (48, .aload 0, 1), (49, .iconst 8, 2), (51, .newarray .long, 2), (53, .putfield 4298137683, 3), (56, .aload 0, 1), (57, .iconst 96, 2), (59, .newarray .int, 2), (61, .putfield 51543285859, 3), (64, .return_, 1)]
def jcX3_find : List (Nat × Instr × Nat) := [(0, .iconst 255, 3), (3, .istore 2, 1), (4, .iload 2, 1), (5, .ifCond .lt 93, 3), (8, .aload 1, 1), (9, .iload 2, 1), (10, .invokestatic 42021414, 3), (13, .ifCond .ne 19, 3), (16, .goto 87, 3), (19, .iload 2, 1), (20, .invokestatic 295735793, 3), (23, .istore 3, 1), (24, .iload 3, 1), (25, .aload 1, 1), (26, .getfield 20, 3), (29, .if_icmp .ge 70, 3), (32, .aload 0, 1), (33, .getfield 137439485955, 3), (36, .iload 2, 1), (37, .aload 1, 1), (38, .getfield 137441075300, 3), (41, .iload 2, 1), (42, .laload, 1), (43, .sipush (-4611686018427387904), 3), (46, .multianewarray 1 54, 4), (50, .iconst 0, 1), (51, .goto 66, 3), (54, .aload 0, 1), (55, .aload 1, 1), (56, .iload 2, 1), (57, .aload 1, 1), (58, .getfield 4295499812, 3), (61, .iload 3, 1), (62, .iaload, 1), (63, .invokestatic 40080405, 3), (66, .iastore, 1), (67, .goto 87, 3), (70, .aload 0, 1), (71, .getfield 137439485955, 3), (74, .iload 2, 1), (75, .iconst 1, 1), (76, .iastore, 1), (77, .aload 0, 1), (78, .getfield 1649268514835, 3), (81, .iload 2, 1), (82, .iconst 12, 2), (84, .imul, 1), (85, .sipush 0, 1), (86, .lastore, 1), (87, .iinc 2 (-1), 3), (90, .goto 4, 3), (93, .aload 0, 1), (94, .getfield 51543285859, 3), (97, .iconst (-1), 1), (98, .invokestatic 300024568, 3), (101, .iconst 0, 1), (102, .istore 2, 1), (103, .iload 2, 1), (104, .aload 0, 1), (105, .getfield 137439485955, 3), (108, .iconst 0, 1), (109, .iaload, 1), (110, .if_icmp .ge 125, 3), (113, .aload 0, 1), (114, .aload 1, 1), (115, .iload 2, 1), (116, .invokestatic 40076056, 3), (119, .iinc 2 1, 3), (122, .goto 103, 3), (125, .return_, 1)]
def jcX3_merge : List (Nat × Instr × Nat) := [(0, .aload 0, 1), (1, .getfield 4297596995, 3), (4, .iconst 0, 1), (5, .invokestatic 300024568, 3), (8, .iconst 0, 1), (9, .istore 4, 2), (11, .iload 4, 2), (13, .iconst 8, 2), (15, .if_icmp .ge 40, 3), (18, .aload 0, 1), (19, .getfield 4298137683, 3), (22, .iload 4, 2), (24, .aload 0, 1), (25, .aload 1, 1), (26, .iload 2, 1), (27, .iload 3, 1), (28, .iload 4, 2), (30, .invokestatic 40084758, 3), (33, .lastore, 1), (34, .iinc 4 1, 3), (37, .goto 11, 3), (40, .iconst 0, 1), (41, .istore 4, 2), (43, .iload 4, 2), (45, .iconst 12, 2), (47, .if_icmp .ge 144, 3), (50, .aload 0, 1), (51, .invokestatic 39948567, 3), (54, .istore 5, 2), (56, .iload 5, 2), (58, .iconst (-1), 1), (59, .if_icmp .ne 65, 3), (62, .iload 4, 2), (64, .ireturn, 1), (65, .iload 2, 1), (66, .iconst 12, 2), (68, .imul, 1), (69, .iload 4, 2), (71, .iadd, 1), (72, .istore 6, 2), (74, .aload 0, 1), (75, .getfield 1649268514835, 3), (78, .iload 6, 2), (80, .aload 0, 1), (81, .getfield 4298137683, 3), (84, .iload 5, 2), (86, .laload, 1), (87, .lastore, 1), (88, .aload 0, 1), (89, .getfield 1649269022755, 3), (92, .iload 6, 2), (94, .iload 5, 2), (96, .iastore, 1), (97, .aload 0, 1), (98, .getfield 1649269547059, 3), (101, .iload 6, 2), (103, .aload 0, 1), (104, .getfield 4297596995, 3), (107, .iload 5, 2), (109, .iaload, 1), (110, .iastore, 1), (111, .aload 0, 1), (112, .getfield 4297596995, 3), (115, .iload 5, 2), (117, .dup2, 1), (118, .iaload, 1), (119, .iconst 1, 1), (120, .iadd, 1), (121, .iastore, 1), (122, .aload 0, 1), (123, .getfield 4298137683, 3), (126, .iload 5, 2), (128, .aload 0, 1), (129, .aload 1, 1), (130, .iload 2, 1), (131, .iload 3, 1), (132, .iload 5, 2), (134, .invokestatic 40084758, 3), (137, .lastore, 1), (138, .iinc 4 1, 3), (141, .goto 43, 3), (144, .iconst 12, 2), (146, .ireturn, 1)]
def jcX3_headTotal : List (Nat × Instr × Nat) := [(0, .iconst 1, 1), (1, .iload 4, 2), (3, .ishl, 1), (4, .istore 5, 2), (6, .iload 2, 1), (7, .iload 5, 2), (9, .ior, 1), (10, .istore 6, 2), (12, .aload 1, 1), (13, .getfield 4296548436, 3), (16, .iload 3, 1), (17, .iaload, 1), (18, .iload 2, 1), (19, .iconst (-1), 1), (20, .ixor, 1), (21, .iand, 1), (22, .iload 5, 2), (24, .iand, 1), (25, .ifCond .eq 45, 3), (28, .aload 0, 1), (29, .getfield 4297596995, 3), (32, .iload 4, 2), (34, .iaload, 1), (35, .aload 0, 1), (36, .getfield 137439485955, 3), (39, .iload 6, 2), (41, .iaload, 1), (42, .if_icmp .lt 49, 3), (45, .sipush (-4611686018427387904), 3), (48, .lreturn, 1), (49, .aload 1, 1), (50, .getfield 34360811588, 3), (53, .iload 4, 2), (55, .iconst 8, 2), (57, .imul, 1), (58, .iload 3, 1), (59, .iadd, 1), (60, .laload, 1), (61, .aload 0, 1), (62, .getfield 1649268514835, 3), (65, .iload 6, 2), (67, .iconst 12, 2), (69, .imul, 1), (70, .aload 0, 1), (71, .getfield 4297596995, 3), (74, .iload 4, 2), (76, .iaload, 1), (77, .iadd, 1), (78, .laload, 1), (79, .ladd, 1), (80, .lreturn, 1)]
def jcX3_firstJudge : List (Nat × Instr × Nat) := [(0, .iconst (-1), 1), (1, .istore 1, 1), (2, .iconst 0, 1), (3, .istore 2, 1), (4, .iload 2, 1), (5, .iconst 8, 2), (7, .if_icmp .ge 52, 3), (10, .aload 0, 1), (11, .getfield 4298137683, 3), (14, .iload 2, 1), (15, .laload, 1), (16, .sipush (-4611686018427387904), 3), (19, .multianewarray 0 46, 4), (23, .iload 1, 1), (24, .iconst (-1), 1), (25, .if_icmp .eq 44, 3), (28, .aload 0, 1), (29, .getfield 4298137683, 3), (32, .iload 2, 1), (33, .laload, 1), (34, .aload 0, 1), (35, .getfield 4298137683, 3), (38, .iload 1, 1), (39, .laload, 1), (40, .multianewarray 3 46, 4), (44, .iload 2, 1), (45, .istore 1, 1), (46, .iinc 2 1, 3), (49, .goto 4, 3), (52, .iload 1, 1), (53, .ireturn, 1)]
def jcX3_follow : List (Nat × Instr × Nat) := [(0, .iconst 0, 1), (1, .istore 3, 1), (2, .iload 2, 1), (3, .istore 4, 2), (5, .iconst 0, 1), (6, .istore 5, 2), (8, .iload 5, 2), (10, .aload 1, 1), (11, .getfield 20, 3), (14, .if_icmp .ge 77, 3), (17, .iload 3, 1), (18, .iconst 12, 2), (20, .imul, 1), (21, .iload 4, 2), (23, .iadd, 1), (24, .istore 6, 2), (26, .aload 0, 1), (27, .getfield 51543285859, 3), (30, .iload 2, 1), (31, .iconst 8, 2), (33, .imul, 1), (34, .aload 1, 1), (35, .getfield 4295499812, 3), (38, .iload 5, 2), (40, .iaload, 1), (41, .iadd, 1), (42, .aload 0, 1), (43, .getfield 1649269022755, 3), (46, .iload 6, 2), (48, .iaload, 1), (49, .iastore, 1), (50, .iload 3, 1), (51, .iconst 1, 1), (52, .aload 0, 1), (53, .getfield 1649269022755, 3), (56, .iload 6, 2), (58, .iaload, 1), (59, .ishl, 1), (60, .ior, 1), (61, .istore 3, 1), (62, .aload 0, 1), (63, .getfield 1649269547059, 3), (66, .iload 6, 2), (68, .iaload, 1), (69, .istore 4, 2), (71, .iinc 5 1, 3), (74, .goto 8, 3), (77, .return_, 1)]
def jcX3_placeOf : List (Nat × Instr × Nat) := [(0, .iconst 0, 1), (1, .istore 2, 1), (2, .iload 2, 1), (3, .aload 0, 1), (4, .getfield 137439485955, 3), (7, .iconst 0, 1), (8, .iaload, 1), (9, .if_icmp .ge 71, 3), (12, .iconst 1, 1), (13, .istore 3, 1), (14, .iconst 0, 1), (15, .istore 4, 2), (17, .iload 4, 2), (19, .iconst 8, 2), (21, .if_icmp .ge 59, 3), (24, .iload 3, 1), (25, .ifCond .eq 51, 3), (28, .aload 0, 1), (29, .getfield 51543285859, 3), (32, .iload 2, 1), (33, .iconst 8, 2), (35, .imul, 1), (36, .iload 4, 2), (38, .iadd, 1), (39, .iaload, 1), (40, .aload 1, 1), (41, .iload 4, 2), (43, .iaload, 1), (44, .if_icmp .ne 51, 3), (47, .iconst 1, 1), (48, .goto 52, 3), (51, .iconst 0, 1), (52, .istore 3, 1), (53, .iinc 4 1, 3), (56, .goto 17, 3), (59, .iload 3, 1), (60, .ifCond .eq 65, 3), (63, .iload 2, 1), (64, .ireturn, 1), (65, .iinc 2 1, 3), (68, .goto 2, 3), (71, .iconst (-1), 1), (72, .ireturn, 1)]
def jcX4_init : List (Nat × Instr × Nat) := [(0, .aload 0, 1), (1, .pop, 3), (4, .aload 0, 1), (5, .iconst 0, 1), (6, .putfield 4, 3), (9, .aload 0, 1), (10, .iconst 0, 1), (11, .putfield 20, 3), (14, .aload 0, 1), (15, .iconst 8, 2), (17, .newarray .int, 2), (19, .putfield 4295499812, 3), (22, .aload 0, 1), (23, .iconst 0, 1), (24, .putfield 52, 3), (27, .aload 0, 1), (28, .iconst 64, 2), (30, .newarray .long, 2), (32, .putfield 34360811588, 3), (35, .aload 0, 1), (36, .iconst 8, 2), (38, .newarray .int, 2), (40, .putfield 4296548436, 3), (43, .aload 0, 1), (44, .iconst 256, 3), (47, .newarray .long, 2), (49, .putfield 137441075300, 3), (52, .aload 0, 1), (53, .iconst 256, 3), (56, .newarray .int, 2), (58, .putfield 137441583220, 3), (61, .aload 0, 1), (62, .iconst 256, 3), (65, .newarray .int, 2), (67, .putfield 137442107524, 3), (70, .aload 0, 1), (71, .iconst 64, 2), (73, .newarray .int, 2), (75, .putfield 34363416724, 3), (78, .return_, 1)]
def jcX4_load : List (Nat × Instr × Nat) := [(0, .aload 0, 1), (1, .aload 1, 1), (2, .getfield 16, 3), (5, .putfield 4, 3), (8, .iconst 0, 1), (9, .istore 3, 1), (10, .iload 3, 1), (11, .iconst 64, 2), (13, .if_icmp .ge 48, 3), (16, .aload 0, 1), (17, .getfield 34360811588, 3), (20, .iload 3, 1), (21, .aload 1, 1), (22, .iload 3, 1), (23, .invokestatic 33632771, 3), (26, .ifCond .eq 38, 3), (29, .aload 2, 1), (30, .aload 1, 1), (31, .iload 3, 1), (32, .invokestatic 52601687, 3), (35, .goto 41, 3), (38, .sipush (-4611686018427387904), 3), (41, .lastore, 1), (42, .iinc 3 1, 3), (45, .goto 10, 3), (48, .aload 0, 1), (49, .aload 1, 1), (50, .getfield 34361319488, 3), (53, .invokestatic 42041885, 3), (56, .return_, 1)]
def jcX4_take : List (Nat × Instr × Nat) := [(0, .aload 0, 1), (1, .aload 1, 1), (2, .getfield 4, 3), (5, .putfield 4, 3), (8, .aload 1, 1), (9, .getfield 34360811588, 3), (12, .iconst 0, 1), (13, .aload 0, 1), (14, .getfield 34360811588, 3), (17, .iconst 0, 1), (18, .iconst 64, 2), (20, .swap, 3), (23, .aload 1, 1), (24, .getfield 4296548436, 3), (27, .iconst 0, 1), (28, .aload 0, 1), (29, .getfield 4296548436, 3), (32, .iconst 0, 1), (33, .iconst 8, 2), (35, .swap, 3), (38, .return_, 1)]
def jcX4_openBy : List (Nat × Instr × Nat) := [(0, .aload 0, 1), (1, .getfield 4296548436, 3), (4, .iconst 0, 1), (5, .invokestatic 300024568, 3), (8, .iconst 0, 1), (9, .istore 2, 1), (10, .iload 2, 1), (11, .iconst 64, 2), (13, .if_icmp .ge 60, 3), (16, .aload 0, 1), (17, .getfield 34360811588, 3), (20, .iload 2, 1), (21, .laload, 1), (22, .sipush (-4611686018427387904), 3), (25, .multianewarray 0 54, 4), (29, .aload 1, 1), (30, .iload 2, 1), (31, .iaload, 1), (32, .iconst 1, 1), (33, .if_icmp .eq 54, 3), (36, .aload 0, 1), (37, .getfield 4296548436, 3), (40, .iload 2, 1), (41, .iconst 8, 2), (43, .irem, 1), (44, .dup2, 1), (45, .iaload, 1), (46, .iconst 1, 1), (47, .iload 2, 1), (48, .iconst 8, 2), (50, .idiv, 1), (51, .ishl, 1), (52, .ior, 1), (53, .iastore, 1), (54, .iinc 2 1, 3), (57, .goto 10, 3), (60, .iconst 0, 1), (61, .istore 2, 1), (62, .iload 2, 1), (63, .iconst 64, 2), (65, .if_icmp .ge 95, 3), (68, .aload 1, 1), (69, .iload 2, 1), (70, .iaload, 1), (71, .iconst 2, 1), (72, .if_icmp .ne 89, 3), (75, .aload 0, 1), (76, .iconst 1, 1), (77, .iload 2, 1), (78, .iconst 8, 2), (80, .idiv, 1), (81, .ishl, 1), (82, .iload 2, 1), (83, .iconst 8, 2), (85, .irem, 1), (86, .invokestatic 42074910, 3), (89, .iinc 2 1, 3), (92, .goto 62, 3), (95, .return_, 1)]
def jcX4_force : List (Nat × Instr × Nat) := [(0, .iconst 0, 1), (1, .istore 3, 1), (2, .iload 3, 1), (3, .iconst 8, 2), (5, .if_icmp .ge 35, 3), (8, .aload 0, 1), (9, .getfield 4296548436, 3), (12, .iload 3, 1), (13, .dup2, 1), (14, .iaload, 1), (15, .iload 3, 1), (16, .iload 2, 1), (17, .if_icmp .ne 24, 3), (20, .iload 1, 1), (21, .goto 27, 3), (24, .iload 1, 1), (25, .iconst (-1), 1), (26, .ixor, 1), (27, .iand, 1), (28, .iastore, 1), (29, .iinc 3 1, 3), (32, .goto 2, 3), (35, .return_, 1)]
def jcX4_isOpen : List (Nat × Instr × Nat) := [(0, .aload 0, 1), (1, .getfield 4296548436, 3), (4, .iload 2, 1), (5, .iaload, 1), (6, .iload 1, 1), (7, .ishr, 1), (8, .iconst 1, 1), (9, .iand, 1), (10, .iconst 1, 1), (11, .if_icmp .ne 18, 3), (14, .iconst 1, 1), (15, .goto 19, 3), (18, .iconst 0, 1), (19, .ireturn, 1)]
def jcX4_openPairs : List (Nat × Instr × Nat) := [(0, .iconst 0, 1), (1, .istore 1, 1), (2, .iconst 0, 1), (3, .istore 2, 1), (4, .iload 2, 1), (5, .iconst 8, 2), (7, .if_icmp .ge 28, 3), (10, .iload 1, 1), (11, .aload 0, 1), (12, .getfield 4296548436, 3), (15, .iload 2, 1), (16, .iaload, 1), (17, .invokestatic 295735793, 3), (20, .iadd, 1), (21, .istore 1, 1), (22, .iinc 2 1, 3), (25, .goto 4, 3), (28, .iload 1, 1), (29, .ireturn, 1)]
def jcX4_closeJudge : List (Nat × Instr × Nat) := [(0, .iconst 0, 1), (1, .istore 2, 1), (2, .iload 2, 1), (3, .iconst 8, 2), (5, .if_icmp .ge 28, 3), (8, .aload 0, 1), (9, .getfield 4296548436, 3), (12, .iload 2, 1), (13, .dup2, 1), (14, .iaload, 1), (15, .iconst 1, 1), (16, .iload 1, 1), (17, .ishl, 1), (18, .iconst (-1), 1), (19, .ixor, 1), (20, .iand, 1), (21, .iastore, 1), (22, .iinc 2 1, 3), (25, .goto 2, 3), (28, .return_, 1)]
def jcX4_closeHeavier : List (Nat × Instr × Nat) := [(0, .iconst 0, 1), (1, .istore 3, 1), (2, .iload 3, 1), (3, .iconst 64, 2), (5, .if_icmp .ge 45, 3), (8, .aload 0, 1), (9, .getfield 34360811588, 3), (12, .iload 3, 1), (13, .laload, 1), (14, .lload 1, 1), (15, .multianewarray 5 39, 4), (19, .aload 0, 1), (20, .getfield 4296548436, 3), (23, .iload 3, 1), (24, .iconst 8, 2), (26, .irem, 1), (27, .dup2, 1), (28, .iaload, 1), (29, .iconst 1, 1), (30, .iload 3, 1), (31, .iconst 8, 2), (33, .idiv, 1), (34, .ishl, 1), (35, .iconst (-1), 1), (36, .ixor, 1), (37, .iand, 1), (38, .iastore, 1), (39, .iinc 3 1, 3), (42, .goto 2, 3), (45, .return_, 1)]
def jcX4_heavierThan : List (Nat × Instr × Nat) := [(0, .iconst 0, 1), (1, .istore 3, 1), (2, .iconst 0, 1), (3, .istore 4, 2), (5, .iload 4, 2), (7, .iconst 64, 2), (9, .if_icmp .ge 55, 3), (12, .iload 3, 1), (13, .aload 0, 1), (14, .iload 4, 2), (16, .iconst 8, 2), (18, .idiv, 1), (19, .iload 4, 2), (21, .iconst 8, 2), (23, .irem, 1), (24, .invokestatic 42054431, 3), (27, .ifCond .eq 46, 3), (30, .aload 0, 1), (31, .getfield 34360811588, 3), (34, .iload 4, 2), (36, .laload, 1), (37, .lload 1, 1), (38, .multianewarray 5 46, 4), (42, .iconst 1, 1), (43, .goto 47, 3), (46, .iconst 0, 1), (47, .iadd, 1), (48, .istore 3, 1), (49, .iinc 4 1, 3), (52, .goto 5, 3), (55, .iload 3, 1), (56, .ireturn, 1)]
def jcX4_weigh : List (Nat × Instr × Nat) := [(0, .aload 0, 1), (1, .invokestatic 42008869, 3), (4, .iconst 255, 3), (7, .istore 2, 1), (8, .iload 2, 1), (9, .ifCond .lt 71, 3), (12, .aload 0, 1), (13, .iload 2, 1), (14, .invokestatic 42021414, 3), (17, .ifCond .ne 23, 3), (20, .goto 65, 3), (23, .iload 2, 1), (24, .invokestatic 295735793, 3), (27, .istore 3, 1), (28, .iload 3, 1), (29, .aload 0, 1), (30, .getfield 20, 3), (33, .if_icmp .ge 51, 3), (36, .aload 0, 1), (37, .iload 2, 1), (38, .aload 0, 1), (39, .getfield 4295499812, 3), (42, .iload 3, 1), (43, .iaload, 1), (44, .iload 1, 1), (45, .invokestatic 42468391, 3), (48, .goto 65, 3), (51, .aload 0, 1), (52, .getfield 137441075300, 3), (55, .iload 2, 1), (56, .sipush 0, 1), (57, .lastore, 1), (58, .aload 0, 1), (59, .getfield 137441583220, 3), (62, .iload 2, 1), (63, .iconst 1, 1), (64, .iastore, 1), (65, .iinc 2 (-1), 3), (68, .goto 8, 3), (71, .return_, 1)]
def jcX4_listCases : List (Nat × Instr × Nat) := [(0, .aload 0, 1), (1, .iconst 0, 1), (2, .putfield 20, 3), (5, .aload 0, 1), (6, .iconst 0, 1), (7, .putfield 52, 3), (10, .iconst 0, 1), (11, .istore 1, 1), (12, .iload 1, 1), (13, .iconst 8, 2), (15, .if_icmp .ge 71, 3), (18, .aload 0, 1), (19, .getfield 4, 3), (22, .iload 1, 1), (23, .ishr, 1), (24, .iconst 1, 1), (25, .iand, 1), (26, .iconst 1, 1), (27, .if_icmp .ne 65, 3), (30, .aload 0, 1), (31, .getfield 4295499812, 3), (34, .aload 0, 1), (35, .getfield 20, 3), (38, .iload 1, 1), (39, .iastore, 1), (40, .aload 0, 1), (41, .dup, 1), (42, .getfield 20, 3), (45, .iconst 1, 1), (46, .iadd, 1), (47, .putfield 20, 3), (50, .aload 0, 1), (51, .dup, 1), (52, .getfield 52, 3), (55, .aload 0, 1), (56, .getfield 4296548436, 3), (59, .iload 1, 1), (60, .iaload, 1), (61, .ior, 1), (62, .putfield 52, 3), (65, .iinc 1 1, 3), (68, .goto 12, 3), (71, .return_, 1)]
def jcX4_canTake : List (Nat × Instr × Nat) := [(0, .iload 1, 1), (1, .aload 0, 1), (2, .getfield 52, 3), (5, .iconst (-1), 1), (6, .ixor, 1), (7, .iand, 1), (8, .ifCond .ne 15, 3), (11, .iconst 1, 1), (12, .goto 16, 3), (15, .iconst 0, 1), (16, .ireturn, 1)]
def jcX4_weighFrom : List (Nat × Instr × Nat) := [(0, .sipush (-4611686018427387904), 3), (3, .lstore 4, 2), (5, .iconst 0, 1), (6, .istore 6, 2), (8, .aload 0, 1), (9, .getfield 4296548436, 3), (12, .iload 2, 1), (13, .iaload, 1), (14, .iload 1, 1), (15, .iconst (-1), 1), (16, .ixor, 1), (17, .iand, 1), (18, .istore 7, 2), (20, .iconst 0, 1), (21, .istore 8, 2), (23, .iload 8, 2), (25, .iconst 8, 2), (27, .if_icmp .ge 161, 3), (30, .iload 7, 2), (32, .iload 8, 2), (34, .ishr, 1), (35, .iconst 1, 1), (36, .iand, 1), (37, .ifCond .ne 43, 3), (40, .goto 155, 3), (43, .iload 1, 1), (44, .iconst 1, 1), (45, .iload 8, 2), (47, .ishl, 1), (48, .ior, 1), (49, .istore 9, 2), (51, .aload 0, 1), (52, .getfield 137441075300, 3), (55, .iload 9, 2), (57, .laload, 1), (58, .lstore 10, 2), (60, .lload 10, 2), (62, .sipush (-4611686018427387904), 3), (65, .multianewarray 1 72, 4), (69, .goto 155, 3), (72, .aload 0, 1), (73, .getfield 34360811588, 3), (76, .iload 8, 2), (78, .iconst 8, 2), (80, .imul, 1), (81, .iload 2, 1), (82, .iadd, 1), (83, .laload, 1), (84, .lstore 12, 2), (86, .iload 3, 1), (87, .ifCond .eq 100, 3), (90, .lload 12, 2), (92, .lload 10, 2), (94, .invokestatic 297935605, 3), (97, .goto 105, 3), (100, .lload 12, 2), (102, .lload 10, 2), (104, .ladd, 1), (105, .lstore 14, 2), (107, .lload 4, 2), (109, .sipush (-4611686018427387904), 3), (112, .multianewarray 0 124, 4), (116, .lload 14, 2), (118, .lload 4, 2), (120, .multianewarray 3 131, 4), (124, .lload 14, 2), (126, .lstore 4, 2), (128, .iconst 0, 1), (129, .istore 6, 2), (131, .iload 6, 2), (133, .lload 14, 2), (135, .lload 4, 2), (137, .multianewarray 1 151, 4), (141, .aload 0, 1), (142, .getfield 137441583220, 3), (145, .iload 9, 2), (147, .iaload, 1), (148, .goto 152, 3), (151, .iconst 0, 1), (152, .iadd, 1), (153, .istore 6, 2), (155, .iinc 8 1, 3), (158, .goto 23, 3), (161, .aload 0, 1), (162, .getfield 137441075300, 3), (165, .iload 1, 1), (166, .lload 4, 2), (168, .lastore, 1), (169, .aload 0, 1), (170, .getfield 137441583220, 3), (173, .iload 1, 1), (174, .iload 6, 2), (176, .iastore, 1), (177, .return_, 1)]
def jcX4_leads : List (Nat × Instr × Nat) := [(0, .iconst 1, 1), (1, .iload 2, 1), (2, .ishl, 1), (3, .istore 4, 2), (5, .aload 0, 1), (6, .getfield 4296548436, 3), (9, .iload 3, 1), (10, .iaload, 1), (11, .iload 1, 1), (12, .iconst (-1), 1), (13, .ixor, 1), (14, .iand, 1), (15, .iload 4, 2), (17, .iand, 1), (18, .ifCond .eq 37, 3), (21, .aload 0, 1), (22, .getfield 137441075300, 3), (25, .iload 1, 1), (26, .iload 4, 2), (28, .ior, 1), (29, .laload, 1), (30, .sipush (-4611686018427387904), 3), (33, .multianewarray 1 39, 4), (37, .iconst 0, 1), (38, .ireturn, 1), (39, .aload 0, 1), (40, .getfield 34360811588, 3), (43, .iload 2, 1), (44, .iconst 8, 2), (46, .imul, 1), (47, .iload 3, 1), (48, .iadd, 1), (49, .laload, 1), (50, .aload 0, 1), (51, .getfield 137441075300, 3), (54, .iload 1, 1), (55, .iload 4, 2), (57, .ior, 1), (58, .laload, 1), (59, .ladd, 1), (60, .aload 0, 1), (61, .getfield 137441075300, 3), (64, .iload 1, 1), (65, .laload, 1), (66, .multianewarray 1 74, 4), (70, .iconst 1, 1), (71, .goto 75, 3), (74, .iconst 0, 1), (75, .ireturn, 1)]
def jcX4_pick : List (Nat × Instr × Nat) := [(0, .aload 2, 1), (1, .iconst (-1), 1), (2, .invokestatic 300024568, 3), (5, .iconst 0, 1), (6, .istore 3, 1), (7, .iload 1, 1), (8, .istore 4, 2), (10, .iconst 0, 1), (11, .istore 5, 2), (13, .iload 5, 2), (15, .aload 0, 1), (16, .getfield 20, 3), (19, .if_icmp .ge 124, 3), (22, .aload 0, 1), (23, .getfield 4295499812, 3), (26, .iload 5, 2), (28, .iaload, 1), (29, .istore 6, 2), (31, .iconst 0, 1), (32, .istore 7, 2), (34, .iload 7, 2), (36, .iconst 8, 2), (38, .if_icmp .ge 118, 3), (41, .aload 2, 1), (42, .iload 6, 2), (44, .iaload, 1), (45, .iconst (-1), 1), (46, .if_icmp .ne 118, 3), (49, .aload 0, 1), (50, .iload 3, 1), (51, .iload 7, 2), (53, .iload 6, 2), (55, .invokestatic 42120232, 3), (58, .ifCond .ne 64, 3), (61, .goto 112, 3), (64, .iconst 1, 1), (65, .iload 7, 2), (67, .ishl, 1), (68, .istore 8, 2), (70, .iload 4, 2), (72, .aload 0, 1), (73, .getfield 137441583220, 3), (76, .iload 3, 1), (77, .iload 8, 2), (79, .ior, 1), (80, .iaload, 1), (81, .if_icmp .ge 98, 3), (84, .aload 2, 1), (85, .iload 6, 2), (87, .iload 7, 2), (89, .iastore, 1), (90, .iload 3, 1), (91, .iload 8, 2), (93, .ior, 1), (94, .istore 3, 1), (95, .goto 112, 3), (98, .iload 4, 2), (100, .aload 0, 1), (101, .getfield 137441583220, 3), (104, .iload 3, 1), (105, .iload 8, 2), (107, .ior, 1), (108, .iaload, 1), (109, .isub, 1), (110, .istore 4, 2), (112, .iinc 7 1, 3), (115, .goto 34, 3), (118, .iinc 5 1, 3), (121, .goto 13, 3), (124, .return_, 1)]
def jcX4_share : List (Nat × Instr × Nat) := [(0, .aload 0, 1), (1, .getfield 34363416724, 3), (4, .iconst 0, 1), (5, .invokestatic 300024568, 3), (8, .aload 0, 1), (9, .getfield 137442107524, 3), (12, .iconst 0, 1), (13, .invokestatic 300024568, 3), (16, .aload 0, 1), (17, .getfield 137442107524, 3), (20, .iconst 0, 1), (21, .aload 0, 1), (22, .getfield 137441583220, 3), (25, .iconst 0, 1), (26, .iaload, 1), (27, .ifCond .ne 34, 3), (30, .iconst 0, 1), (31, .goto 35, 3), (34, .iconst 1, 1), (35, .iastore, 1), (36, .iconst 0, 1), (37, .istore 1, 1), (38, .iload 1, 1), (39, .iconst 256, 3), (42, .if_icmp .ge 84, 3), (45, .iload 1, 1), (46, .invokestatic 295735793, 3), (49, .istore 2, 1), (50, .aload 0, 1), (51, .getfield 137442107524, 3), (54, .iload 1, 1), (55, .iaload, 1), (56, .ifCond .eq 78, 3), (59, .iload 2, 1), (60, .aload 0, 1), (61, .getfield 20, 3), (64, .if_icmp .ge 78, 3), (67, .aload 0, 1), (68, .iload 1, 1), (69, .aload 0, 1), (70, .getfield 4295499812, 3), (73, .iload 2, 1), (74, .iaload, 1), (75, .invokestatic 42107691, 3), (78, .iinc 1 1, 3), (81, .goto 38, 3), (84, .return_, 1)]
def jcX4_shareFrom : List (Nat × Instr × Nat) := [(0, .iconst 0, 1), (1, .istore 3, 1), (2, .iload 3, 1), (3, .iconst 8, 2), (5, .if_icmp .ge 75, 3), (8, .aload 0, 1), (9, .iload 1, 1), (10, .iload 3, 1), (11, .iload 2, 1), (12, .invokestatic 42120232, 3), (15, .ifCond .eq 69, 3), (18, .iload 1, 1), (19, .iconst 1, 1), (20, .iload 3, 1), (21, .ishl, 1), (22, .ior, 1), (23, .istore 4, 2), (25, .aload 0, 1), (26, .getfield 137442107524, 3), (29, .iload 4, 2), (31, .dup2, 1), (32, .iaload, 1), (33, .aload 0, 1), (34, .getfield 137442107524, 3), (37, .iload 1, 1), (38, .iaload, 1), (39, .iadd, 1), (40, .iastore, 1), (41, .aload 0, 1), (42, .getfield 34363416724, 3), (45, .iload 3, 1), (46, .iconst 8, 2), (48, .imul, 1), (49, .iload 2, 1), (50, .iadd, 1), (51, .dup2, 1), (52, .iaload, 1), (53, .aload 0, 1), (54, .getfield 137442107524, 3), (57, .iload 1, 1), (58, .iaload, 1), (59, .aload 0, 1), (60, .getfield 137441583220, 3), (63, .iload 4, 2), (65, .iaload, 1), (66, .imul, 1), (67, .iadd, 1), (68, .iastore, 1), (69, .iinc 3 1, 3), (72, .goto 2, 3), (75, .return_, 1)]
def jcX4_follows : List (Nat × Instr × Nat) := [(0, .aload 2, 1), (1, .iconst (-1), 1), (2, .invokestatic 300024568, 3), (5, .aload 1, 1), (6, .getfield 23, 3), (9, .aload 0, 1), (10, .getfield 20, 3), (13, .if_icmp .eq 18, 3), (16, .iconst 0, 1), (17, .ireturn, 1), (18, .iconst 0, 1), (19, .istore 3, 1), (20, .iconst 0, 1), (21, .istore 4, 2), (23, .iload 4, 2), (25, .aload 0, 1), (26, .getfield 20, 3), (29, .if_icmp .ge 117, 3), (32, .aload 1, 1), (33, .getfield 21475385383, 3), (36, .iload 4, 2), (38, .laload, 1), (39, .lstore 5, 2), (41, .lload 5, 2), (43, .sipush 0, 1), (44, .multianewarray 2 57, 4), (48, .lload 5, 2), (50, .sipush 8, 3), (53, .multianewarray 2 59, 4), (57, .iconst 0, 1), (58, .ireturn, 1), (59, .lload 5, 2), (61, .l2i, 1), (62, .istore 7, 2), (64, .iconst 1, 1), (65, .iload 7, 2), (67, .ishl, 1), (68, .istore 8, 2), (70, .iload 3, 1), (71, .iload 8, 2), (73, .iand, 1), (74, .ifCond .ne 93, 3), (77, .aload 0, 1), (78, .iload 7, 2), (80, .aload 0, 1), (81, .getfield 4295499812, 3), (84, .iload 4, 2), (86, .iaload, 1), (87, .invokestatic 42054431, 3), (90, .ifCond .ne 95, 3), (93, .iconst 0, 1), (94, .ireturn, 1), (95, .iload 3, 1), (96, .iload 8, 2), (98, .ior, 1), (99, .istore 3, 1), (100, .aload 2, 1), (101, .aload 0, 1), (102, .getfield 4295499812, 3), (105, .iload 4, 2), (107, .iaload, 1), (108, .iload 7, 2), (110, .iastore, 1), (111, .iinc 4 1, 3), (114, .goto 23, 3), (117, .iconst 1, 1), (118, .ireturn, 1)]
def jcX4_sumOf : List (Nat × Instr × Nat) := [(0, .sipush 0, 1), (1, .lstore 2, 1), (2, .iconst 0, 1), (3, .istore 4, 2), (5, .iload 4, 2), (7, .aload 0, 1), (8, .getfield 20, 3), (11, .if_icmp .ge 47, 3), (14, .aload 0, 1), (15, .getfield 4295499812, 3), (18, .iload 4, 2), (20, .iaload, 1), (21, .istore 5, 2), (23, .lload 2, 1), (24, .aload 0, 1), (25, .getfield 34360811588, 3), (28, .aload 1, 1), (29, .iload 5, 2), (31, .iaload, 1), (32, .iconst 8, 2), (34, .imul, 1), (35, .iload 5, 2), (37, .iadd, 1), (38, .laload, 1), (39, .ladd, 1), (40, .lstore 2, 1), (41, .iinc 4 1, 3), (44, .goto 5, 3), (47, .lload 2, 1), (48, .lreturn, 1)]
def jcX4_sharedOf : List (Nat × Instr × Nat) := [(0, .iconst 0, 1), (1, .istore 2, 1), (2, .iconst 0, 1), (3, .istore 3, 1), (4, .iload 3, 1), (5, .aload 0, 1), (6, .getfield 20, 3), (9, .if_icmp .ge 52, 3), (12, .aload 0, 1), (13, .getfield 4295499812, 3), (16, .iload 3, 1), (17, .iaload, 1), (18, .istore 4, 2), (20, .iload 2, 1), (21, .aload 0, 1), (22, .getfield 34363416724, 3), (25, .aload 1, 1), (26, .iload 4, 2), (28, .iaload, 1), (29, .iconst 8, 2), (31, .imul, 1), (32, .iload 4, 2), (34, .iadd, 1), (35, .iaload, 1), (36, .ifCond .le 43, 3), (39, .iconst 1, 1), (40, .goto 44, 3), (43, .iconst 0, 1), (44, .iadd, 1), (45, .istore 2, 1), (46, .iinc 3 1, 3), (49, .goto 4, 3), (52, .iload 2, 1), (53, .ireturn, 1)]
def jcX5_init : List (Nat × Instr × Nat) := [(0, .aload 0, 1), (1, .pop, 3), (4, .aload 0, 1), (5, .iconst 0, 1), (6, .putfield 5, 3), (9, .aload 0, 1), (10, .iconst 384, 3), (13, .newarray .long, 2), (15, .putfield 206158979093, 3), (18, .aload 0, 1), (19, .iconst 1024, 3), (22, .newarray .long, 2), (24, .putfield 549756887077, 3), (27, .aload 0, 1), (28, .iconst 8, 2), (30, .newarray .long, 2), (32, .putfield 4296564789, 3), (35, .aload 0, 1), (36, .iconst 8, 2), (38, .newarray .long, 2), (40, .putfield 4297089093, 3), (43, .aload 0, 1), (44, .iconst 8, 2), (46, .newarray .int, 2), (48, .putfield 4297597013, 3), (51, .return_, 1)]
def jcX5_make : List (Nat × Instr × Nat) := [(0, .aload 0, 1), (1, .getfield 4296564789, 3), (4, .sipush 0, 1), (5, .invokestatic 300057335, 3), (8, .iconst 0, 1), (9, .istore 3, 1), (10, .iload 3, 1), (11, .iconst 8, 2), (13, .if_icmp .ge 34, 3), (16, .aload 0, 1), (17, .getfield 4297089093, 3), (20, .iload 3, 1), (21, .aload 0, 1), (22, .aload 1, 1), (23, .iload 3, 1), (24, .invokestatic 44311345, 3), (27, .lastore, 1), (28, .iinc 3 1, 3), (31, .goto 10, 3), (34, .aload 0, 1), (35, .iconst 0, 1), (36, .putfield 5, 3), (39, .sipush 0, 1), (40, .lstore 3, 1), (41, .iconst 0, 1), (42, .istore 5, 2), (44, .iload 5, 2), (46, .iconst 64, 2), (48, .if_icmp .ge 170, 3), (51, .lload 3, 1), (52, .sipush (-1), 3), (55, .multianewarray 0 170, 4), (59, .aload 0, 1), (60, .aload 1, 1), (61, .invokestatic 44241459, 3), (64, .istore 6, 2), (66, .aload 2, 1), (67, .aload 0, 1), (68, .getfield 4297597013, 3), (71, .aload 1, 1), (72, .getfield 4, 3), (75, .invokestatic 37880591, 3), (78, .aload 0, 1), (79, .aload 1, 1), (80, .aload 2, 1), (81, .getfield 18, 3), (84, .aload 2, 1), (85, .getfield 34, 3), (88, .iconst (-1), 1), (89, .ixor, 1), (90, .invokestatic 44442676, 3), (93, .lstore 3, 1), (94, .aload 0, 1), (95, .iload 5, 2), (97, .aload 1, 1), (98, .getfield 4, 3), (101, .aload 2, 1), (102, .getfield 18, 3), (105, .iconst (-1), 1), (106, .ixor, 1), (107, .iand, 1), (108, .aload 2, 1), (109, .invokestatic 44172341, 3), (112, .aload 0, 1), (113, .getfield 206158979093, 3), (116, .iload 5, 2), (118, .iconst 6, 2), (120, .imul, 1), (121, .iconst 4, 1), (122, .iadd, 1), (123, .lload 3, 1), (124, .lastore, 1), (125, .aload 0, 1), (126, .getfield 206158979093, 3), (129, .iload 5, 2), (131, .iconst 6, 2), (133, .imul, 1), (134, .iconst 5, 1), (135, .iadd, 1), (136, .iload 6, 2), (138, .i2l, 1), (139, .lastore, 1), (140, .aload 0, 1), (141, .dup, 1), (142, .getfield 5, 3), (145, .iconst 1, 1), (146, .iadd, 1), (147, .putfield 5, 3), (150, .lload 3, 1), (151, .sipush (-1), 3), (154, .multianewarray 0 164, 4), (158, .aload 0, 1), (159, .aload 2, 1), (160, .lload 3, 1), (161, .invokestatic 44204854, 3), (164, .iinc 5 1, 3), (167, .goto 44, 3), (170, .return_, 1)]
def jcX5_firstPay : List (Nat × Instr × Nat) := [(0, .sipush (-1), 3), (3, .lstore 3, 1), (4, .iconst 0, 1), (5, .istore 5, 2), (7, .iload 5, 2), (9, .iconst 8, 2), (11, .if_icmp .ge 64, 3), (14, .aload 1, 1), (15, .iload 5, 2), (17, .iload 2, 1), (18, .invokestatic 42054431, 3), (21, .ifCond .eq 58, 3), (24, .aload 1, 1), (25, .getfield 34360811588, 3), (28, .iload 5, 2), (30, .iconst 8, 2), (32, .imul, 1), (33, .iload 2, 1), (34, .iadd, 1), (35, .laload, 1), (36, .lstore 6, 2), (38, .lload 3, 1), (39, .sipush (-1), 3), (42, .multianewarray 1 51, 4), (46, .lload 6, 2), (48, .goto 57, 3), (51, .lload 3, 1), (52, .lload 6, 2), (54, .invokestatic 297935606, 3), (57, .lstore 3, 1), (58, .iinc 5 1, 3), (61, .goto 7, 3), (64, .lload 3, 1), (65, .sipush (-1), 3), (68, .multianewarray 1 76, 4), (72, .sipush 0, 1), (73, .goto 77, 3), (76, .lload 3, 1), (77, .lreturn, 1)]
def jcX5_slack : List (Nat × Instr × Nat) := [(0, .aload 1, 1), (1, .getfield 34360811588, 3), (4, .iload 2, 1), (5, .iconst 8, 2), (7, .imul, 1), (8, .iload 3, 1), (9, .iadd, 1), (10, .laload, 1), (11, .aload 0, 1), (12, .getfield 4296564789, 3), (15, .iload 2, 1), (16, .laload, 1), (17, .ladd, 1), (18, .aload 0, 1), (19, .getfield 4297089093, 3), (22, .iload 3, 1), (23, .laload, 1), (24, .lsub, 1), (25, .lreturn, 1)]
def jcX5_findTight : List (Nat × Instr × Nat) := [(0, .aload 0, 1), (1, .getfield 4297597013, 3), (4, .iconst 0, 1), (5, .invokestatic 300024568, 3), (8, .iconst 0, 1), (9, .istore 2, 1), (10, .iconst 0, 1), (11, .istore 3, 1), (12, .iload 3, 1), (13, .iconst 64, 2), (15, .if_icmp .ge 78, 3), (18, .iload 3, 1), (19, .iconst 8, 2), (21, .idiv, 1), (22, .istore 4, 2), (24, .iload 3, 1), (25, .iconst 8, 2), (27, .irem, 1), (28, .istore 5, 2), (30, .aload 1, 1), (31, .iload 4, 2), (33, .iload 5, 2), (35, .invokestatic 42054431, 3), (38, .ifCond .eq 72, 3), (41, .aload 0, 1), (42, .aload 1, 1), (43, .iload 4, 2), (45, .iload 5, 2), (47, .invokestatic 44180530, 3), (50, .sipush 0, 1), (51, .multianewarray 1 72, 4), (55, .aload 0, 1), (56, .getfield 4297597013, 3), (59, .iload 5, 2), (61, .dup2, 1), (62, .iaload, 1), (63, .iconst 1, 1), (64, .iload 4, 2), (66, .ishl, 1), (67, .ior, 1), (68, .iastore, 1), (69, .iinc 2 1, 3), (72, .iinc 3 1, 3), (75, .goto 12, 3), (78, .iload 2, 1), (79, .ireturn, 1)]
def jcX5_leastSlack : List (Nat × Instr × Nat) := [(0, .sipush (-1), 3), (3, .lstore 4, 2), (5, .iconst 0, 1), (6, .istore 6, 2), (8, .iload 6, 2), (10, .iconst 64, 2), (12, .if_icmp .ge 107, 3), (15, .iload 6, 2), (17, .iconst 8, 2), (19, .idiv, 1), (20, .istore 7, 2), (22, .iload 6, 2), (24, .iconst 8, 2), (26, .irem, 1), (27, .istore 8, 2), (29, .iload 2, 1), (30, .iload 8, 2), (32, .ishr, 1), (33, .iload 3, 1), (34, .iload 7, 2), (36, .ishr, 1), (37, .iand, 1), (38, .iconst 1, 1), (39, .iand, 1), (40, .iconst 1, 1), (41, .if_icmp .ne 48, 3), (44, .iconst 1, 1), (45, .goto 49, 3), (48, .iconst 0, 1), (49, .istore 9, 2), (51, .iload 9, 2), (53, .ifCond .eq 101, 3), (56, .aload 1, 1), (57, .iload 7, 2), (59, .iload 8, 2), (61, .invokestatic 42054431, 3), (64, .ifCond .eq 101, 3), (67, .aload 0, 1), (68, .aload 1, 1), (69, .iload 7, 2), (71, .iload 8, 2), (73, .invokestatic 44180530, 3), (76, .lstore 10, 2), (78, .lload 4, 2), (80, .sipush (-1), 3), (83, .multianewarray 1 92, 4), (87, .lload 10, 2), (89, .goto 99, 3), (92, .lload 4, 2), (94, .lload 10, 2), (96, .invokestatic 297935606, 3), (99, .lstore 4, 2), (101, .iinc 6 1, 3), (104, .goto 8, 3), (107, .lload 4, 2), (109, .lreturn, 1)]
def jcX5_keep : List (Nat × Instr × Nat) := [(0, .aload 0, 1), (1, .getfield 206158979093, 3), (4, .iload 1, 1), (5, .iconst 6, 2), (7, .imul, 1), (8, .aload 3, 1), (9, .getfield 2, 3), (12, .i2l, 1), (13, .lastore, 1), (14, .aload 0, 1), (15, .getfield 206158979093, 3), (18, .iload 1, 1), (19, .iconst 6, 2), (21, .imul, 1), (22, .iconst 1, 1), (23, .iadd, 1), (24, .aload 3, 1), (25, .getfield 18, 3), (28, .i2l, 1), (29, .lastore, 1), (30, .aload 0, 1), (31, .getfield 206158979093, 3), (34, .iload 1, 1), (35, .iconst 6, 2), (37, .imul, 1), (38, .iconst 2, 1), (39, .iadd, 1), (40, .aload 3, 1), (41, .getfield 34, 3), (44, .i2l, 1), (45, .lastore, 1), (46, .aload 0, 1), (47, .getfield 206158979093, 3), (50, .iload 1, 1), (51, .iconst 6, 2), (53, .imul, 1), (54, .iconst 3, 1), (55, .iadd, 1), (56, .aload 3, 1), (57, .getfield 34, 3), (60, .iload 2, 1), (61, .iconst 8, 2), (63, .ishl, 1), (64, .ior, 1), (65, .i2l, 1), (66, .lastore, 1), (67, .aload 0, 1), (68, .getfield 4296564789, 3), (71, .iconst 0, 1), (72, .aload 0, 1), (73, .getfield 549756887077, 3), (76, .iload 1, 1), (77, .iconst 2, 1), (78, .imul, 1), (79, .iconst 8, 2), (81, .imul, 1), (82, .iconst 8, 2), (84, .swap, 3), (87, .aload 0, 1), (88, .getfield 4297089093, 3), (91, .iconst 0, 1), (92, .aload 0, 1), (93, .getfield 549756887077, 3), (96, .iload 1, 1), (97, .iconst 2, 1), (98, .imul, 1), (99, .iconst 1, 1), (100, .iadd, 1), (101, .iconst 8, 2), (103, .imul, 1), (104, .iconst 8, 2), (106, .swap, 3), (109, .return_, 1)]
def jcX5_raise : List (Nat × Instr × Nat) := [(0, .iconst 0, 1), (1, .istore 4, 2), (3, .iload 4, 2), (5, .iconst 8, 2), (7, .if_icmp .ge 60, 3), (10, .aload 0, 1), (11, .getfield 4296564789, 3), (14, .iload 4, 2), (16, .dup2, 1), (17, .laload, 1), (18, .aload 1, 1), (19, .getfield 34, 3), (22, .iload 4, 2), (24, .ishr, 1), (25, .iconst 1, 1), (26, .iand, 1), (27, .i2l, 1), (28, .lload 2, 1), (29, .lmul, 1), (30, .ladd, 1), (31, .lastore, 1), (32, .aload 0, 1), (33, .getfield 4297089093, 3), (36, .iload 4, 2), (38, .dup2, 1), (39, .laload, 1), (40, .aload 1, 1), (41, .getfield 18, 3), (44, .iload 4, 2), (46, .ishr, 1), (47, .iconst 1, 1), (48, .iand, 1), (49, .i2l, 1), (50, .lload 2, 1), (51, .lmul, 1), (52, .ladd, 1), (53, .lastore, 1), (54, .iinc 4 1, 3), (57, .goto 3, 3), (60, .return_, 1)]
def jcX6_init : List (Nat × Instr × Nat) := [(0, .aload 0, 1), (1, .pop, 3), (4, .aload 0, 1), (5, .iconst 0, 1), (6, .putfield 6, 3), (9, .aload 0, 1), (10, .iconst 0, 1), (11, .putfield 22, 3), (14, .aload 0, 1), (15, .iconst 40, 2), (17, .newarray .int, 2), (19, .putfield 21475368998, 3), (22, .aload 0, 1), (23, .iconst 40, 2), (25, .newarray .int, 2), (27, .putfield 21475893302, 3), (30, .aload 0, 1), (31, .iconst 40, 2), (33, .newarray .int, 2), (35, .putfield 21476417606, 3), (38, .return_, 1)]
def jcX6_clear : List (Nat × Instr × Nat) := [(0, .aload 0, 1), (1, .iconst 0, 1), (2, .putfield 6, 3), (5, .aload 0, 1), (6, .iconst 0, 1), (7, .putfield 22, 3), (10, .return_, 1)]
def jcX6_take : List (Nat × Instr × Nat) := [(0, .aload 0, 1), (1, .aload 1, 1), (2, .getfield 6, 3), (5, .putfield 6, 3), (8, .aload 0, 1), (9, .aload 1, 1), (10, .getfield 22, 3), (13, .putfield 22, 3), (16, .aload 1, 1), (17, .getfield 21475368998, 3), (20, .iconst 0, 1), (21, .aload 0, 1), (22, .getfield 21475368998, 3), (25, .iconst 0, 1), (26, .iconst 40, 2), (28, .swap, 3), (31, .aload 1, 1), (32, .getfield 21475893302, 3), (35, .iconst 0, 1), (36, .aload 0, 1), (37, .getfield 21475893302, 3), (40, .iconst 0, 1), (41, .iconst 40, 2), (43, .swap, 3), (46, .aload 1, 1), (47, .getfield 21476417606, 3), (50, .iconst 0, 1), (51, .aload 0, 1), (52, .getfield 21476417606, 3), (55, .iconst 0, 1), (56, .iconst 40, 2), (58, .swap, 3), (61, .return_, 1)]
def jcX6_add : List (Nat × Instr × Nat) := [(0, .aload 0, 1), (1, .getfield 22, 3), (4, .iconst 40, 2), (6, .if_icmp .ge 49, 3), (9, .aload 0, 1), (10, .getfield 21475368998, 3), (13, .aload 0, 1), (14, .getfield 22, 3), (17, .iload 1, 1), (18, .iastore, 1), (19, .aload 0, 1), (20, .getfield 21475893302, 3), (23, .aload 0, 1), (24, .getfield 22, 3), (27, .iload 2, 1), (28, .iastore, 1), (29, .aload 0, 1), (30, .getfield 21476417606, 3), (33, .aload 0, 1), (34, .getfield 22, 3), (37, .iload 3, 1), (38, .iastore, 1), (39, .aload 0, 1), (40, .dup, 1), (41, .getfield 22, 3), (44, .iconst 1, 1), (45, .iadd, 1), (46, .putfield 22, 3), (49, .return_, 1)]
def jcX6_landHere : List (Nat × Instr × Nat) := [(0, .iload 1, 1), (1, .ifCond .lt 20, 3), (4, .iload 1, 1), (5, .iconst 40, 2), (7, .if_icmp .ge 20, 3), (10, .aload 0, 1), (11, .getfield 21475893302, 3), (14, .iload 1, 1), (15, .aload 0, 1), (16, .getfield 22, 3), (19, .iastore, 1), (20, .return_, 1)]
def jcX6_names : List (Nat × Instr × Nat) := [(0, .iconst 0, 1), (1, .istore 1, 1), (2, .iconst 0, 1), (3, .istore 2, 1), (4, .iload 2, 1), (5, .aload 0, 1), (6, .getfield 22, 3), (9, .if_icmp .ge 39, 3), (12, .aload 0, 1), (13, .getfield 21475368998, 3), (16, .iload 2, 1), (17, .iaload, 1), (18, .iconst 4, 1), (19, .if_icmp .ne 33, 3), (22, .iload 1, 1), (23, .iconst 1, 1), (24, .aload 0, 1), (25, .getfield 21475893302, 3), (28, .iload 2, 1), (29, .iaload, 1), (30, .ishl, 1), (31, .ior, 1), (32, .istore 1, 1), (33, .iinc 2 1, 3), (36, .goto 4, 3), (39, .iload 1, 1), (40, .ireturn, 1)]
def jcX6_weightBy : List (Nat × Instr × Nat) := [(0, .aload 0, 1), (1, .getfield 6, 3), (4, .istore 2, 1), (5, .iconst 0, 1), (6, .istore 3, 1), (7, .iload 3, 1), (8, .aload 0, 1), (9, .getfield 22, 3), (12, .if_icmp .ge 42, 3), (15, .aload 0, 1), (16, .getfield 21475368998, 3), (19, .iload 3, 1), (20, .iaload, 1), (21, .iconst 4, 1), (22, .if_icmp .ne 36, 3), (25, .iload 2, 1), (26, .aload 1, 1), (27, .aload 0, 1), (28, .getfield 21475893302, 3), (31, .iload 3, 1), (32, .iaload, 1), (33, .iaload, 1), (34, .iadd, 1), (35, .istore 2, 1), (36, .iinc 3 1, 3), (39, .goto 7, 3), (42, .iload 2, 1), (43, .ireturn, 1)]
def jcX7_init : List (Nat × Instr × Nat) := [(0, .aload 0, 1), (1, .pop, 3), (4, .aload 0, 1), (5, .iconst (-1), 1), (6, .putfield 7, 3), (9, .aload 0, 1), (10, .iconst 0, 1), (11, .putfield 23, 3), (14, .aload 0, 1), (15, .iconst 40, 2), (17, .newarray .long, 2), (19, .putfield 21475385383, 3), (22, .return_, 1)]
def jcX7_become : List (Nat × Instr × Nat) := [(0, .aload 0, 1), (1, .iload 1, 1), (2, .putfield 7, 3), (5, .aload 0, 1), (6, .iload 2, 1), (7, .putfield 23, 3), (10, .aload 0, 1), (11, .getfield 21475385383, 3), (14, .sipush 0, 1), (15, .invokestatic 300057335, 3), (18, .return_, 1)]
def jcX7_holds : List (Nat × Instr × Nat) := [(0, .iload 1, 1), (1, .ifCond .lt 30, 3), (4, .iload 2, 1), (5, .ifCond .lt 30, 3), (8, .iload 1, 1), (9, .aload 0, 1), (10, .getfield 23, 3), (13, .if_icmp .gt 30, 3), (16, .iload 2, 1), (17, .aload 0, 1), (18, .getfield 23, 3), (21, .iload 1, 1), (22, .isub, 1), (23, .if_icmp .gt 30, 3), (26, .iconst 1, 1), (27, .goto 31, 3), (30, .iconst 0, 1), (31, .ireturn, 1)]
def jcX7_set : List (Nat × Instr × Nat) := [(0, .aload 0, 1), (1, .getfield 7, 3), (4, .iconst 1, 1), (5, .if_icmp .ne 20, 3), (8, .aload 0, 1), (9, .getfield 21475385383, 3), (12, .iload 1, 1), (13, .lload 2, 1), (14, .l2i, 1), (15, .i2l, 1), (16, .lastore, 1), (17, .goto 48, 3), (20, .aload 0, 1), (21, .getfield 7, 3), (24, .iconst 2, 1), (25, .if_icmp .ne 41, 3), (28, .aload 0, 1), (29, .getfield 21475385383, 3), (32, .iload 1, 1), (33, .lload 2, 1), (34, .l2i, 1), (35, .i2b, 1), (36, .i2l, 1), (37, .lastore, 1), (38, .goto 48, 3), (41, .aload 0, 1), (42, .getfield 21475385383, 3), (45, .iload 1, 1), (46, .lload 2, 1), (47, .lastore, 1), (48, .return_, 1)]
def jcX8_init : List (Nat × Instr × Nat) := [(0, .aload 0, 1), (1, .pop, 3), (4, .aload 0, 1), (5, .iconst 60, 2), (7, .newarray .int, 2), (9, .putfield 32212787208, 3), (12, .aload 0, 1), (13, .iconst 0, 1), (14, .putfield 24, 3), (17, .aload 0, 1), (18, .new 6, 3), (21, .dup, 1), (22, .invokestatic 1824555319, 3), (25, .putfield 108584, 3), (28, .aload 0, 1), (29, .iconst 0, 1), (30, .putfield 56, 3), (33, .aload 0, 1), (34, .iconst 0, 1), (35, .putfield 72, 3), (38, .aload 0, 1), (39, .iconst 0, 1), (40, .putfield 88, 3), (43, .aload 0, 1), (44, .iconst 0, 1), (45, .putfield 104, 3), (48, .aload 0, 1), (49, .iconst 0, 1), (50, .putfield 120, 3), (53, .aload 0, 1), (54, .iconst 0, 1), (55, .putfield 136, 3), (58, .return_, 1)]
def jcX8_add : List (Nat × Instr × Nat) := [(0, .aload 0, 1), (1, .getfield 24, 3), (4, .iconst 60, 2), (6, .if_icmp .lt 11, 3), (9, .iconst 0, 1), (10, .ireturn, 1), (11, .aload 0, 1), (12, .getfield 32212787208, 3), (15, .aload 0, 1), (16, .getfield 24, 3), (19, .iload 1, 1), (20, .iastore, 1), (21, .aload 0, 1), (22, .dup, 1), (23, .getfield 24, 3), (26, .iconst 1, 1), (27, .iadd, 1), (28, .putfield 24, 3), (31, .iconst 1, 1), (32, .ireturn, 1)]
def jcX8_parse : List (Nat × Instr × Nat) := [(0, .aload 0, 1), (1, .getfield 108584, 3), (4, .invokestatic 46170424, 3), (7, .aload 0, 1), (8, .iconst 0, 1), (9, .putfield 56, 3), (12, .aload 0, 1), (13, .iconst 0, 1), (14, .putfield 72, 3), (17, .aload 0, 1), (18, .invokestatic 50397518, 3), (21, .aload 0, 1), (22, .invokestatic 50475333, 3), (25, .ifCond .eq 39, 3), (28, .aload 0, 1), (29, .getfield 88, 3), (32, .ifCond .ne 39, 3), (35, .iconst (-1), 1), (36, .goto 43, 3), (39, .aload 0, 1), (40, .getfield 104, 3), (43, .ireturn, 1)]
def jcX8_expr : List (Nat × Instr × Nat) := [(0, .aload 0, 1), (1, .invokestatic 50475334, 3), (4, .ifCond .ne 9, 3), (7, .iconst 0, 1), (8, .ireturn, 1), (9, .aload 0, 1), (10, .getfield 88, 3), (13, .iconst 60, 2), (15, .if_icmp .eq 20, 3), (18, .iconst 1, 1), (19, .ireturn, 1), (20, .aload 0, 1), (21, .getfield 104, 3), (24, .istore 1, 1), (25, .aload 0, 1), (26, .invokestatic 50377035, 3), (29, .ifCond .eq 48, 3), (32, .aload 0, 1), (33, .invokestatic 50475334, 3), (36, .ifCond .eq 48, 3), (39, .aload 0, 1), (40, .getfield 88, 3), (43, .iconst 63, 2), (45, .if_icmp .eq 50, 3), (48, .iconst 0, 1), (49, .ireturn, 1), (50, .aload 0, 1), (51, .getfield 108584, 3), (54, .getfield 22, 3), (57, .istore 2, 1), (58, .aload 0, 1), (59, .getfield 108584, 3), (62, .iconst 14, 2), (64, .iconst 0, 1), (65, .iload 1, 1), (66, .invokestatic 46269498, 3), (69, .aload 0, 1), (70, .invokestatic 50397518, 3), (73, .aload 0, 1), (74, .invokestatic 50475333, 3), (77, .ifCond .eq 89, 3), (80, .aload 0, 1), (81, .getfield 88, 3), (84, .iconst 58, 2), (86, .if_icmp .eq 91, 3), (89, .iconst 0, 1), (90, .ireturn, 1), (91, .aload 0, 1), (92, .getfield 108584, 3), (95, .getfield 22, 3), (98, .istore 3, 1), (99, .aload 0, 1), (100, .getfield 108584, 3), (103, .iconst 15, 2), (105, .iconst 0, 1), (106, .aload 0, 1), (107, .getfield 104, 3), (110, .invokestatic 46269498, 3), (113, .aload 0, 1), (114, .getfield 108584, 3), (117, .iload 2, 1), (118, .invokestatic 46203451, 3), (121, .aload 0, 1), (122, .invokestatic 50397518, 3), (125, .aload 0, 1), (126, .invokestatic 50475333, 3), (129, .ifCond .ne 134, 3), (132, .iconst 0, 1), (133, .ireturn, 1), (134, .aload 0, 1), (135, .getfield 108584, 3), (138, .iload 3, 1), (139, .invokestatic 46203451, 3), (142, .iconst 1, 1), (143, .ireturn, 1)]
def jcX8_sum : List (Nat × Instr × Nat) := [(0, .aload 0, 1), (1, .invokestatic 50442567, 3), (4, .ifCond .ne 9, 3), (7, .iconst 0, 1), (8, .ireturn, 1), (9, .iconst 0, 1), (10, .istore 1, 1), (11, .iload 1, 1), (12, .iconst 24, 2), (14, .if_icmp .gt 89, 3), (17, .aload 0, 1), (18, .getfield 88, 3), (21, .iconst 43, 2), (23, .if_icmp .eq 35, 3), (26, .aload 0, 1), (27, .getfield 88, 3), (30, .iconst 45, 2), (32, .if_icmp .ne 89, 3), (35, .aload 0, 1), (36, .getfield 88, 3), (39, .iconst 43, 2), (41, .if_icmp .ne 49, 3), (44, .iconst 7, 2), (46, .goto 51, 3), (49, .iconst 8, 2), (51, .istore 2, 1), (52, .aload 0, 1), (53, .getfield 104, 3), (56, .istore 3, 1), (57, .aload 0, 1), (58, .invokestatic 50377035, 3), (61, .ifCond .eq 71, 3), (64, .aload 0, 1), (65, .invokestatic 50442567, 3), (68, .ifCond .ne 73, 3), (71, .iconst 0, 1), (72, .ireturn, 1), (73, .aload 0, 1), (74, .getfield 108584, 3), (77, .iload 2, 1), (78, .iconst 0, 1), (79, .iload 3, 1), (80, .invokestatic 46269498, 3), (83, .iinc 1 1, 3), (86, .goto 11, 3), (89, .iconst 1, 1), (90, .ireturn, 1)]
def jcX8_product : List (Nat × Instr × Nat) := [(0, .aload 0, 1), (1, .invokestatic 50442568, 3), (4, .ifCond .ne 9, 3), (7, .iconst 0, 1), (8, .ireturn, 1), (9, .iconst 0, 1), (10, .istore 1, 1), (11, .iload 1, 1), (12, .iconst 24, 2), (14, .if_icmp .gt 64, 3), (17, .aload 0, 1), (18, .getfield 88, 3), (21, .iconst 42, 2), (23, .if_icmp .ne 64, 3), (26, .aload 0, 1), (27, .getfield 104, 3), (30, .istore 2, 1), (31, .aload 0, 1), (32, .invokestatic 50377035, 3), (35, .ifCond .eq 45, 3), (38, .aload 0, 1), (39, .invokestatic 50442568, 3), (42, .ifCond .ne 47, 3), (45, .iconst 0, 1), (46, .ireturn, 1), (47, .aload 0, 1), (48, .getfield 108584, 3), (51, .iconst 9, 2), (53, .iconst 0, 1), (54, .iload 2, 1), (55, .invokestatic 46269498, 3), (58, .iinc 1 1, 3), (61, .goto 11, 3), (64, .iconst 1, 1), (65, .ireturn, 1)]
def jcX8_factor : List (Nat × Instr × Nat) := [(0, .iconst 0, 1), (1, .istore 1, 1), (2, .iconst 0, 1), (3, .istore 2, 1), (4, .iload 2, 1), (5, .iconst 24, 2), (7, .if_icmp .gt 44, 3), (10, .aload 0, 1), (11, .getfield 88, 3), (14, .iconst 45, 2), (16, .if_icmp .ne 44, 3), (19, .aload 0, 1), (20, .invokestatic 50377035, 3), (23, .ifCond .ne 28, 3), (26, .iconst 0, 1), (27, .ireturn, 1), (28, .iload 1, 1), (29, .ifCond .ne 36, 3), (32, .iconst 1, 1), (33, .goto 37, 3), (36, .iconst 0, 1), (37, .istore 1, 1), (38, .iinc 2 1, 3), (41, .goto 4, 3), (44, .aload 0, 1), (45, .invokestatic 50377033, 3), (48, .ifCond .ne 53, 3), (51, .iconst 0, 1), (52, .ireturn, 1), (53, .iload 1, 1), (54, .ifCond .eq 67, 3), (57, .aload 0, 1), (58, .getfield 108584, 3), (61, .iconst 5, 1), (62, .iconst 0, 1), (63, .iconst 0, 1), (64, .invokestatic 46269498, 3), (67, .iconst 1, 1), (68, .ireturn, 1)]
def jcX8_atom : List (Nat × Instr × Nat) := [(0, .aload 0, 1), (1, .getfield 88, 3), (4, .lookupswitch 156 #[(1, 48), (2, 151), (40, 72), (124, 101)], 44), (48, .aload 0, 1), (49, .getfield 108584, 3), (52, .aload 0, 1), (53, .getfield 120, 3), (56, .aload 0, 1), (57, .getfield 136, 3), (60, .aload 0, 1), (61, .getfield 104, 3), (64, .invokestatic 46269498, 3), (67, .aload 0, 1), (68, .invokestatic 50377035, 3), (71, .ireturn, 1), (72, .aload 0, 1), (73, .invokestatic 50377036, 3), (76, .ifCond .eq 99, 3), (79, .aload 0, 1), (80, .invokestatic 50475333, 3), (83, .ifCond .eq 99, 3), (86, .aload 0, 1), (87, .iconst 41, 2), (89, .invokestatic 50410061, 3), (92, .ifCond .eq 99, 3), (95, .iconst 1, 1), (96, .goto 100, 3), (99, .iconst 0, 1), (100, .ireturn, 1), (101, .aload 0, 1), (102, .getfield 108584, 3), (105, .getfield 6, 3), (108, .iconst 24, 2), (110, .if_icmp .ge 136, 3), (113, .aload 0, 1), (114, .invokestatic 50377036, 3), (117, .ifCond .eq 136, 3), (120, .aload 0, 1), (121, .invokestatic 50475333, 3), (124, .ifCond .eq 136, 3), (127, .aload 0, 1), (128, .iconst 124, 2), (130, .invokestatic 50410061, 3), (133, .ifCond .ne 138, 3), (136, .iconst 0, 1), (137, .ireturn, 1), (138, .aload 0, 1), (139, .getfield 108584, 3), (142, .iconst 6, 2), (144, .iconst 0, 1), (145, .iconst 0, 1), (146, .invokestatic 46269498, 3), (149, .iconst 1, 1), (150, .ireturn, 1), (151, .aload 0, 1), (152, .invokestatic 50442570, 3), (155, .ireturn, 1), (156, .iconst 0, 1), (157, .ireturn, 1)]
def jcX8_function : List (Nat × Instr × Nat) := [(0, .aload 0, 1), (1, .getfield 120, 3), (4, .istore 1, 1), (5, .aload 0, 1), (6, .getfield 104, 3), (9, .istore 2, 1), (10, .aload 0, 1), (11, .invokestatic 50377035, 3), (14, .ifCond .eq 49, 3), (17, .aload 0, 1), (18, .getfield 88, 3), (21, .iconst 40, 2), (23, .if_icmp .ne 49, 3), (26, .aload 0, 1), (27, .invokestatic 50377036, 3), (30, .ifCond .eq 49, 3), (33, .aload 0, 1), (34, .invokestatic 50475333, 3), (37, .ifCond .eq 49, 3), (40, .aload 0, 1), (41, .getfield 88, 3), (44, .iconst 44, 2), (46, .if_icmp .eq 51, 3), (49, .iconst 0, 1), (50, .ireturn, 1), (51, .aload 0, 1), (52, .invokestatic 50397518, 3), (55, .aload 0, 1), (56, .invokestatic 50475333, 3), (59, .ifCond .eq 71, 3), (62, .aload 0, 1), (63, .iconst 41, 2), (65, .invokestatic 50410061, 3), (68, .ifCond .ne 73, 3), (71, .iconst 0, 1), (72, .ireturn, 1), (73, .aload 0, 1), (74, .getfield 108584, 3), (77, .iload 1, 1), (78, .iconst 0, 1), (79, .iload 2, 1), (80, .invokestatic 46269498, 3), (83, .iconst 1, 1), (84, .ireturn, 1)]
def jcX8_part : List (Nat × Instr × Nat) := [(0, .aload 0, 1), (1, .getfield 108584, 3), (4, .getfield 6, 3), (7, .iconst 24, 2), (9, .if_icmp .lt 14, 3), (12, .iconst 0, 1), (13, .ireturn, 1), (14, .aload 0, 1), (15, .getfield 108584, 3), (18, .dup, 1), (19, .getfield 6, 3), (22, .iconst 1, 1), (23, .iadd, 1), (24, .putfield 6, 3), (27, .aload 0, 1), (28, .invokestatic 50397518, 3), (31, .iconst 1, 1), (32, .ireturn, 1)]
def jcX8_enter : List (Nat × Instr × Nat) := [(0, .aload 0, 1), (1, .getfield 72, 3), (4, .iconst 5, 1), (5, .if_icmp .lt 10, 3), (8, .iconst 0, 1), (9, .ireturn, 1), (10, .aload 0, 1), (11, .getfield 88, 3), (14, .iconst 124, 2), (16, .if_icmp .ne 32, 3), (19, .aload 0, 1), (20, .getfield 108584, 3), (23, .dup, 1), (24, .getfield 6, 3), (27, .iconst 1, 1), (28, .iadd, 1), (29, .putfield 6, 3), (32, .aload 0, 1), (33, .dup, 1), (34, .getfield 72, 3), (37, .iconst 1, 1), (38, .iadd, 1), (39, .putfield 72, 3), (42, .aload 0, 1), (43, .invokestatic 50397518, 3), (46, .iconst 1, 1), (47, .ireturn, 1)]
def jcX8_leave : List (Nat × Instr × Nat) := [(0, .aload 0, 1), (1, .getfield 88, 3), (4, .iload 1, 1), (5, .if_icmp .eq 10, 3), (8, .iconst 0, 1), (9, .ireturn, 1), (10, .aload 0, 1), (11, .dup, 1), (12, .getfield 72, 3), (15, .iconst 1, 1), (16, .isub, 1), (17, .putfield 72, 3), (20, .aload 0, 1), (21, .invokestatic 50397518, 3), (24, .iconst 1, 1), (25, .ireturn, 1)]
def jcX8_step : List (Nat × Instr × Nat) := [(0, .aload 0, 1), (1, .getfield 56, 3), (4, .aload 0, 1), (5, .getfield 24, 3), (8, .if_icmp .ge 38, 3), (11, .aload 0, 1), (12, .getfield 32212787208, 3), (15, .aload 0, 1), (16, .getfield 56, 3), (19, .iaload, 1), (20, .iconst 32, 2), (22, .if_icmp .ne 38, 3), (25, .aload 0, 1), (26, .dup, 1), (27, .getfield 56, 3), (30, .iconst 1, 1), (31, .iadd, 1), (32, .putfield 56, 3), (35, .goto 0, 3), (38, .aload 0, 1), (39, .aload 0, 1), (40, .getfield 56, 3), (43, .putfield 104, 3), (46, .aload 0, 1), (47, .getfield 56, 3), (50, .aload 0, 1), (51, .getfield 24, 3), (54, .if_icmp .lt 63, 3), (57, .aload 0, 1), (58, .iconst 0, 1), (59, .putfield 88, 3), (62, .return_, 1), (63, .aload 0, 1), (64, .getfield 32212787208, 3), (67, .aload 0, 1), (68, .getfield 56, 3), (71, .iaload, 1), (72, .istore 1, 1), (73, .aload 0, 1), (74, .dup, 1), (75, .getfield 56, 3), (78, .iconst 1, 1), (79, .iadd, 1), (80, .putfield 56, 3), (83, .iload 1, 1), (84, .invokestatic 16822611, 3), (87, .ifCond .eq 98, 3), (90, .aload 0, 1), (91, .iload 1, 1), (92, .invokestatic 50430543, 3), (95, .goto 129, 3), (98, .iload 1, 1), (99, .invokestatic 16822612, 3), (102, .ifCond .eq 113, 3), (105, .aload 0, 1), (106, .iload 1, 1), (107, .invokestatic 50397778, 3), (110, .goto 129, 3), (113, .aload 0, 1), (114, .iload 1, 1), (115, .invokestatic 16822613, 3), (118, .ifCond .eq 125, 3), (121, .iload 1, 1), (122, .goto 126, 3), (125, .iconst 3, 1), (126, .putfield 88, 3), (129, .return_, 1)]
def jcX8_word : List (Nat × Instr × Nat) := [(0, .aload 0, 1), (1, .getfield 56, 3), (4, .aload 0, 1), (5, .getfield 24, 3), (8, .if_icmp .ge 39, 3), (11, .aload 0, 1), (12, .getfield 32212787208, 3), (15, .aload 0, 1), (16, .getfield 56, 3), (19, .iaload, 1), (20, .invokestatic 16822611, 3), (23, .ifCond .eq 39, 3), (26, .aload 0, 1), (27, .dup, 1), (28, .getfield 56, 3), (31, .iconst 1, 1), (32, .iadd, 1), (33, .putfield 56, 3), (36, .goto 0, 3), (39, .aload 0, 1), (40, .getfield 56, 3), (43, .aload 0, 1), (44, .getfield 104, 3), (47, .isub, 1), (48, .istore 2, 1), (49, .iload 2, 1), (50, .iconst 1, 1), (51, .if_icmp .ne 62, 3), (54, .aload 0, 1), (55, .iload 1, 1), (56, .invokestatic 50397776, 3), (59, .goto 102, 3), (62, .iload 2, 1), (63, .iconst 3, 1), (64, .if_icmp .ne 97, 3), (67, .aload 0, 1), (68, .iload 1, 1), (69, .aload 0, 1), (70, .getfield 32212787208, 3), (73, .aload 0, 1), (74, .getfield 104, 3), (77, .iconst 1, 1), (78, .iadd, 1), (79, .iaload, 1), (80, .aload 0, 1), (81, .getfield 32212787208, 3), (84, .aload 0, 1), (85, .getfield 104, 3), (88, .iconst 2, 1), (89, .iadd, 1), (90, .iaload, 1), (91, .invokestatic 50463825, 3), (94, .goto 102, 3), (97, .aload 0, 1), (98, .iconst 3, 1), (99, .putfield 88, 3), (102, .return_, 1)]
def jcX8_nameOfOne : List (Nat × Instr × Nat) := [(0, .aload 0, 1), (1, .iconst 1, 1), (2, .putfield 88, 3), (5, .iload 1, 1), (6, .iconst 99, 2), (8, .if_icmp .gt 27, 3), (11, .aload 0, 1), (12, .iconst 2, 1), (13, .putfield 120, 3), (16, .aload 0, 1), (17, .iload 1, 1), (18, .iconst 97, 2), (20, .isub, 1), (21, .putfield 136, 3), (24, .goto 82, 3), (27, .iload 1, 1), (28, .iconst 120, 2), (30, .if_icmp .lt 49, 3), (33, .aload 0, 1), (34, .iconst 3, 1), (35, .putfield 120, 3), (38, .aload 0, 1), (39, .iload 1, 1), (40, .iconst 120, 2), (42, .isub, 1), (43, .putfield 136, 3), (46, .goto 82, 3), (49, .iload 1, 1), (50, .iconst 112, 2), (52, .if_icmp .lt 77, 3), (55, .iload 1, 1), (56, .iconst 115, 2), (58, .if_icmp .gt 77, 3), (61, .aload 0, 1), (62, .iconst 4, 1), (63, .putfield 120, 3), (66, .aload 0, 1), (67, .iload 1, 1), (68, .iconst 112, 2), (70, .isub, 1), (71, .putfield 136, 3), (74, .goto 82, 3), (77, .aload 0, 1), (78, .iconst 3, 1), (79, .putfield 88, 3), (82, .return_, 1)]
def jcX8_nameOfThree : List (Nat × Instr × Nat) := [(0, .aload 0, 1), (1, .iconst 2, 1), (2, .putfield 88, 3), (5, .iload 1, 1), (6, .iconst 109, 2), (8, .if_icmp .ne 32, 3), (11, .iload 2, 1), (12, .iconst 105, 2), (14, .if_icmp .ne 32, 3), (17, .iload 3, 1), (18, .iconst 110, 2), (20, .if_icmp .ne 32, 3), (23, .aload 0, 1), (24, .iconst 10, 2), (26, .putfield 120, 3), (29, .goto 118, 3), (32, .iload 1, 1), (33, .iconst 109, 2), (35, .if_icmp .ne 59, 3), (38, .iload 2, 1), (39, .iconst 97, 2), (41, .if_icmp .ne 59, 3), (44, .iload 3, 1), (45, .iconst 120, 2), (47, .if_icmp .ne 59, 3), (50, .aload 0, 1), (51, .iconst 11, 2), (53, .putfield 120, 3), (56, .goto 118, 3), (59, .iload 1, 1), (60, .iconst 100, 2), (62, .if_icmp .ne 86, 3), (65, .iload 2, 1), (66, .iconst 105, 2), (68, .if_icmp .ne 86, 3), (71, .iload 3, 1), (72, .iconst 118, 2), (74, .if_icmp .ne 86, 3), (77, .aload 0, 1), (78, .iconst 12, 2), (80, .putfield 120, 3), (83, .goto 118, 3), (86, .iload 1, 1), (87, .iconst 109, 2), (89, .if_icmp .ne 113, 3), (92, .iload 2, 1), (93, .iconst 111, 2), (95, .if_icmp .ne 113, 3), (98, .iload 3, 1), (99, .iconst 100, 2), (101, .if_icmp .ne 113, 3), (104, .aload 0, 1), (105, .iconst 13, 2), (107, .putfield 120, 3), (110, .goto 118, 3), (113, .aload 0, 1), (114, .iconst 3, 1), (115, .putfield 88, 3), (118, .return_, 1)]
def jcX8_digits : List (Nat × Instr × Nat) := [(0, .aload 0, 1), (1, .iconst 1, 1), (2, .putfield 88, 3), (5, .aload 0, 1), (6, .iconst 1, 1), (7, .putfield 120, 3), (10, .aload 0, 1), (11, .iload 1, 1), (12, .iconst 48, 2), (14, .isub, 1), (15, .putfield 136, 3), (18, .aload 0, 1), (19, .getfield 56, 3), (22, .aload 0, 1), (23, .getfield 24, 3), (26, .if_icmp .ge 81, 3), (29, .aload 0, 1), (30, .getfield 32212787208, 3), (33, .aload 0, 1), (34, .getfield 56, 3), (37, .iaload, 1), (38, .invokestatic 16822612, 3), (41, .ifCond .eq 81, 3), (44, .aload 0, 1), (45, .aload 0, 1), (46, .getfield 136, 3), (49, .iconst 10, 2), (51, .imul, 1), (52, .aload 0, 1), (53, .getfield 32212787208, 3), (56, .aload 0, 1), (57, .getfield 56, 3), (60, .iaload, 1), (61, .iadd, 1), (62, .iconst 48, 2), (64, .isub, 1), (65, .putfield 136, 3), (68, .aload 0, 1), (69, .dup, 1), (70, .getfield 56, 3), (73, .iconst 1, 1), (74, .iadd, 1), (75, .putfield 56, 3), (78, .goto 18, 3), (81, .aload 0, 1), (82, .getfield 56, 3), (85, .aload 0, 1), (86, .getfield 104, 3), (89, .isub, 1), (90, .iconst 4, 1), (91, .if_icmp .le 99, 3), (94, .aload 0, 1), (95, .iconst 3, 1), (96, .putfield 88, 3), (99, .return_, 1)]
def jcX8_isLetter : List (Nat × Instr × Nat) := [(0, .iload 0, 1), (1, .iconst 97, 2), (3, .if_icmp .lt 16, 3), (6, .iload 0, 1), (7, .iconst 122, 2), (9, .if_icmp .gt 16, 3), (12, .iconst 1, 1), (13, .goto 17, 3), (16, .iconst 0, 1), (17, .ireturn, 1)]
def jcX8_isDigit : List (Nat × Instr × Nat) := [(0, .iload 0, 1), (1, .iconst 48, 2), (3, .if_icmp .lt 16, 3), (6, .iload 0, 1), (7, .iconst 57, 2), (9, .if_icmp .gt 16, 3), (12, .iconst 1, 1), (13, .goto 17, 3), (16, .iconst 0, 1), (17, .ireturn, 1)]
def jcX8_isSign : List (Nat × Instr × Nat) := [(0, .iload 0, 1), (1, .lookupswitch 94 #[(40, 92), (41, 92), (42, 92), (43, 92), (44, 92), (45, 92), (58, 92), (60, 92), (63, 92), (124, 92)], 91), (92, .iconst 1, 1), (93, .ireturn, 1), (94, .iconst 0, 1), (95, .ireturn, 1)]
def jcX9_init : List (Nat × Instr × Nat) := [(0, .aload 0, 1), (1, .pop, 3), (4, .aload 0, 1), (5, .iconst 160, 3), (8, .newarray .long, 2), (10, .putfield 85899894793, 3), (13, .aload 0, 1), (14, .iconst 4, 1), (15, .newarray .int, 2), (17, .putfield 2148540441, 3), (20, .aload 0, 1), (21, .iconst 0, 1), (22, .putfield 41, 3), (25, .aload 0, 1), (26, .iconst (-1), 1), (27, .putfield 57, 3), (30, .aload 0, 1), (31, .iconst 0, 1), (32, .putfield 73, 3), (35, .aload 0, 1), (36, .iconst (-1), 1), (37, .putfield 89, 3), (40, .aload 0, 1), (41, .iconst (-1), 1), (42, .putfield 105, 3), (45, .return_, 1)]
def jcX9_burdenOf : List (Nat × Instr × Nat) := [(0, .aload 1, 1), (1, .getfield 34360811568, 3), (4, .iload 2, 1), (5, .laload, 1), (6, .sipush (-1), 3), (9, .multianewarray 0 20, 4), (13, .aload 1, 1), (14, .getfield 34360811568, 3), (17, .iload 2, 1), (18, .laload, 1), (19, .lreturn, 1), (20, .aload 0, 1), (21, .aload 1, 1), (22, .iconst 0, 1), (23, .iload 2, 1), (24, .iconst 0, 1), (25, .invokestatic 52929880, 3), (28, .lstore 3, 1), (29, .lload 3, 1), (30, .sipush (-4611686018427387904), 3), (33, .multianewarray 1 43, 4), (37, .sipush (-4611686018427387904), 3), (40, .goto 48, 3), (43, .lload 3, 1), (44, .sipush 0, 1), (45, .invokestatic 297935605, 3), (48, .lreturn, 1)]
def jcX9_read : List (Nat × Instr × Nat) := [(0, .iload 4, 2), (2, .iconst 4, 1), (3, .if_icmp .lt 10, 3), (6, .sipush (-4611686018427387904), 3), (9, .lreturn, 1), (10, .aload 0, 1), (11, .getfield 2148540441, 3), (14, .iload 4, 2), (16, .iload 2, 1), (17, .iastore, 1), (18, .aload 1, 1), (19, .getfield 2149621840, 3), (22, .iload 2, 1), (23, .aaload, 1), (24, .astore 5, 2), (26, .iload 4, 2), (28, .iconst 40, 2), (30, .imul, 1), (31, .istore 6, 2), (33, .aload 0, 1), (34, .getfield 85899894793, 3), (37, .iload 6, 2), (39, .sipush 0, 1), (40, .lastore, 1), (41, .iload 6, 2), (43, .istore 7, 2), (45, .iconst 0, 1), (46, .istore 8, 2), (48, .iconst 0, 1), (49, .istore 9, 2), (51, .iload 9, 2), (53, .aload 5, 2), (55, .getfield 22, 3), (58, .if_icmp .ge 370, 3), (61, .iload 8, 2), (63, .aload 5, 2), (65, .getfield 22, 3), (68, .if_icmp .ge 370, 3), (71, .aload 5, 2), (73, .getfield 21475368998, 3), (76, .iload 8, 2), (78, .iaload, 1), (79, .istore 10, 2), (81, .aload 5, 2), (83, .getfield 21475893302, 3), (86, .iload 8, 2), (88, .iaload, 1), (89, .istore 11, 2), (91, .aload 5, 2), (93, .getfield 21476417606, 3), (96, .iload 8, 2), (98, .iaload, 1), (99, .istore 12, 2), (101, .iinc 8 1, 3), (104, .iload 10, 2), (106, .iconst 4, 1), (107, .if_icmp .gt 171, 3), (110, .aload 0, 1), (111, .getfield 85899894793, 3), (114, .iload 7, 2), (116, .iload 10, 2), (118, .iconst 4, 1), (119, .if_icmp .ne 137, 3), (122, .aload 0, 1), (123, .aload 1, 1), (124, .iload 11, 2), (126, .iload 3, 1), (127, .iload 4, 2), (129, .iconst 1, 1), (130, .iadd, 1), (131, .invokestatic 52929880, 3), (134, .goto 146, 3), (137, .aload 1, 1), (138, .iload 10, 2), (140, .iload 11, 2), (142, .iload 3, 1), (143, .invokestatic 19047513, 3), (146, .lastore, 1), (147, .aload 0, 1), (148, .getfield 85899894793, 3), (151, .iload 7, 2), (153, .laload, 1), (154, .sipush (-4611686018427387904), 3), (157, .multianewarray 1 165, 4), (161, .sipush (-4611686018427387904), 3), (164, .lreturn, 1), (165, .iinc 7 1, 3), (168, .goto 364, 3), (171, .iload 10, 2), (173, .iconst 15, 2), (175, .if_icmp .ne 185, 3), (178, .iload 11, 2), (180, .istore 8, 2), (182, .goto 364, 3), (185, .iload 10, 2), (187, .iconst 5, 1), (188, .if_icmp .ne 213, 3), (191, .aload 0, 1), (192, .getfield 85899894793, 3), (195, .iload 7, 2), (197, .iconst 1, 1), (198, .isub, 1), (199, .aload 0, 1), (200, .getfield 85899894793, 3), (203, .iload 7, 2), (205, .iconst 1, 1), (206, .isub, 1), (207, .laload, 1), (208, .lneg, 1), (209, .lastore, 1), (210, .goto 364, 3), (213, .iload 10, 2), (215, .iconst 6, 2), (217, .if_icmp .ne 244, 3), (220, .aload 0, 1), (221, .getfield 85899894793, 3), (224, .iload 7, 2), (226, .iconst 1, 1), (227, .isub, 1), (228, .aload 0, 1), (229, .getfield 85899894793, 3), (232, .iload 7, 2), (234, .iconst 1, 1), (235, .isub, 1), (236, .laload, 1), (237, .invokestatic 297869812, 3), (240, .lastore, 1), (241, .goto 364, 3), (244, .iload 10, 2), (246, .iconst 14, 2), (248, .if_icmp .ne 286, 3), (251, .iinc 7 (-2), 3), (254, .aload 0, 1), (255, .getfield 85899894793, 3), (258, .iload 7, 2), (260, .laload, 1), (261, .aload 0, 1), (262, .getfield 85899894793, 3), (265, .iload 7, 2), (267, .iconst 1, 1), (268, .iadd, 1), (269, .laload, 1), (270, .multianewarray 3 279, 4), (274, .iload 8, 2), (276, .goto 281, 3), (279, .iload 11, 2), (281, .istore 8, 2), (283, .goto 364, 3), (286, .iinc 7 (-1), 3), (289, .iload 10, 2), (291, .aload 0, 1), (292, .getfield 85899894793, 3), (295, .iload 7, 2), (297, .iconst 1, 1), (298, .isub, 1), (299, .laload, 1), (300, .aload 0, 1), (301, .getfield 85899894793, 3), (304, .iload 7, 2), (306, .laload, 1), (307, .invokestatic 19047258, 3), (310, .lstore 13, 2), (312, .lload 13, 2), (314, .sipush (-1000000000), 3), (317, .multianewarray 2 330, 4), (321, .lload 13, 2), (323, .sipush 1000000000, 3), (326, .multianewarray 5 353, 4), (330, .aload 0, 1), (331, .lload 13, 2), (333, .sipush (-4611686018427387904), 3), (336, .multianewarray 1 344, 4), (340, .iconst 1, 1), (341, .goto 345, 3), (344, .iconst 2, 1), (345, .iload 12, 2), (347, .iload 4, 2), (349, .invokestatic 52569179, 3), (352, .lreturn, 1), (353, .aload 0, 1), (354, .getfield 85899894793, 3), (357, .iload 7, 2), (359, .iconst 1, 1), (360, .isub, 1), (361, .lload 13, 2), (363, .lastore, 1), (364, .iinc 9 1, 3), (367, .goto 51, 3), (370, .aload 0, 1), (371, .getfield 85899894793, 3), (374, .iload 6, 2), (376, .laload, 1), (377, .lreturn, 1)]
def jcX9_leaf : List (Nat × Instr × Nat) := [(0, .iload 1, 1), (1, .iconst 1, 1), (2, .if_icmp .ne 8, 3), (5, .iload 2, 1), (6, .i2l, 1), (7, .lreturn, 1), (8, .iload 1, 1), (9, .iconst 2, 1), (10, .if_icmp .ne 20, 3), (13, .iload 3, 1), (14, .iconst 8, 2), (16, .idiv, 1), (17, .goto 27, 3), (20, .iconst 8, 2), (22, .iload 3, 1), (23, .iconst 8, 2), (25, .irem, 1), (26, .iadd, 1), (27, .istore 4, 2), (29, .aload 0, 1), (30, .getfield 25770336288, 3), (33, .iload 4, 2), (35, .iconst 3, 1), (36, .imul, 1), (37, .iload 2, 1), (38, .iadd, 1), (39, .iaload, 1), (40, .i2l, 1), (41, .lreturn, 1)]
def jcX9_join : List (Nat × Instr × Nat) := [(0, .iload 0, 1), (1, .tableswitch 60 7 11 #[36, 40, 44, 48, 54], 35), (36, .lload 1, 1), (37, .lload 3, 1), (38, .ladd, 1), (39, .lreturn, 1), (40, .lload 1, 1), (41, .lload 3, 1), (42, .lsub, 1), (43, .lreturn, 1), (44, .lload 1, 1), (45, .lload 3, 1), (46, .lmul, 1), (47, .lreturn, 1), (48, .lload 1, 1), (49, .lload 3, 1), (50, .invokestatic 297935606, 3), (53, .lreturn, 1), (54, .lload 1, 1), (55, .lload 3, 1), (56, .invokestatic 297935605, 3), (59, .lreturn, 1), (60, .lload 3, 1), (61, .sipush 0, 1), (62, .multianewarray 1 70, 4), (66, .sipush (-4611686018427387904), 3), (69, .lreturn, 1), (70, .iload 0, 1), (71, .iconst 12, 2), (73, .if_icmp .ne 84, 3), (76, .lload 1, 1), (77, .lload 3, 1), (78, .invokestatic 298001138, 3), (81, .goto 89, 3), (84, .lload 1, 1), (85, .lload 3, 1), (86, .invokestatic 298001139, 3), (89, .lreturn, 1)]
def jcX9_fail : List (Nat × Instr × Nat) := [(0, .aload 0, 1), (1, .iload 1, 1), (2, .putfield 41, 3), (5, .aload 0, 1), (6, .iload 2, 1), (7, .putfield 57, 3), (10, .aload 0, 1), (11, .iload 3, 1), (12, .iconst 1, 1), (13, .iadd, 1), (14, .putfield 73, 3), (17, .aload 0, 1), (18, .aload 0, 1), (19, .getfield 2148540441, 3), (22, .iload 3, 1), (23, .iaload, 1), (24, .putfield 89, 3), (27, .aload 0, 1), (28, .iload 3, 1), (29, .ifCond .le 43, 3), (32, .aload 0, 1), (33, .getfield 2148540441, 3), (36, .iload 3, 1), (37, .iconst 1, 1), (38, .isub, 1), (39, .iaload, 1), (40, .goto 44, 3), (43, .iconst (-1), 1), (44, .putfield 105, 3), (47, .sipush (-4611686018427387904), 3), (50, .lreturn, 1)]
def jcX10_init : List (Nat × Instr × Nat) := [(0, .aload 0, 1), (1, .pop, 3), (4, .aload 0, 1), (5, .new 0, 3), (8, .dup, 1), (9, .invokestatic 11475681536, 3), (12, .putfield 530442, 3), (15, .aload 0, 1), (16, .new 0, 3), (19, .dup, 1), (20, .invokestatic 11475681536, 3), (23, .putfield 12064794, 3), (26, .aload 0, 1), (27, .iconst 0, 1), (28, .putfield 4138, 3), (31, .aload 0, 1), (32, .new 8, 3), (35, .dup, 1), (36, .invokestatic 2902491458, 3), (39, .putfield 23730234, 3), (42, .aload 0, 1), (43, .new 9, 3), (46, .dup, 1), (47, .invokestatic 1293975894, 3), (50, .putfield 26892362, 3), (53, .aload 0, 1), (54, .new 4, 3), (57, .dup, 1), (58, .invokestatic 3967844634, 3), (61, .putfield 28383322, 3), (64, .aload 0, 1), (65, .new 4, 3), (68, .dup, 1), (69, .invokestatic 3967844634, 3), (72, .putfield 32577642, 3), (75, .aload 0, 1), (76, .new 2, 3), (79, .dup, 1), (80, .invokestatic 2353037582, 3), (83, .putfield 36739194, 3), (86, .aload 0, 1), (87, .new 5, 3), (90, .dup, 1), (91, .invokestatic 2896199983, 3), (94, .putfield 39409802, 3), (97, .aload 0, 1), (98, .new 3, 3), (101, .dup, 1), (102, .invokestatic 3965747475, 3), (105, .putfield 42522778, 3), (108, .aload 0, 1), (109, .new 1, 3), (112, .dup, 1), (113, .invokestatic 2350940427, 3), (116, .putfield 46684330, 3), (119, .aload 0, 1), (120, .iconst 8, 2), (122, .newarray .int, 2), (124, .putfield 4344258746, 3), (127, .aload 0, 1), (128, .iconst 0, 1), (129, .putfield 4298, 3), (132, .aload 0, 1), (133, .iconst 0, 1), (134, .putfield 4314, 3), (137, .aload 0, 1), (138, .iconst 0, 1), (139, .putfield 4330, 3), (142, .aload 0, 1), (143, .iconst 0, 1), (144, .putfield 4346, 3), (147, .aload 0, 1), (148, .iconst 4, 1), (149, .anewarray 3, 3), (152, .putfield 2197348618, 3), (155, .iconst 0, 1), (156, .istore 1, 1), (157, .iload 1, 1), (158, .iconst 4, 1), (159, .if_icmp .ge 181, 3), (162, .aload 0, 1), (163, .getfield 2197348618, 3), (166, .iload 1, 1), (167, .new 7, 3), (170, .dup, 1), (171, .invokestatic 752910654, 3), (174, .aastore, 1), (175, .iinc 1 1, 3), (178, .goto 157, 3), (181, .return_, 1)]
def jcX10_here : List (Nat × Instr × Nat) := [(0, .iload 1, 1), (1, .invokestatic 21016961, 3), (4, .ifCond .eq 23, 3), (7, .iload 2, 1), (8, .invokestatic 21016962, 3), (11, .ifCond .eq 23, 3), (14, .iload 3, 1), (15, .ifCond .lt 23, 3), (18, .iload 3, 1), (19, .iconst 1, 1), (20, .if_icmp .le 26, 3), (23, .iconst (-2), 2), (25, .ireturn, 1), (26, .aload 0, 1), (27, .invokestatic 54559110, 3), (30, .aload 0, 1), (31, .getfield 530442, 3), (34, .iload 1, 1), (35, .iload 2, 1), (36, .iload 3, 1), (37, .invokestatic 33756162, 3), (40, .ireturn, 1)]
def jcX10_trait : List (Nat × Instr × Nat) := [(0, .iload 1, 1), (1, .invokestatic 21016961, 3), (4, .ifCond .eq 23, 3), (7, .iload 2, 1), (8, .invokestatic 21016962, 3), (11, .ifCond .eq 23, 3), (14, .iload 3, 1), (15, .ifCond .lt 23, 3), (18, .iload 3, 1), (19, .iconst 3, 1), (20, .if_icmp .lt 26, 3), (23, .iconst (-2), 2), (25, .ireturn, 1), (26, .iload 4, 2), (28, .iconst (-999), 3), (31, .if_icmp .lt 42, 3), (34, .iload 4, 2), (36, .iconst 999, 3), (39, .if_icmp .le 45, 3), (42, .iconst (-2), 2), (44, .ireturn, 1), (45, .iload 1, 1), (46, .iconst 8, 2), (48, .imul, 1), (49, .iload 2, 1), (50, .iadd, 1), (51, .iconst 3, 1), (52, .imul, 1), (53, .iload 3, 1), (54, .iadd, 1), (55, .istore 5, 2), (57, .aload 0, 1), (58, .getfield 530442, 3), (61, .getfield 25770336288, 3), (64, .iload 5, 2), (66, .iaload, 1), (67, .istore 6, 2), (69, .aload 0, 1), (70, .getfield 530442, 3), (73, .getfield 25770336288, 3), (76, .iload 5, 2), (78, .iload 4, 2), (80, .iastore, 1), (81, .aload 0, 1), (82, .invokestatic 54559110, 3), (85, .iload 6, 2), (87, .ireturn, 1)]
def jcX10_tell : List (Nat × Instr × Nat) := [(0, .iload 1, 1), (1, .iload 2, 1), (2, .invokestatic 21049987, 3), (5, .ifCond .eq 24, 3), (8, .lload 3, 1), (9, .sipush (-1), 3), (12, .multianewarray 2 24, 4), (16, .lload 3, 1), (17, .sipush 1000000000, 3), (20, .multianewarray 5 28, 4), (24, .sipush (-2), 3), (27, .lreturn, 1), (28, .aload 0, 1), (29, .getfield 530442, 3), (32, .getfield 34360811568, 3), (35, .iload 1, 1), (36, .iconst 8, 2), (38, .imul, 1), (39, .iload 2, 1), (40, .iadd, 1), (41, .lload 3, 1), (42, .lastore, 1), (43, .aload 0, 1), (44, .invokestatic 54559110, 3), (47, .aload 0, 1), (48, .invokestatic 54559111, 3), (51, .aload 0, 1), (52, .getfield 28383322, 3), (55, .getfield 137441075300, 3), (58, .iconst 0, 1), (59, .laload, 1), (60, .lreturn, 1)]
def jcX10_burden : List (Nat × Instr × Nat) := [(0, .iload 1, 1), (1, .iload 2, 1), (2, .invokestatic 21049987, 3), (5, .ifCond .ne 12, 3), (8, .sipush (-4611686018427387904), 3), (11, .lreturn, 1), (12, .aload 0, 1), (13, .getfield 26892362, 3), (16, .aload 0, 1), (17, .getfield 530442, 3), (20, .iload 1, 1), (21, .iconst 8, 2), (23, .imul, 1), (24, .iload 2, 1), (25, .iadd, 1), (26, .invokestatic 52601687, 3), (29, .lreturn, 1)]
def jcX10_mark : List (Nat × Instr × Nat) := [(0, .iload 1, 1), (1, .iload 2, 1), (2, .invokestatic 21049987, 3), (5, .ifCond .eq 17, 3), (8, .iload 3, 1), (9, .ifCond .lt 17, 3), (12, .iload 3, 1), (13, .iconst 2, 1), (14, .if_icmp .le 20, 3), (17, .iconst (-2), 2), (19, .ireturn, 1), (20, .iload 1, 1), (21, .iconst 8, 2), (23, .imul, 1), (24, .iload 2, 1), (25, .iadd, 1), (26, .istore 4, 2), (28, .iload 3, 1), (29, .iconst 2, 1), (30, .if_icmp .ne 48, 3), (33, .aload 0, 1), (34, .getfield 530442, 3), (37, .iload 4, 2), (39, .invokestatic 33698308, 3), (42, .ifCond .eq 48, 3), (45, .iconst (-3), 2), (47, .ireturn, 1), (48, .aload 0, 1), (49, .getfield 530442, 3), (52, .getfield 34361319488, 3), (55, .iload 4, 2), (57, .iaload, 1), (58, .istore 5, 2), (60, .aload 0, 1), (61, .getfield 530442, 3), (64, .getfield 34361319488, 3), (67, .iload 4, 2), (69, .iload 3, 1), (70, .iastore, 1), (71, .aload 0, 1), (72, .invokestatic 54559110, 3), (75, .iload 5, 2), (77, .ireturn, 1)]
def jcX10_open : List (Nat × Instr × Nat) := [(0, .iload 1, 1), (1, .iload 2, 1), (2, .invokestatic 21049987, 3), (5, .ifCond .ne 11, 3), (8, .iconst (-2), 2), (10, .ireturn, 1), (11, .aload 0, 1), (12, .invokestatic 54559111, 3), (15, .aload 0, 1), (16, .getfield 28383322, 3), (19, .iload 1, 1), (20, .iload 2, 1), (21, .invokestatic 42054431, 3), (24, .ifCond .eq 31, 3), (27, .iconst 1, 1), (28, .goto 32, 3), (31, .iconst 0, 1), (32, .ireturn, 1)]
def jcX10_feed : List (Nat × Instr × Nat) := [(0, .iload 1, 1), (1, .ifCond .lt 11, 3), (4, .iload 1, 1), (5, .iconst 255, 3), (8, .if_icmp .le 14, 3), (11, .iconst (-2), 2), (13, .ireturn, 1), (14, .aload 0, 1), (15, .getfield 23730234, 3), (18, .iload 1, 1), (19, .invokestatic 50410051, 3), (22, .ifCond .eq 35, 3), (25, .aload 0, 1), (26, .getfield 23730234, 3), (29, .getfield 24, 3), (32, .goto 37, 3), (35, .iconst (-4), 2), (37, .ireturn, 1)]
def jcX10_text : List (Nat × Instr × Nat) := [(0, .iload 1, 1), (1, .invokestatic 21016964, 3), (4, .ifCond .ne 10, 3), (7, .iconst (-2), 2), (9, .ireturn, 1), (10, .aload 0, 1), (11, .getfield 23730234, 3), (14, .invokestatic 50368836, 3), (17, .istore 2, 1), (18, .aload 0, 1), (19, .getfield 23730234, 3), (22, .iconst 0, 1), (23, .putfield 24, 3), (26, .iload 2, 1), (27, .iconst (-1), 1), (28, .if_icmp .eq 36, 3), (31, .iconst (-100), 2), (33, .iload 2, 1), (34, .isub, 1), (35, .ireturn, 1), (36, .aload 0, 1), (37, .getfield 530442, 3), (40, .getfield 2149621840, 3), (43, .iload 1, 1), (44, .aaload, 1), (45, .astore 3, 1), (46, .aload 0, 1), (47, .getfield 530442, 3), (50, .getfield 2149621840, 3), (53, .iload 1, 1), (54, .aload 0, 1), (55, .getfield 23730234, 3), (58, .getfield 108584, 3), (61, .aastore, 1), (62, .aload 0, 1), (63, .getfield 530442, 3), (66, .iload 1, 1), (67, .invokestatic 33657354, 3), (70, .istore 4, 2), (72, .iload 4, 2), (74, .ifCond .eq 90, 3), (77, .aload 0, 1), (78, .getfield 530442, 3), (81, .getfield 2149621840, 3), (84, .iload 1, 1), (85, .aload 3, 1), (86, .aastore, 1), (87, .iload 4, 2), (89, .ireturn, 1), (90, .aload 0, 1), (91, .getfield 23730234, 3), (94, .aload 3, 1), (95, .putfield 108584, 3), (98, .aload 0, 1), (99, .invokestatic 54559110, 3), (102, .aload 0, 1), (103, .getfield 530442, 3), (106, .getfield 2149621840, 3), (109, .iload 1, 1), (110, .aaload, 1), (111, .getfield 6, 3), (114, .ireturn, 1)]
def jcX10_empty : List (Nat × Instr × Nat) := [(0, .iload 1, 1), (1, .invokestatic 21016964, 3), (4, .ifCond .ne 10, 3), (7, .iconst (-2), 2), (9, .ireturn, 1), (10, .aload 0, 1), (11, .getfield 530442, 3), (14, .getfield 2149621840, 3), (17, .iload 1, 1), (18, .aaload, 1), (19, .getfield 6, 3), (22, .istore 2, 1), (23, .aload 0, 1), (24, .getfield 530442, 3), (27, .getfield 2149621840, 3), (30, .iload 1, 1), (31, .aaload, 1), (32, .invokestatic 46170424, 3), (35, .aload 0, 1), (36, .invokestatic 54559110, 3), (39, .iload 2, 1), (40, .ireturn, 1)]
def jcX10_told : List (Nat × Instr × Nat) := [(0, .iload 1, 1), (1, .invokestatic 21016964, 3), (4, .ifCond .ne 10, 3), (7, .iconst (-2), 2), (9, .ireturn, 1), (10, .iload 2, 1), (11, .tableswitch 105 0 4 #[44, 57, 74, 87, 96], 33), (44, .aload 0, 1), (45, .getfield 530442, 3), (48, .getfield 2149621840, 3), (51, .iload 1, 1), (52, .aaload, 1), (53, .getfield 6, 3), (56, .ireturn, 1), (57, .aload 0, 1), (58, .getfield 530442, 3), (61, .invokestatic 33653001, 3), (64, .aload 0, 1), (65, .getfield 530442, 3), (68, .getfield 2150113376, 3), (71, .iload 1, 1), (72, .iaload, 1), (73, .ireturn, 1), (74, .aload 0, 1), (75, .getfield 530442, 3), (78, .getfield 2149621840, 3), (81, .iload 1, 1), (82, .aaload, 1), (83, .invokestatic 46240060, 3), (86, .ireturn, 1), (87, .aload 0, 1), (88, .getfield 530442, 3), (91, .iload 1, 1), (92, .invokestatic 33690119, 3), (95, .ireturn, 1), (96, .aload 0, 1), (97, .getfield 530442, 3), (100, .iload 1, 1), (101, .invokestatic 33722888, 3), (104, .ireturn, 1), (105, .iconst (-2), 2), (107, .ireturn, 1)]
def jcX10_value : List (Nat × Instr × Nat) := [(0, .iload 1, 1), (1, .invokestatic 21016964, 3), (4, .ifCond .eq 15, 3), (7, .iload 2, 1), (8, .iload 3, 1), (9, .invokestatic 21049987, 3), (12, .ifCond .ne 19, 3), (15, .sipush (-4611686018427387904), 3), (18, .lreturn, 1), (19, .aload 0, 1), (20, .getfield 26892362, 3), (23, .aload 0, 1), (24, .getfield 530442, 3), (27, .iload 1, 1), (28, .iload 2, 1), (29, .iconst 8, 2), (31, .imul, 1), (32, .iload 3, 1), (33, .iadd, 1), (34, .iconst 0, 1), (35, .invokestatic 52929880, 3), (38, .lreturn, 1)]
def jcX10_why : List (Nat × Instr × Nat) := [(0, .iload 1, 1), (1, .iload 2, 1), (2, .invokestatic 21049987, 3), (5, .ifCond .eq 17, 3), (8, .iload 3, 1), (9, .ifCond .lt 17, 3), (12, .iload 3, 1), (13, .iconst 4, 1), (14, .if_icmp .le 20, 3), (17, .iconst (-2), 2), (19, .ireturn, 1), (20, .aload 0, 1), (21, .getfield 26892362, 3), (24, .aload 0, 1), (25, .getfield 530442, 3), (28, .iconst 0, 1), (29, .iload 1, 1), (30, .iconst 8, 2), (32, .imul, 1), (33, .iload 2, 1), (34, .iadd, 1), (35, .iconst 0, 1), (36, .invokestatic 52929880, 3), (39, .sipush (-4611686018427387904), 3), (42, .multianewarray 1 50, 4), (46, .iconst 1, 1), (47, .goto 51, 3), (50, .iconst 0, 1), (51, .istore 4, 2), (53, .iload 4, 2), (55, .ifCond .ne 68, 3), (58, .iload 3, 1), (59, .ifCond .ne 66, 3), (62, .iconst 0, 1), (63, .goto 67, 3), (66, .iconst (-1), 1), (67, .ireturn, 1), (68, .iload 3, 1), (69, .tableswitch 132 0 3 #[100, 108, 116, 124], 31), (100, .aload 0, 1), (101, .getfield 26892362, 3), (104, .getfield 41, 3), (107, .ireturn, 1), (108, .aload 0, 1), (109, .getfield 26892362, 3), (112, .getfield 57, 3), (115, .ireturn, 1), (116, .aload 0, 1), (117, .getfield 26892362, 3), (120, .getfield 73, 3), (123, .ireturn, 1), (124, .aload 0, 1), (125, .getfield 26892362, 3), (128, .getfield 89, 3), (131, .ireturn, 1), (132, .aload 0, 1), (133, .getfield 26892362, 3), (136, .getfield 105, 3), (139, .ireturn, 1)]
def jcX10_solve : List (Nat × Instr × Nat) := [(0, .aload 0, 1), (1, .invokestatic 54559111, 3), (4, .aload 0, 1), (5, .getfield 39409802, 3), (8, .aload 0, 1), (9, .getfield 28383322, 3), (12, .aload 0, 1), (13, .getfield 36739194, 3), (16, .invokestatic 44270384, 3), (19, .aload 0, 1), (20, .getfield 39409802, 3), (23, .getfield 5, 3), (26, .ireturn, 1)]
def jcX10_round : List (Nat × Instr × Nat) := [(0, .iload 2, 1), (1, .ifCond .lt 25, 3), (4, .iload 2, 1), (5, .iconst 6, 2), (7, .if_icmp .ge 25, 3), (10, .iload 1, 1), (11, .ifCond .lt 25, 3), (14, .iload 1, 1), (15, .aload 0, 1), (16, .getfield 39409802, 3), (19, .getfield 5, 3), (22, .if_icmp .lt 29, 3), (25, .sipush (-4611686018427387904), 3), (28, .lreturn, 1), (29, .aload 0, 1), (30, .getfield 39409802, 3), (33, .getfield 206158979093, 3), (36, .iload 1, 1), (37, .iconst 6, 2), (39, .imul, 1), (40, .iload 2, 1), (41, .iadd, 1), (42, .laload, 1), (43, .lreturn, 1)]
def jcX10_price : List (Nat × Instr × Nat) := [(0, .iload 2, 1), (1, .invokestatic 21016961, 3), (4, .ifCond .eq 29, 3), (7, .iload 3, 1), (8, .invokestatic 21016962, 3), (11, .ifCond .eq 29, 3), (14, .iload 1, 1), (15, .ifCond .lt 29, 3), (18, .iload 1, 1), (19, .aload 0, 1), (20, .getfield 39409802, 3), (23, .getfield 5, 3), (26, .if_icmp .lt 33, 3), (29, .sipush (-4611686018427387904), 3), (32, .lreturn, 1), (33, .aload 0, 1), (34, .getfield 39409802, 3), (37, .getfield 549756887077, 3), (40, .iload 1, 1), (41, .iconst 2, 1), (42, .imul, 1), (43, .iload 2, 1), (44, .iadd, 1), (45, .iconst 8, 2), (47, .imul, 1), (48, .iload 3, 1), (49, .iadd, 1), (50, .laload, 1), (51, .lreturn, 1)]
def jcX10_total : List (Nat × Instr × Nat) := [(0, .aload 0, 1), (1, .invokestatic 54559111, 3), (4, .aload 0, 1), (5, .getfield 28383322, 3), (8, .getfield 137441075300, 3), (11, .iconst 0, 1), (12, .laload, 1), (13, .lreturn, 1)]
def jcX10_many : List (Nat × Instr × Nat) := [(0, .aload 0, 1), (1, .invokestatic 54559111, 3), (4, .aload 0, 1), (5, .getfield 28383322, 3), (8, .getfield 137441583220, 3), (11, .iconst 0, 1), (12, .iaload, 1), (13, .ireturn, 1)]
def jcX10_best : List (Nat × Instr × Nat) := [(0, .iload 2, 1), (1, .invokestatic 21016962, 3), (4, .ifCond .ne 10, 3), (7, .iconst (-2), 2), (9, .ireturn, 1), (10, .aload 0, 1), (11, .invokestatic 54559111, 3), (14, .iload 1, 1), (15, .ifCond .lt 31, 3), (18, .iload 1, 1), (19, .aload 0, 1), (20, .getfield 28383322, 3), (23, .getfield 137441583220, 3), (26, .iconst 0, 1), (27, .iaload, 1), (28, .if_icmp .lt 34, 3), (31, .iconst (-3), 2), (33, .ireturn, 1), (34, .aload 0, 1), (35, .getfield 28383322, 3), (38, .iload 1, 1), (39, .aload 0, 1), (40, .getfield 4344258746, 3), (43, .invokestatic 42238761, 3), (46, .aload 0, 1), (47, .getfield 4344258746, 3), (50, .iload 2, 1), (51, .iaload, 1), (52, .ireturn, 1)]
def jcX10_kind : List (Nat × Instr × Nat) := [(0, .iload 1, 1), (1, .iload 2, 1), (2, .invokestatic 21049987, 3), (5, .ifCond .ne 11, 3), (8, .iconst (-2), 2), (10, .ireturn, 1), (11, .aload 0, 1), (12, .invokestatic 54559112, 3), (15, .aload 0, 1), (16, .getfield 28383322, 3), (19, .getfield 137441583220, 3), (22, .iconst 0, 1), (23, .iaload, 1), (24, .istore 3, 1), (25, .iload 3, 1), (26, .ifCond .ne 32, 3), (29, .iconst (-3), 2), (31, .ireturn, 1), (32, .aload 0, 1), (33, .getfield 28383322, 3), (36, .getfield 34363416724, 3), (39, .iload 1, 1), (40, .iconst 8, 2), (42, .imul, 1), (43, .iload 2, 1), (44, .iadd, 1), (45, .iaload, 1), (46, .istore 4, 2), (48, .iload 4, 2), (50, .ifCond .ne 55, 3), (53, .iconst 0, 1), (54, .ireturn, 1), (55, .iload 4, 2), (57, .iload 3, 1), (58, .if_icmp .ne 65, 3), (61, .iconst 2, 1), (62, .goto 66, 3), (65, .iconst 1, 1), (66, .ireturn, 1)]
def jcX10_room : List (Nat × Instr × Nat) := [(0, .iload 1, 1), (1, .iload 2, 1), (2, .invokestatic 21049987, 3), (5, .ifCond .eq 17, 3), (8, .iload 3, 1), (9, .ifCond .lt 17, 3), (12, .iload 3, 1), (13, .iconst 1, 1), (14, .if_icmp .le 21, 3), (17, .sipush (-4611686018427387904), 3), (20, .lreturn, 1), (21, .aload 0, 1), (22, .invokestatic 54559111, 3), (25, .iload 3, 1), (26, .ifCond .ne 45, 3), (29, .aload 0, 1), (30, .getfield 28383322, 3), (33, .iload 1, 1), (34, .iload 2, 1), (35, .invokestatic 42054431, 3), (38, .ifCond .ne 45, 3), (41, .sipush (-4611686018427387904), 3), (44, .lreturn, 1), (45, .aload 0, 1), (46, .getfield 32577642, 3), (49, .aload 0, 1), (50, .getfield 28383322, 3), (53, .invokestatic 42009116, 3), (56, .iconst 1, 1), (57, .iload 1, 1), (58, .ishl, 1), (59, .istore 4, 2), (61, .iload 3, 1), (62, .ifCond .ne 79, 3), (65, .aload 0, 1), (66, .getfield 32577642, 3), (69, .getfield 4296548436, 3), (72, .iload 2, 1), (73, .iload 4, 2), (75, .iastore, 1), (76, .goto 95, 3), (79, .aload 0, 1), (80, .getfield 32577642, 3), (83, .getfield 4296548436, 3), (86, .iload 2, 1), (87, .dup2, 1), (88, .iaload, 1), (89, .iload 4, 2), (91, .iconst (-1), 1), (92, .ixor, 1), (93, .iand, 1), (94, .iastore, 1), (95, .aload 0, 1), (96, .getfield 32577642, 3), (99, .iconst 0, 1), (100, .invokestatic 42074660, 3), (103, .aload 0, 1), (104, .getfield 32577642, 3), (107, .getfield 137441075300, 3), (110, .iconst 0, 1), (111, .laload, 1), (112, .lreturn, 1)]
def jcX10_next : List (Nat × Instr × Nat) := [(0, .iload 1, 1), (1, .ifCond .lt 21, 3), (4, .iload 1, 1), (5, .iconst 12, 2), (7, .if_icmp .ge 21, 3), (10, .iload 2, 1), (11, .iconst (-1), 1), (12, .if_icmp .lt 21, 3), (15, .iload 2, 1), (16, .iconst 8, 2), (18, .if_icmp .lt 25, 3), (21, .sipush (-4611686018427387904), 3), (24, .lreturn, 1), (25, .aload 0, 1), (26, .invokestatic 54559113, 3), (29, .iload 1, 1), (30, .aload 0, 1), (31, .getfield 42522778, 3), (34, .getfield 137439485955, 3), (37, .iconst 0, 1), (38, .iaload, 1), (39, .if_icmp .lt 46, 3), (42, .sipush (-4611686018427387904), 3), (45, .lreturn, 1), (46, .iload 2, 1), (47, .iconst (-1), 1), (48, .if_icmp .ne 63, 3), (51, .aload 0, 1), (52, .getfield 42522778, 3), (55, .getfield 1649268514835, 3), (58, .iload 1, 1), (59, .laload, 1), (60, .goto 78, 3), (63, .aload 0, 1), (64, .getfield 42522778, 3), (67, .getfield 51543285859, 3), (70, .iload 1, 1), (71, .iconst 8, 2), (73, .imul, 1), (74, .iload 2, 1), (75, .iadd, 1), (76, .iaload, 1), (77, .i2l, 1), (78, .lreturn, 1)]
def jcX10_fair : List (Nat × Instr × Nat) := [(0, .iload 1, 1), (1, .ifCond .lt 9, 3), (4, .iload 1, 1), (5, .iconst 2, 1), (6, .if_icmp .le 13, 3), (9, .sipush (-4611686018427387904), 3), (12, .lreturn, 1), (13, .aload 0, 1), (14, .invokestatic 54559111, 3), (17, .aload 0, 1), (18, .getfield 32577642, 3), (21, .aload 0, 1), (22, .getfield 28383322, 3), (25, .invokestatic 42009116, 3), (28, .aload 0, 1), (29, .getfield 32577642, 3), (32, .iconst 1, 1), (33, .invokestatic 42074660, 3), (36, .aload 0, 1), (37, .getfield 32577642, 3), (40, .getfield 137441075300, 3), (43, .iconst 0, 1), (44, .laload, 1), (45, .lstore 2, 1), (46, .lload 2, 1), (47, .sipush (-4611686018427387904), 3), (50, .multianewarray 0 58, 4), (54, .iload 1, 1), (55, .ifCond .ne 60, 3), (58, .lload 2, 1), (59, .lreturn, 1), (60, .iload 1, 1), (61, .iconst 2, 1), (62, .if_icmp .ne 75, 3), (65, .aload 0, 1), (66, .getfield 28383322, 3), (69, .lload 2, 1), (70, .invokestatic 42111523, 3), (73, .i2l, 1), (74, .lreturn, 1), (75, .aload 0, 1), (76, .getfield 32577642, 3), (79, .lload 2, 1), (80, .invokestatic 42074658, 3), (83, .aload 0, 1), (84, .getfield 32577642, 3), (87, .iconst 0, 1), (88, .invokestatic 42074660, 3), (91, .aload 0, 1), (92, .getfield 32577642, 3), (95, .getfield 137441075300, 3), (98, .iconst 0, 1), (99, .laload, 1), (100, .lreturn, 1)]
def jcX10_days : List (Nat × Instr × Nat) := [(0, .iload 1, 1), (1, .iconst 1, 1), (2, .if_icmp .lt 11, 3), (5, .iload 1, 1), (6, .iconst 8, 2), (8, .if_icmp .le 15, 3), (11, .sipush (-4611686018427387904), 3), (14, .lreturn, 1), (15, .aload 0, 1), (16, .invokestatic 54559114, 3), (19, .iload 1, 1), (20, .aload 0, 1), (21, .getfield 46684330, 3), (24, .getfield 1, 3), (27, .if_icmp .le 34, 3), (30, .sipush (-4611686018427387904), 3), (33, .lreturn, 1), (34, .sipush 0, 1), (35, .lstore 2, 1), (36, .iconst 0, 1), (37, .istore 4, 2), (39, .iload 4, 2), (41, .iload 1, 1), (42, .if_icmp .ge 64, 3), (45, .lload 2, 1), (46, .aload 0, 1), (47, .getfield 46684330, 3), (50, .getfield 4295516177, 3), (53, .iload 4, 2), (55, .laload, 1), (56, .ladd, 1), (57, .lstore 2, 1), (58, .iinc 4 1, 3), (61, .goto 39, 3), (64, .lload 2, 1), (65, .lreturn, 1)]
def jcX10_day : List (Nat × Instr × Nat) := [(0, .iload 1, 1), (1, .ifCond .lt 17, 3), (4, .iload 1, 1), (5, .iconst 8, 2), (7, .if_icmp .ge 17, 3), (10, .iload 2, 1), (11, .invokestatic 21016962, 3), (14, .ifCond .ne 20, 3), (17, .iconst (-2), 2), (19, .ireturn, 1), (20, .aload 0, 1), (21, .invokestatic 54559114, 3), (24, .iload 1, 1), (25, .aload 0, 1), (26, .getfield 46684330, 3), (29, .getfield 1, 3), (32, .if_icmp .lt 38, 3), (35, .iconst (-3), 2), (37, .ireturn, 1), (38, .aload 0, 1), (39, .getfield 46684330, 3), (42, .getfield 34360795169, 3), (45, .iload 1, 1), (46, .iconst 8, 2), (48, .imul, 1), (49, .iload 2, 1), (50, .iadd, 1), (51, .iaload, 1), (52, .ireturn, 1)]
def jcX10_lack : List (Nat × Instr × Nat) := [(0, .iload 1, 1), (1, .ifCond .lt 9, 3), (4, .iload 1, 1), (5, .iconst 2, 1), (6, .if_icmp .le 12, 3), (9, .iconst (-2), 2), (11, .ireturn, 1), (12, .aload 0, 1), (13, .invokestatic 54559111, 3), (16, .aload 0, 1), (17, .getfield 36739194, 3), (20, .aload 0, 1), (21, .getfield 28383322, 3), (24, .getfield 4296548436, 3), (27, .aload 0, 1), (28, .getfield 28383322, 3), (31, .getfield 4, 3), (34, .invokestatic 37880591, 3), (37, .iload 1, 1), (38, .ifCond .ne 57, 3), (41, .aload 0, 1), (42, .getfield 28383322, 3), (45, .getfield 20, 3), (48, .aload 0, 1), (49, .getfield 36739194, 3), (52, .getfield 2, 3), (55, .isub, 1), (56, .ireturn, 1), (57, .iload 1, 1), (58, .iconst 1, 1), (59, .if_icmp .ne 72, 3), (62, .aload 0, 1), (63, .getfield 36739194, 3), (66, .getfield 18, 3), (69, .goto 79, 3), (72, .aload 0, 1), (73, .getfield 36739194, 3), (76, .getfield 34, 3), (79, .ireturn, 1)]
def jcX10_without : List (Nat × Instr × Nat) := [(0, .iload 1, 1), (1, .invokestatic 21016961, 3), (4, .ifCond .eq 14, 3), (7, .iload 2, 1), (8, .invokestatic 21016962, 3), (11, .ifCond .ne 18, 3), (14, .sipush (-4611686018427387904), 3), (17, .lreturn, 1), (18, .aload 0, 1), (19, .invokestatic 54559111, 3), (22, .aload 0, 1), (23, .getfield 32577642, 3), (26, .aload 0, 1), (27, .getfield 28383322, 3), (30, .invokestatic 42009116, 3), (33, .iload 1, 1), (34, .ifCond .ne 48, 3), (37, .aload 0, 1), (38, .getfield 32577642, 3), (41, .iload 2, 1), (42, .invokestatic 42041889, 3), (45, .goto 65, 3), (48, .aload 0, 1), (49, .getfield 32577642, 3), (52, .dup, 1), (53, .getfield 4, 3), (56, .iconst 1, 1), (57, .iload 2, 1), (58, .ishl, 1), (59, .iconst (-1), 1), (60, .ixor, 1), (61, .iand, 1), (62, .putfield 4, 3), (65, .aload 0, 1), (66, .getfield 32577642, 3), (69, .iconst 0, 1), (70, .invokestatic 42074660, 3), (73, .aload 0, 1), (74, .getfield 32577642, 3), (77, .getfield 137441075300, 3), (80, .iconst 0, 1), (81, .laload, 1), (82, .lreturn, 1)]
def jcX10_tells : List (Nat × Instr × Nat) := [(0, .iload 1, 1), (1, .invokestatic 21016965, 3), (4, .ifCond .eq 16, 3), (7, .iload 2, 1), (8, .ifCond .lt 16, 3), (11, .iload 2, 1), (12, .iconst 2, 1), (13, .if_icmp .le 20, 3), (16, .sipush (-2), 3), (19, .lreturn, 1), (20, .aload 0, 1), (21, .getfield 2197348618, 3), (24, .iload 1, 1), (25, .aaload, 1), (26, .getfield 7, 3), (29, .iconst (-1), 1), (30, .if_icmp .ne 37, 3), (33, .sipush (-11), 3), (36, .lreturn, 1), (37, .aload 0, 1), (38, .invokestatic 54559111, 3), (41, .aload 0, 1), (42, .getfield 28383322, 3), (45, .aload 0, 1), (46, .getfield 2197348618, 3), (49, .iload 1, 1), (50, .aaload, 1), (51, .aload 0, 1), (52, .getfield 4344258746, 3), (55, .invokestatic 42251052, 3), (58, .ifCond .ne 65, 3), (61, .sipush (-3), 3), (64, .lreturn, 1), (65, .iload 2, 1), (66, .ifCond .ne 81, 3), (69, .aload 0, 1), (70, .getfield 28383322, 3), (73, .aload 0, 1), (74, .getfield 4344258746, 3), (77, .invokestatic 42148397, 3), (80, .lreturn, 1), (81, .iload 2, 1), (82, .iconst 1, 1), (83, .if_icmp .ne 103, 3), (86, .aload 0, 1), (87, .invokestatic 54559113, 3), (90, .aload 0, 1), (91, .getfield 42522778, 3), (94, .aload 0, 1), (95, .getfield 4344258746, 3), (98, .invokestatic 40014361, 3), (101, .i2l, 1), (102, .lreturn, 1), (103, .aload 0, 1), (104, .invokestatic 54559112, 3), (107, .aload 0, 1), (108, .getfield 28383322, 3), (111, .aload 0, 1), (112, .getfield 4344258746, 3), (115, .invokestatic 42111534, 3), (118, .i2l, 1), (119, .lreturn, 1)]
def jcX10_film : List (Nat × Instr × Nat) := [(0, .iload 1, 1), (1, .invokestatic 21016965, 3), (4, .ifCond .ne 10, 3), (7, .iconst (-2), 2), (9, .ireturn, 1), (10, .aload 0, 1), (11, .invokestatic 54559111, 3), (14, .iload 2, 1), (15, .ifCond .lt 31, 3), (18, .iload 2, 1), (19, .aload 0, 1), (20, .getfield 28383322, 3), (23, .getfield 137441583220, 3), (26, .iconst 0, 1), (27, .iaload, 1), (28, .if_icmp .lt 34, 3), (31, .iconst (-3), 2), (33, .ireturn, 1), (34, .aload 0, 1), (35, .getfield 28383322, 3), (38, .iload 2, 1), (39, .aload 0, 1), (40, .getfield 4344258746, 3), (43, .invokestatic 42238761, 3), (46, .aload 0, 1), (47, .getfield 2197348618, 3), (50, .iload 1, 1), (51, .aaload, 1), (52, .astore 3, 1), (53, .aload 3, 1), (54, .iconst 0, 1), (55, .aload 0, 1), (56, .getfield 28383322, 3), (59, .getfield 20, 3), (62, .invokestatic 48333631, 3), (65, .iconst 0, 1), (66, .istore 4, 2), (68, .iload 4, 2), (70, .aload 0, 1), (71, .getfield 28383322, 3), (74, .getfield 20, 3), (77, .if_icmp .ge 108, 3), (80, .aload 3, 1), (81, .iload 4, 2), (83, .aload 0, 1), (84, .getfield 4344258746, 3), (87, .aload 0, 1), (88, .getfield 28383322, 3), (91, .getfield 4295499812, 3), (94, .iload 4, 2), (96, .iaload, 1), (97, .iaload, 1), (98, .i2l, 1), (99, .invokestatic 48366401, 3), (102, .iinc 4 1, 3), (105, .goto 68, 3), (108, .aload 0, 1), (109, .getfield 28383322, 3), (112, .getfield 20, 3), (115, .ireturn, 1)]
def jcX10_image : List (Nat × Instr × Nat) := [(0, .aload 0, 1), (1, .getfield 12064794, 3), (4, .aload 0, 1), (5, .getfield 530442, 3), (8, .invokestatic 33653249, 3), (11, .aload 0, 1), (12, .iconst 1, 1), (13, .putfield 4138, 3), (16, .aload 0, 1), (17, .invokestatic 54559111, 3), (20, .aload 0, 1), (21, .getfield 28383322, 3), (24, .invokestatic 42045728, 3), (27, .ireturn, 1)]
def jcX10_back : List (Nat × Instr × Nat) := [(0, .aload 0, 1), (1, .getfield 4138, 3), (4, .ifCond .ne 10, 3), (7, .iconst (-3), 2), (9, .ireturn, 1), (10, .aload 0, 1), (11, .getfield 530442, 3), (14, .aload 0, 1), (15, .getfield 12064794, 3), (18, .invokestatic 33653249, 3), (21, .aload 0, 1), (22, .invokestatic 54559110, 3), (25, .aload 0, 1), (26, .invokestatic 54559111, 3), (29, .aload 0, 1), (30, .getfield 28383322, 3), (33, .invokestatic 42045728, 3), (36, .ireturn, 1)]
def jcX10_count : List (Nat × Instr × Nat) := [(0, .iload 1, 1), (1, .tableswitch 124 0 7 #[48, 59, 70, 82, 91, 100, 108, 116], 47), (48, .aload 0, 1), (49, .getfield 530442, 3), (52, .getfield 0, 3), (55, .invokestatic 295735793, 3), (58, .ireturn, 1), (59, .aload 0, 1), (60, .getfield 530442, 3), (63, .getfield 16, 3), (66, .invokestatic 295735793, 3), (69, .ireturn, 1), (70, .aload 0, 1), (71, .invokestatic 54559111, 3), (74, .aload 0, 1), (75, .getfield 28383322, 3), (78, .invokestatic 42045728, 3), (81, .ireturn, 1), (82, .aload 0, 1), (83, .getfield 530442, 3), (86, .iconst 2, 1), (87, .invokestatic 33690117, 3), (90, .ireturn, 1), (91, .aload 0, 1), (92, .getfield 530442, 3), (95, .iconst 1, 1), (96, .invokestatic 33690117, 3), (99, .ireturn, 1), (100, .aload 0, 1), (101, .getfield 530442, 3), (104, .invokestatic 33657094, 3), (107, .ireturn, 1), (108, .aload 0, 1), (109, .getfield 39409802, 3), (112, .getfield 5, 3), (115, .ireturn, 1), (116, .aload 0, 1), (117, .getfield 23730234, 3), (120, .getfield 24, 3), (123, .ireturn, 1), (124, .iconst (-2), 2), (126, .ireturn, 1)]
def jcX10_sheet : List (Nat × Instr × Nat) := [(0, .iload 1, 1), (1, .invokestatic 21016965, 3), (4, .ifCond .eq 17, 3), (7, .iload 2, 1), (8, .iconst (-1), 1), (9, .if_icmp .lt 17, 3), (12, .iload 2, 1), (13, .iconst 2, 1), (14, .if_icmp .le 20, 3), (17, .iconst (-2), 2), (19, .ireturn, 1), (20, .iload 2, 1), (21, .iconst (-1), 1), (22, .if_icmp .eq 34, 3), (25, .iload 3, 1), (26, .iconst 40, 2), (28, .if_icmp .le 34, 3), (31, .iconst (-2), 2), (33, .ireturn, 1), (34, .iload 2, 1), (35, .iconst (-1), 1), (36, .if_icmp .eq 46, 3), (39, .iload 3, 1), (40, .ifCond .ge 46, 3), (43, .iconst (-14), 2), (45, .ireturn, 1), (46, .aload 0, 1), (47, .getfield 2197348618, 3), (50, .iload 1, 1), (51, .aaload, 1), (52, .iload 2, 1), (53, .iload 2, 1), (54, .iconst (-1), 1), (55, .if_icmp .ne 62, 3), (58, .iconst 0, 1), (59, .goto 63, 3), (62, .iload 3, 1), (63, .invokestatic 48333631, 3), (66, .iconst 1, 1), (67, .ireturn, 1)]
def jcX10_put : List (Nat × Instr × Nat) := [(0, .iload 1, 1), (1, .invokestatic 21016965, 3), (4, .ifCond .ne 10, 3), (7, .iconst (-2), 2), (9, .ireturn, 1), (10, .aload 0, 1), (11, .getfield 2197348618, 3), (14, .iload 1, 1), (15, .aaload, 1), (16, .astore 5, 2), (18, .aload 5, 2), (20, .getfield 7, 3), (23, .iconst (-1), 1), (24, .if_icmp .ne 30, 3), (27, .iconst (-11), 2), (29, .ireturn, 1), (30, .aload 5, 2), (32, .iload 2, 1), (33, .iconst 1, 1), (34, .invokestatic 48345920, 3), (37, .ifCond .ne 43, 3), (40, .iconst (-12), 2), (42, .ireturn, 1), (43, .aload 5, 2), (45, .iload 2, 1), (46, .lload 3, 1), (47, .invokestatic 48366401, 3), (50, .iconst 1, 1), (51, .ireturn, 1)]
def jcX10_item : List (Nat × Instr × Nat) := [(0, .iload 1, 1), (1, .invokestatic 21016965, 3), (4, .ifCond .ne 11, 3), (7, .sipush (-4611686018427387904), 3), (10, .lreturn, 1), (11, .aload 0, 1), (12, .getfield 2197348618, 3), (15, .iload 1, 1), (16, .aaload, 1), (17, .astore 3, 1), (18, .aload 3, 1), (19, .getfield 7, 3), (22, .iconst (-1), 1), (23, .if_icmp .eq 44, 3), (26, .aload 3, 1), (27, .iload 2, 1), (28, .iconst 1, 1), (29, .invokestatic 48345920, 3), (32, .ifCond .eq 44, 3), (35, .aload 3, 1), (36, .getfield 21475385383, 3), (39, .iload 2, 1), (40, .laload, 1), (41, .goto 47, 3), (44, .sipush (-4611686018427387904), 3), (47, .lreturn, 1)]
def jcX10_copy : List (Nat × Instr × Nat) := [(0, .iload 1, 1), (1, .invokestatic 21016965, 3), (4, .ifCond .eq 14, 3), (7, .iload 3, 1), (8, .invokestatic 21016965, 3), (11, .ifCond .ne 17, 3), (14, .iconst (-2), 2), (16, .ireturn, 1), (17, .aload 0, 1), (18, .getfield 2197348618, 3), (21, .iload 1, 1), (22, .aaload, 1), (23, .astore 6, 2), (25, .aload 0, 1), (26, .getfield 2197348618, 3), (29, .iload 3, 1), (30, .aaload, 1), (31, .astore 7, 2), (33, .aload 6, 2), (35, .getfield 7, 3), (38, .iconst (-1), 1), (39, .if_icmp .eq 51, 3), (42, .aload 7, 2), (44, .getfield 7, 3), (47, .iconst (-1), 1), (48, .if_icmp .ne 54, 3), (51, .iconst (-11), 2), (53, .ireturn, 1), (54, .aload 6, 2), (56, .getfield 7, 3), (59, .aload 7, 2), (61, .getfield 7, 3), (64, .if_icmp .eq 70, 3), (67, .iconst (-13), 2), (69, .ireturn, 1), (70, .aload 6, 2), (72, .iload 2, 1), (73, .iload 5, 2), (75, .invokestatic 48345920, 3), (78, .ifCond .eq 93, 3), (81, .aload 7, 2), (83, .iload 4, 2), (85, .iload 5, 2), (87, .invokestatic 48345920, 3), (90, .ifCond .ne 96, 3), (93, .iconst (-12), 2), (95, .ireturn, 1), (96, .aload 6, 2), (98, .getfield 21475385383, 3), (101, .iload 2, 1), (102, .aload 7, 2), (104, .getfield 21475385383, 3), (107, .iload 4, 2), (109, .iload 5, 2), (111, .swap, 3), (114, .iload 5, 2), (116, .ireturn, 1)]
def jcX10_lay : List (Nat × Instr × Nat) := [(0, .iload 1, 1), (1, .invokestatic 21016965, 3), (4, .ifCond .eq 36, 3), (7, .iload 2, 1), (8, .invokestatic 21016962, 3), (11, .ifCond .eq 36, 3), (14, .iload 3, 1), (15, .ifCond .lt 36, 3), (18, .iload 3, 1), (19, .iconst 2, 1), (20, .if_icmp .gt 36, 3), (23, .iload 5, 2), (25, .iconst 1, 1), (26, .if_icmp .lt 36, 3), (29, .iload 5, 2), (31, .iconst 8, 2), (33, .if_icmp .le 39, 3), (36, .iconst (-2), 2), (38, .ireturn, 1), (39, .aload 0, 1), (40, .getfield 2197348618, 3), (43, .iload 1, 1), (44, .aaload, 1), (45, .astore 6, 2), (47, .aload 6, 2), (49, .getfield 7, 3), (52, .iconst (-1), 1), (53, .if_icmp .eq 68, 3), (56, .aload 6, 2), (58, .getfield 7, 3), (61, .iload 3, 1), (62, .if_icmp .eq 68, 3), (65, .iconst (-13), 2), (67, .ireturn, 1), (68, .aload 6, 2), (70, .getfield 7, 3), (73, .iconst (-1), 1), (74, .if_icmp .ne 80, 3), (77, .iconst (-11), 2), (79, .ireturn, 1), (80, .aload 6, 2), (82, .iload 4, 2), (84, .iload 5, 2), (86, .invokestatic 48345920, 3), (89, .ifCond .ne 95, 3), (92, .iconst (-12), 2), (94, .ireturn, 1), (95, .iconst 0, 1), (96, .istore 7, 2), (98, .iload 7, 2), (100, .iload 5, 2), (102, .if_icmp .ge 144, 3), (105, .aload 0, 1), (106, .getfield 530442, 3), (109, .getfield 34360811568, 3), (112, .iload 2, 1), (113, .iconst 8, 2), (115, .imul, 1), (116, .iload 7, 2), (118, .iadd, 1), (119, .aload 6, 2), (121, .getfield 21475385383, 3), (124, .iload 4, 2), (126, .iload 7, 2), (128, .iadd, 1), (129, .laload, 1), (130, .sipush 1000000000, 3), (133, .lrem, 1), (134, .invokestatic 297869812, 3), (137, .lastore, 1), (138, .iinc 7 1, 3), (141, .goto 98, 3), (144, .aload 0, 1), (145, .invokestatic 54559110, 3), (148, .iload 5, 2), (150, .ireturn, 1)]
def jcX10_isSide : List (Nat × Instr × Nat) := [(0, .iload 0, 1), (1, .ifCond .eq 9, 3), (4, .iload 0, 1), (5, .iconst 1, 1), (6, .if_icmp .ne 13, 3), (9, .iconst 1, 1), (10, .goto 14, 3), (13, .iconst 0, 1), (14, .ireturn, 1)]
def jcX10_isSeat : List (Nat × Instr × Nat) := [(0, .iload 0, 1), (1, .ifCond .lt 14, 3), (4, .iload 0, 1), (5, .iconst 8, 2), (7, .if_icmp .ge 14, 3), (10, .iconst 1, 1), (11, .goto 15, 3), (14, .iconst 0, 1), (15, .ireturn, 1)]
def jcX10_isPair : List (Nat × Instr × Nat) := [(0, .iload 0, 1), (1, .invokestatic 21016962, 3), (4, .ifCond .eq 18, 3), (7, .iload 1, 1), (8, .invokestatic 21016962, 3), (11, .ifCond .eq 18, 3), (14, .iconst 1, 1), (15, .goto 19, 3), (18, .iconst 0, 1), (19, .ireturn, 1)]
def jcX10_isRule : List (Nat × Instr × Nat) := [(0, .iload 0, 1), (1, .ifCond .lt 13, 3), (4, .iload 0, 1), (5, .iconst 4, 1), (6, .if_icmp .ge 13, 3), (9, .iconst 1, 1), (10, .goto 14, 3), (13, .iconst 0, 1), (14, .ireturn, 1)]
def jcX10_isSheet : List (Nat × Instr × Nat) := [(0, .iload 0, 1), (1, .ifCond .lt 13, 3), (4, .iload 0, 1), (5, .iconst 4, 1), (6, .if_icmp .ge 13, 3), (9, .iconst 1, 1), (10, .goto 14, 3), (13, .iconst 0, 1), (14, .ireturn, 1)]
def jcX10_changed : List (Nat × Instr × Nat) := [(0, .aload 0, 1), (1, .iconst 0, 1), (2, .putfield 4298, 3), (5, .aload 0, 1), (6, .iconst 0, 1), (7, .putfield 4314, 3), (10, .aload 0, 1), (11, .iconst 0, 1), (12, .putfield 4330, 3), (15, .aload 0, 1), (16, .iconst 0, 1), (17, .putfield 4346, 3), (20, .return_, 1)]
def jcX10_refreshPlan : List (Nat × Instr × Nat) := [(0, .aload 0, 1), (1, .getfield 4298, 3), (4, .ifCond .ne 35, 3), (7, .aload 0, 1), (8, .getfield 28383322, 3), (11, .aload 0, 1), (12, .getfield 530442, 3), (15, .aload 0, 1), (16, .getfield 26892362, 3), (19, .invokestatic 42074907, 3), (22, .aload 0, 1), (23, .getfield 28383322, 3), (26, .iconst 0, 1), (27, .invokestatic 42074660, 3), (30, .aload 0, 1), (31, .iconst 1, 1), (32, .putfield 4298, 3), (35, .return_, 1)]
def jcX10_refreshShares : List (Nat × Instr × Nat) := [(0, .aload 0, 1), (1, .invokestatic 54559111, 3), (4, .aload 0, 1), (5, .getfield 4314, 3), (8, .ifCond .ne 23, 3), (11, .aload 0, 1), (12, .getfield 28383322, 3), (15, .invokestatic 42041642, 3), (18, .aload 0, 1), (19, .iconst 1, 1), (20, .putfield 4314, 3), (23, .return_, 1)]
def jcX10_refreshNextOnes : List (Nat × Instr × Nat) := [(0, .aload 0, 1), (1, .invokestatic 54559111, 3), (4, .aload 0, 1), (5, .getfield 4330, 3), (8, .ifCond .ne 27, 3), (11, .aload 0, 1), (12, .getfield 42522778, 3), (15, .aload 0, 1), (16, .getfield 28383322, 3), (19, .invokestatic 39977492, 3), (22, .aload 0, 1), (23, .iconst 1, 1), (24, .putfield 4330, 3), (27, .return_, 1)]
def jcX10_refreshDiary : List (Nat × Instr × Nat) := [(0, .aload 0, 1), (1, .invokestatic 54559111, 3), (4, .aload 0, 1), (5, .getfield 4346, 3), (8, .ifCond .ne 38, 3), (11, .aload 0, 1), (12, .getfield 46684330, 3), (15, .aload 0, 1), (16, .getfield 28383322, 3), (19, .aload 0, 1), (20, .getfield 32577642, 3), (23, .aload 0, 1), (24, .getfield 530442, 3), (27, .getfield 34361319488, 3), (30, .invokestatic 35849228, 3), (33, .aload 0, 1), (34, .iconst 1, 1), (35, .putfield 4346, 3), (38, .return_, 1)]
def jcX11_in : List (Nat × Instr × Nat) := [(0, .lload 0, 1), (1, .lload 2, 1), (2, .multianewarray 2 17, 4), (6, .lload 0, 1), (7, .lload 4, 2), (9, .multianewarray 4 17, 4), (13, .iconst 1, 1), (14, .goto 18, 3), (17, .iconst 0, 1), (18, .ireturn, 1)]
def jcX11_init : List (Nat × Instr × Nat) := [(0, .aload 0, 1), (1, .pop, 3), (4, .aload 0, 1), (5, .iconst 16, 2), (7, .newarray .int, 2), (9, .putfield 8590467099, 3), (12, .aload 0, 1), (13, .iconst 48, 2), (15, .newarray .int, 2), (17, .putfield 25770860587, 3), (20, .aload 0, 1), (21, .iconst 64, 2), (23, .newarray .long, 2), (25, .putfield 34361335867, 3), (28, .aload 0, 1), (29, .iconst 64, 2), (31, .newarray .int, 2), (33, .putfield 34361843787, 3), (36, .aload 0, 1), (37, .iconst 4, 1), (38, .newarray .int, 2), (40, .putfield 2150113371, 3), (43, .aload 0, 1), (44, .iconst 4, 1), (45, .newarray .int, 2), (47, .putfield 2150637675, 3), (50, .aload 0, 1), (51, .iconst 16, 2), (53, .newarray .int, 2), (55, .putfield 8593612923, 3), (58, .aload 0, 1), (59, .iconst 96, 2), (61, .newarray .int, 2), (63, .putfield 51543810187, 3), (66, .aload 0, 1), (67, .iconst 96, 2), (69, .newarray .int, 2), (71, .putfield 51544334491, 3), (74, .aload 0, 1), (75, .iconst 96, 2), (77, .newarray .int, 2), (79, .putfield 51544858795, 3), (82, .aload 0, 1), (83, .iconst 96, 2), (85, .newarray .int, 2), (87, .putfield 51545383099, 3), (90, .aload 0, 1), (91, .iconst 96, 2), (93, .newarray .int, 2), (95, .putfield 51545907403, 3), (98, .aload 0, 1), (99, .iconst 96, 2), (101, .newarray .int, 2), (103, .putfield 51546431707, 3), (106, .aload 0, 1), (107, .iconst 96, 2), (109, .newarray .int, 2), (111, .putfield 51546956011, 3), (114, .aload 0, 1), (115, .iconst 60, 2), (117, .newarray .int, 2), (119, .putfield 32220127483, 3), (122, .aload 0, 1), (123, .iconst 24, 2), (125, .newarray .int, 2), (127, .putfield 12893299099, 3), (130, .aload 0, 1), (131, .iconst 24, 2), (133, .newarray .int, 2), (135, .putfield 12893823403, 3), (138, .aload 0, 1), (139, .iconst 24, 2), (141, .newarray .int, 2), (143, .putfield 12894347707, 3), (146, .aload 0, 1), (147, .iconst 24, 2), (149, .newarray .int, 2), (151, .putfield 12894872011, 3), (154, .aload 0, 1), (155, .iconst 24, 2), (157, .newarray .int, 2), (159, .putfield 12895396315, 3), (162, .aload 0, 1), (163, .iconst 24, 2), (165, .newarray .int, 2), (167, .putfield 12895920619, 3), (170, .aload 0, 1), (171, .iconst 24, 2), (173, .newarray .int, 2), (175, .putfield 12896444923, 3), (178, .aload 0, 1), (179, .iconst 4, 1), (180, .newarray .int, 2), (182, .putfield 2159550987, 3), (185, .aload 0, 1), (186, .iconst 64, 2), (188, .newarray .long, 2), (190, .putfield 34372346507, 3), (193, .aload 0, 1), (194, .iconst 64, 2), (196, .newarray .long, 2), (198, .putfield 34372870811, 3), (201, .aload 0, 1), (202, .iconst 2304, 3), (205, .newarray .long, 2), (207, .putfield 1236964237995, 3), (210, .aload 0, 1), (211, .iconst 2304, 3), (214, .newarray .int, 2), (216, .putfield 1236964745915, 3), (219, .aload 0, 1), (220, .iconst 8, 2), (222, .newarray .int, 2), (224, .putfield 4309656267, 3), (227, .aload 0, 1), (228, .iconst 8, 2), (230, .newarray .long, 2), (232, .putfield 4310196955, 3), (235, .aload 0, 1), (236, .iconst 13, 2), (238, .newarray .long, 2), (240, .putfield 6995075819, 3), (243, .aload 0, 1), (244, .iconst 104, 2), (246, .newarray .int, 2), (248, .putfield 55850836731, 3), (251, .aload 0, 1), (252, .iconst 2304, 3), (255, .newarray .long, 2), (257, .putfield 1236967383835, 3), (260, .aload 0, 1), (261, .iconst 8, 2), (263, .newarray .long, 2), (265, .putfield 4312294203, 3), (268, .aload 0, 1), (269, .iconst 8, 2), (271, .newarray .long, 2), (273, .putfield 4312818507, 3), (276, .aload 0, 1), (277, .iconst 120, 2), (279, .newarray .int, 2), (281, .putfield 64442868571, 3), (284, .aload 0, 1), (285, .iconst 120, 2), (287, .newarray .int, 2), (289, .putfield 64443392875, 3), (292, .aload 0, 1), (293, .iconst 120, 2), (295, .newarray .int, 2), (297, .putfield 64443917179, 3), (300, .aload 0, 1), (301, .iconst 120, 2), (303, .newarray .int, 2), (305, .putfield 64444441483, 3), (308, .aload 0, 1), (309, .iconst 120, 2), (311, .newarray .long, 2), (313, .putfield 64444982171, 3), (316, .aload 0, 1), (317, .iconst 1920, 3), (320, .newarray .long, 2), (322, .putfield 1030813148075, 3), (325, .aload 0, 1), (326, .iconst 8, 2), (328, .newarray .int, 2), (330, .putfield 4316472251, 3), (333, .aload 0, 1), (334, .iconst 8, 2), (336, .newarray .int, 2), (338, .putfield 4316996555, 3), (341, .aload 0, 1), (342, .iconst 120, 2), (344, .newarray .int, 2), (346, .putfield 64447063067, 3), (349, .aload 0, 1), (350, .iconst 64, 2), (352, .newarray .int, 2), (354, .putfield 34382816299, 3), (357, .aload 0, 1), (358, .iconst 8, 2), (360, .newarray .int, 2), (362, .putfield 4318569531, 3), (365, .aload 0, 1), (366, .iconst 16, 2), (368, .newarray .int, 2), (370, .putfield 8614061147, 3), (373, .aload 0, 1), (374, .iconst 48, 2), (376, .newarray .int, 2), (378, .putfield 25794454635, 3), (381, .aload 0, 1), (382, .iconst 64, 2), (384, .newarray .long, 2), (386, .putfield 34384929915, 3), (389, .aload 0, 1), (390, .iconst 64, 2), (392, .newarray .int, 2), (394, .putfield 34385437835, 3), (397, .aload 0, 1), (398, .iconst 4, 1), (399, .newarray .int, 2), (401, .putfield 2173707419, 3), (404, .aload 0, 1), (405, .iconst 4, 1), (406, .newarray .int, 2), (408, .putfield 2174231723, 3), (411, .aload 0, 1), (412, .iconst 16, 2), (414, .newarray .int, 2), (416, .putfield 8617206971, 3), (419, .aload 0, 1), (420, .iconst 672, 3), (423, .newarray .int, 2), (425, .putfield 360805049547, 3), (428, .aload 0, 1), (429, .iconst 4, 1), (430, .newarray .int, 2), (432, .dup, 1), (433, .iconst 0, 1), (434, .iconst (-1), 1), (435, .iastore, 1), (436, .dup, 1), (437, .iconst 1, 1), (438, .iconst (-1), 1), (439, .iastore, 1), (440, .dup, 1), (441, .iconst 2, 1), (442, .iconst (-1), 1), (443, .iastore, 1), (444, .dup, 1), (445, .iconst 3, 1), (446, .iconst (-1), 1), (447, .iastore, 1), (448, .putfield 2175804635, 3), (451, .aload 0, 1), (452, .iconst 4, 1), (453, .newarray .int, 2), (455, .putfield 2176328939, 3), (458, .aload 0, 1), (459, .iconst 160, 3), (462, .newarray .long, 2), (464, .putfield 85928731899, 3), (467, .iconst 0, 1), (468, .istore 1, 1), (469, .iload 1, 1), (470, .iconst 64, 2), (472, .if_icmp .ge 490, 3), (475, .aload 0, 1), (476, .getfield 34361335867, 3), (479, .iload 1, 1), (480, .sipush (-1), 3), (483, .lastore, 1), (484, .iinc 1 1, 3), (487, .goto 469, 3), (490, .return_, 1)]
def jcX11_isWho : List (Nat × Instr × Nat) := [(0, .iload 0, 1), (1, .i2l, 1), (2, .sipush 0, 1), (3, .sipush 1, 1), (4, .invokestatic 23278475, 3), (7, .ifCond .eq 26, 3), (10, .iload 1, 1), (11, .i2l, 1), (12, .sipush 0, 1), (13, .sipush 7, 3), (16, .invokestatic 23278475, 3), (19, .ifCond .eq 26, 3), (22, .iconst 1, 1), (23, .goto 27, 3), (26, .iconst 0, 1), (27, .ireturn, 1)]
def jcX11_isPair : List (Nat × Instr × Nat) := [(0, .iload 0, 1), (1, .i2l, 1), (2, .sipush 0, 1), (3, .sipush 7, 3), (6, .invokestatic 23278475, 3), (9, .ifCond .eq 28, 3), (12, .iload 1, 1), (13, .i2l, 1), (14, .sipush 0, 1), (15, .sipush 7, 3), (18, .invokestatic 23278475, 3), (21, .ifCond .eq 28, 3), (24, .iconst 1, 1), (25, .goto 29, 3), (28, .iconst 0, 1), (29, .ireturn, 1)]
def jcX11_isJudge : List (Nat × Instr × Nat) := [(0, .aload 0, 1), (1, .getfield 8590467099, 3), (4, .iload 1, 1), (5, .iaload, 1), (6, .iconst 1, 1), (7, .if_icmp .ne 14, 3), (10, .iconst 1, 1), (11, .goto 15, 3), (14, .iconst 0, 1), (15, .ireturn, 1)]
def jcX11_isCase : List (Nat × Instr × Nat) := [(0, .aload 0, 1), (1, .getfield 8590467099, 3), (4, .iconst 8, 2), (6, .iload 1, 1), (7, .iadd, 1), (8, .iaload, 1), (9, .iconst 1, 1), (10, .if_icmp .ne 17, 3), (13, .iconst 1, 1), (14, .goto 18, 3), (17, .iconst 0, 1), (18, .ireturn, 1)]
def jcX11_here : List (Nat × Instr × Nat) := [(0, .iload 1, 1), (1, .iload 2, 1), (2, .invokestatic 23147149, 3), (5, .ifCond .eq 18, 3), (8, .iload 3, 1), (9, .i2l, 1), (10, .sipush 0, 1), (11, .sipush 1, 1), (12, .invokestatic 23278475, 3), (15, .ifCond .ne 21, 3), (18, .iconst (-2), 2), (20, .ireturn, 1), (21, .aload 0, 1), (22, .getfield 8590467099, 3), (25, .iconst 8, 2), (27, .iload 1, 1), (28, .imul, 1), (29, .iload 2, 1), (30, .iadd, 1), (31, .iaload, 1), (32, .istore 4, 2), (34, .aload 0, 1), (35, .getfield 8590467099, 3), (38, .iconst 8, 2), (40, .iload 1, 1), (41, .imul, 1), (42, .iload 2, 1), (43, .iadd, 1), (44, .iload 3, 1), (45, .iastore, 1), (46, .iload 4, 2), (48, .ireturn, 1)]
def jcX11_trait : List (Nat × Instr × Nat) := [(0, .iload 1, 1), (1, .iload 2, 1), (2, .invokestatic 23147149, 3), (5, .ifCond .eq 35, 3), (8, .iload 3, 1), (9, .i2l, 1), (10, .sipush 0, 1), (11, .sipush 2, 3), (14, .invokestatic 23278475, 3), (17, .ifCond .eq 35, 3), (20, .iload 4, 2), (22, .i2l, 1), (23, .sipush (-999), 3), (26, .sipush 999, 3), (29, .invokestatic 23278475, 3), (32, .ifCond .ne 38, 3), (35, .iconst (-2), 2), (37, .ireturn, 1), (38, .iconst 8, 2), (40, .iload 1, 1), (41, .imul, 1), (42, .iload 2, 1), (43, .iadd, 1), (44, .iconst 3, 1), (45, .imul, 1), (46, .iload 3, 1), (47, .iadd, 1), (48, .istore 5, 2), (50, .aload 0, 1), (51, .getfield 25770860587, 3), (54, .iload 5, 2), (56, .iaload, 1), (57, .istore 6, 2), (59, .aload 0, 1), (60, .getfield 25770860587, 3), (63, .iload 5, 2), (65, .iload 4, 2), (67, .iastore, 1), (68, .iload 6, 2), (70, .ireturn, 1)]
def jcX11_feed : List (Nat × Instr × Nat) := [(0, .iload 1, 1), (1, .i2l, 1), (2, .sipush 0, 1), (3, .sipush 255, 3), (6, .invokestatic 23278475, 3), (9, .ifCond .ne 15, 3), (12, .iconst (-2), 2), (14, .ireturn, 1), (15, .aload 0, 1), (16, .getfield 267, 3), (19, .iconst 60, 2), (21, .if_icmp .ne 27, 3), (24, .iconst (-4), 2), (26, .ireturn, 1), (27, .aload 0, 1), (28, .getfield 32220127483, 3), (31, .aload 0, 1), (32, .getfield 267, 3), (35, .iload 1, 1), (36, .iastore, 1), (37, .aload 0, 1), (38, .dup, 1), (39, .getfield 267, 3), (42, .iconst 1, 1), (43, .iadd, 1), (44, .putfield 267, 3), (47, .aload 0, 1), (48, .getfield 267, 3), (51, .ireturn, 1)]
def jcX11_byteAt : List (Nat × Instr × Nat) := [(0, .iload 1, 1), (1, .aload 0, 1), (2, .getfield 267, 3), (5, .if_icmp .ge 17, 3), (8, .aload 0, 1), (9, .getfield 32220127483, 3), (12, .iload 1, 1), (13, .iaload, 1), (14, .goto 18, 3), (17, .iconst (-1), 1), (18, .ireturn, 1)]
def jcX11_isLetter : List (Nat × Instr × Nat) := [(0, .iload 0, 1), (1, .i2l, 1), (2, .sipush 97, 3), (5, .sipush 122, 3), (8, .invokestatic 23278475, 3), (11, .ireturn, 1)]
def jcX11_isDigit : List (Nat × Instr × Nat) := [(0, .iload 0, 1), (1, .i2l, 1), (2, .sipush 48, 3), (5, .sipush 57, 3), (8, .invokestatic 23278475, 3), (11, .ireturn, 1)]
def jcX11_isThree : List (Nat × Instr × Nat) := [(0, .aload 0, 1), (1, .getfield 283, 3), (4, .aload 0, 1), (5, .getfield 315, 3), (8, .iconst 3, 1), (9, .iadd, 1), (10, .if_icmp .ne 57, 3), (13, .aload 0, 1), (14, .aload 0, 1), (15, .getfield 315, 3), (18, .invokestatic 56693396, 3), (21, .iload 1, 1), (22, .if_icmp .ne 57, 3), (25, .aload 0, 1), (26, .aload 0, 1), (27, .getfield 315, 3), (30, .iconst 1, 1), (31, .iadd, 1), (32, .invokestatic 56693396, 3), (35, .iload 2, 1), (36, .if_icmp .ne 57, 3), (39, .aload 0, 1), (40, .aload 0, 1), (41, .getfield 315, 3), (44, .iconst 2, 1), (45, .iadd, 1), (46, .invokestatic 56693396, 3), (49, .iload 3, 1), (50, .if_icmp .ne 57, 3), (53, .iconst 1, 1), (54, .goto 58, 3), (57, .iconst 0, 1), (58, .ireturn, 1)]
def jcX11_word : List (Nat × Instr × Nat) := [(0, .aload 0, 1), (1, .iconst 109, 2), (3, .iconst 105, 2), (5, .iconst 110, 2), (7, .invokestatic 56767639, 3), (10, .ifCond .eq 16, 3), (13, .iconst 8, 2), (15, .ireturn, 1), (16, .aload 0, 1), (17, .iconst 109, 2), (19, .iconst 97, 2), (21, .iconst 120, 2), (23, .invokestatic 56767639, 3), (26, .ifCond .eq 32, 3), (29, .iconst 9, 2), (31, .ireturn, 1), (32, .aload 0, 1), (33, .iconst 100, 2), (35, .iconst 105, 2), (37, .iconst 118, 2), (39, .invokestatic 56767639, 3), (42, .ifCond .eq 48, 3), (45, .iconst 10, 2), (47, .ireturn, 1), (48, .aload 0, 1), (49, .iconst 109, 2), (51, .iconst 111, 2), (53, .iconst 100, 2), (55, .invokestatic 56767639, 3), (58, .ifCond .eq 64, 3), (61, .iconst 11, 2), (63, .ireturn, 1), (64, .aload 0, 1), (65, .getfield 283, 3), (68, .aload 0, 1), (69, .getfield 315, 3), (72, .iconst 1, 1), (73, .iadd, 1), (74, .if_icmp .eq 79, 3), (77, .iconst (-1), 1), (78, .ireturn, 1), (79, .aload 0, 1), (80, .aload 0, 1), (81, .getfield 315, 3), (84, .invokestatic 56693396, 3), (87, .istore 1, 1), (88, .iload 1, 1), (89, .i2l, 1), (90, .sipush 97, 3), (93, .sipush 99, 3), (96, .invokestatic 23278475, 3), (99, .ifCond .eq 110, 3), (102, .iconst 20, 2), (104, .iload 1, 1), (105, .iadd, 1), (106, .iconst 97, 2), (108, .isub, 1), (109, .ireturn, 1), (110, .iload 1, 1), (111, .i2l, 1), (112, .sipush 120, 3), (115, .sipush 122, 3), (118, .invokestatic 23278475, 3), (121, .ifCond .eq 132, 3), (124, .iconst 23, 2), (126, .iload 1, 1), (127, .iadd, 1), (128, .iconst 120, 2), (130, .isub, 1), (131, .ireturn, 1), (132, .iload 1, 1), (133, .i2l, 1), (134, .sipush 112, 3), (137, .sipush 115, 3), (140, .invokestatic 23278475, 3), (143, .ifCond .eq 156, 3), (146, .iconst 30, 2), (148, .iload 1, 1), (149, .iadd, 1), (150, .iconst 112, 2), (152, .isub, 1), (153, .goto 157, 3), (156, .iconst (-1), 1), (157, .ireturn, 1)]
def jcX11_isSignByte : List (Nat × Instr × Nat) := [(0, .iload 0, 1), (1, .iconst 43, 2), (3, .if_icmp .eq 60, 3), (6, .iload 0, 1), (7, .iconst 45, 2), (9, .if_icmp .eq 60, 3), (12, .iload 0, 1), (13, .iconst 42, 2), (15, .if_icmp .eq 60, 3), (18, .iload 0, 1), (19, .iconst 40, 2), (21, .if_icmp .eq 60, 3), (24, .iload 0, 1), (25, .iconst 41, 2), (27, .if_icmp .eq 60, 3), (30, .iload 0, 1), (31, .iconst 124, 2), (33, .if_icmp .eq 60, 3), (36, .iload 0, 1), (37, .iconst 44, 2), (39, .if_icmp .eq 60, 3), (42, .iload 0, 1), (43, .iconst 60, 2), (45, .if_icmp .eq 60, 3), (48, .iload 0, 1), (49, .iconst 63, 2), (51, .if_icmp .eq 60, 3), (54, .iload 0, 1), (55, .iconst 58, 2), (57, .if_icmp .ne 64, 3), (60, .iconst 1, 1), (61, .goto 65, 3), (64, .iconst 0, 1), (65, .ireturn, 1)]
def jcX11_next : List (Nat × Instr × Nat) := [(0, .aload 0, 1), (1, .aload 0, 1), (2, .getfield 283, 3), (5, .invokestatic 56693396, 3), (8, .iconst 32, 2), (10, .if_icmp .ne 26, 3), (13, .aload 0, 1), (14, .dup, 1), (15, .getfield 283, 3), (18, .iconst 1, 1), (19, .iadd, 1), (20, .putfield 283, 3), (23, .goto 0, 3), (26, .aload 0, 1), (27, .aload 0, 1), (28, .getfield 283, 3), (31, .putfield 315, 3), (34, .aload 0, 1), (35, .aload 0, 1), (36, .getfield 283, 3), (39, .invokestatic 56693396, 3), (42, .istore 1, 1), (43, .aload 0, 1), (44, .iconst 4, 1), (45, .putfield 299, 3), (48, .aload 0, 1), (49, .iconst (-1), 1), (50, .putfield 331, 3), (53, .iload 1, 1), (54, .iconst (-1), 1), (55, .if_icmp .ne 66, 3), (58, .aload 0, 1), (59, .iconst 0, 1), (60, .putfield 299, 3), (63, .goto 255, 3), (66, .iload 1, 1), (67, .invokestatic 23114133, 3), (70, .ifCond .eq 128, 3), (73, .aload 0, 1), (74, .aload 0, 1), (75, .getfield 283, 3), (78, .invokestatic 56693396, 3), (81, .invokestatic 23114133, 3), (84, .ifCond .eq 100, 3), (87, .aload 0, 1), (88, .dup, 1), (89, .getfield 283, 3), (92, .iconst 1, 1), (93, .iadd, 1), (94, .putfield 283, 3), (97, .goto 73, 3), (100, .aload 0, 1), (101, .aload 0, 1), (102, .invokestatic 56693144, 3), (105, .putfield 331, 3), (108, .aload 0, 1), (109, .aload 0, 1), (110, .getfield 331, 3), (113, .iconst (-1), 1), (114, .if_icmp .ne 121, 3), (117, .iconst 4, 1), (118, .goto 122, 3), (121, .iconst 1, 1), (122, .putfield 299, 3), (125, .goto 255, 3), (128, .iload 1, 1), (129, .invokestatic 23114134, 3), (132, .ifCond .eq 228, 3), (135, .aload 0, 1), (136, .iconst 0, 1), (137, .putfield 331, 3), (140, .aload 0, 1), (141, .aload 0, 1), (142, .getfield 283, 3), (145, .invokestatic 56693396, 3), (148, .invokestatic 23114134, 3), (151, .ifCond .eq 203, 3), (154, .aload 0, 1), (155, .getfield 283, 3), (158, .aload 0, 1), (159, .getfield 315, 3), (162, .iconst 4, 1), (163, .iadd, 1), (164, .if_icmp .ge 190, 3), (167, .aload 0, 1), (168, .iconst 10, 2), (170, .aload 0, 1), (171, .getfield 331, 3), (174, .imul, 1), (175, .aload 0, 1), (176, .aload 0, 1), (177, .getfield 283, 3), (180, .invokestatic 56693396, 3), (183, .iadd, 1), (184, .iconst 48, 2), (186, .isub, 1), (187, .putfield 331, 3), (190, .aload 0, 1), (191, .dup, 1), (192, .getfield 283, 3), (195, .iconst 1, 1), (196, .iadd, 1), (197, .putfield 283, 3), (200, .goto 140, 3), (203, .aload 0, 1), (204, .aload 0, 1), (205, .getfield 283, 3), (208, .aload 0, 1), (209, .getfield 315, 3), (212, .iconst 4, 1), (213, .iadd, 1), (214, .if_icmp .le 221, 3), (217, .iconst 4, 1), (218, .goto 222, 3), (221, .iconst 2, 1), (222, .putfield 299, 3), (225, .goto 255, 3), (228, .iload 1, 1), (229, .invokestatic 23114137, 3), (232, .ifCond .eq 255, 3), (235, .aload 0, 1), (236, .iconst 3, 1), (237, .putfield 299, 3), (240, .aload 0, 1), (241, .iload 1, 1), (242, .putfield 331, 3), (245, .aload 0, 1), (246, .dup, 1), (247, .getfield 283, 3), (250, .iconst 1, 1), (251, .iadd, 1), (252, .putfield 283, 3), (255, .return_, 1)]
def jcX11_fail : List (Nat × Instr × Nat) := [(0, .aload 0, 1), (1, .getfield 4459, 3), (4, .ifCond .ne 20, 3), (7, .aload 0, 1), (8, .iconst 1, 1), (9, .putfield 4459, 3), (12, .aload 0, 1), (13, .aload 0, 1), (14, .getfield 315, 3), (17, .putfield 379, 3), (20, .return_, 1)]
def jcX11_isSign : List (Nat × Instr × Nat) := [(0, .aload 0, 1), (1, .getfield 4459, 3), (4, .ifCond .ne 27, 3), (7, .aload 0, 1), (8, .getfield 299, 3), (11, .iconst 3, 1), (12, .if_icmp .ne 27, 3), (15, .aload 0, 1), (16, .getfield 331, 3), (19, .iload 1, 1), (20, .if_icmp .ne 27, 3), (23, .iconst 1, 1), (24, .goto 28, 3), (27, .iconst 0, 1), (28, .ireturn, 1)]
def jcX11_takes : List (Nat × Instr × Nat) := [(0, .aload 0, 1), (1, .iload 1, 1), (2, .invokestatic 56701596, 3), (5, .ifCond .ne 15, 3), (8, .aload 0, 1), (9, .invokestatic 56656283, 3), (12, .goto 19, 3), (15, .aload 0, 1), (16, .invokestatic 56689050, 3), (19, .return_, 1)]
def jcX11_part : List (Nat × Instr × Nat) := [(0, .aload 0, 1), (1, .getfield 4459, 3), (4, .ifCond .ne 16, 3), (7, .aload 0, 1), (8, .getfield 395, 3), (11, .iconst 24, 2), (13, .if_icmp .ne 22, 3), (16, .aload 0, 1), (17, .invokestatic 56656283, 3), (20, .iconst 0, 1), (21, .ireturn, 1), (22, .aload 0, 1), (23, .getfield 395, 3), (26, .istore 3, 1), (27, .aload 0, 1), (28, .dup, 1), (29, .getfield 395, 3), (32, .iconst 1, 1), (33, .iadd, 1), (34, .putfield 395, 3), (37, .aload 0, 1), (38, .getfield 12893299099, 3), (41, .iload 3, 1), (42, .iload 1, 1), (43, .iastore, 1), (44, .aload 0, 1), (45, .getfield 12893823403, 3), (48, .iload 3, 1), (49, .iload 2, 1), (50, .iastore, 1), (51, .aload 0, 1), (52, .getfield 12894347707, 3), (55, .iload 3, 1), (56, .iconst 0, 1), (57, .iastore, 1), (58, .aload 0, 1), (59, .getfield 12894872011, 3), (62, .iload 3, 1), (63, .iconst 0, 1), (64, .iastore, 1), (65, .aload 0, 1), (66, .getfield 12895396315, 3), (69, .iload 3, 1), (70, .iconst 0, 1), (71, .iastore, 1), (72, .aload 0, 1), (73, .getfield 12895920619, 3), (76, .iload 3, 1), (77, .iconst 0, 1), (78, .iastore, 1), (79, .aload 0, 1), (80, .getfield 12896444923, 3), (83, .iload 3, 1), (84, .aload 0, 1), (85, .getfield 315, 3), (88, .iastore, 1), (89, .iload 3, 1), (90, .ireturn, 1)]
def jcX11_opens : List (Nat × Instr × Nat) := [(0, .aload 0, 1), (1, .getfield 4459, 3), (4, .ifCond .ne 15, 3), (7, .aload 0, 1), (8, .getfield 347, 3), (11, .iconst 5, 1), (12, .if_icmp .ne 21, 3), (15, .aload 0, 1), (16, .invokestatic 56656283, 3), (19, .iconst 0, 1), (20, .ireturn, 1), (21, .aload 0, 1), (22, .dup, 1), (23, .getfield 347, 3), (26, .iconst 1, 1), (27, .iadd, 1), (28, .putfield 347, 3), (31, .iconst 1, 1), (32, .ireturn, 1)]
def jcX11_expression : List (Nat × Instr × Nat) := [(0, .aload 0, 1), (1, .invokestatic 56725921, 3), (4, .istore 1, 1), (5, .aload 0, 1), (6, .iconst 60, 2), (8, .invokestatic 56701596, 3), (11, .ifCond .ne 16, 3), (14, .iload 1, 1), (15, .ireturn, 1), (16, .aload 0, 1), (17, .iconst 12, 2), (19, .iconst 0, 1), (20, .invokestatic 56759198, 3), (23, .istore 2, 1), (24, .aload 0, 1), (25, .getfield 4459, 3), (28, .ifCond .eq 33, 3), (31, .iconst 0, 1), (32, .ireturn, 1), (33, .aload 0, 1), (34, .invokestatic 56689050, 3), (37, .aload 0, 1), (38, .getfield 12894347707, 3), (41, .iload 2, 1), (42, .iload 1, 1), (43, .iastore, 1), (44, .aload 0, 1), (45, .getfield 12894872011, 3), (48, .iload 2, 1), (49, .aload 0, 1), (50, .invokestatic 56725921, 3), (53, .iastore, 1), (54, .aload 0, 1), (55, .iconst 63, 2), (57, .invokestatic 56689309, 3), (60, .aload 0, 1), (61, .getfield 4459, 3), (64, .ifCond .eq 69, 3), (67, .iconst 0, 1), (68, .ireturn, 1), (69, .aload 0, 1), (70, .getfield 12895396315, 3), (73, .iload 2, 1), (74, .aload 0, 1), (75, .invokestatic 56725920, 3), (78, .iastore, 1), (79, .aload 0, 1), (80, .iconst 58, 2), (82, .invokestatic 56689309, 3), (85, .aload 0, 1), (86, .getfield 4459, 3), (89, .ifCond .eq 94, 3), (92, .iconst 0, 1), (93, .ireturn, 1), (94, .aload 0, 1), (95, .getfield 12895920619, 3), (98, .iload 2, 1), (99, .aload 0, 1), (100, .invokestatic 56725920, 3), (103, .iastore, 1), (104, .iload 2, 1), (105, .ireturn, 1)]
def jcX11_sum : List (Nat × Instr × Nat) := [(0, .aload 0, 1), (1, .invokestatic 56725922, 3), (4, .istore 1, 1), (5, .aload 0, 1), (6, .iconst 43, 2), (8, .invokestatic 56701596, 3), (11, .ifCond .ne 23, 3), (14, .aload 0, 1), (15, .iconst 45, 2), (17, .invokestatic 56701596, 3), (20, .ifCond .eq 78, 3), (23, .aload 0, 1), (24, .aload 0, 1), (25, .getfield 331, 3), (28, .iconst 43, 2), (30, .if_icmp .ne 37, 3), (33, .iconst 3, 1), (34, .goto 38, 3), (37, .iconst 4, 1), (38, .iconst 0, 1), (39, .invokestatic 56759198, 3), (42, .istore 2, 1), (43, .aload 0, 1), (44, .getfield 4459, 3), (47, .ifCond .eq 52, 3), (50, .iconst 0, 1), (51, .ireturn, 1), (52, .aload 0, 1), (53, .invokestatic 56689050, 3), (56, .aload 0, 1), (57, .getfield 12894347707, 3), (60, .iload 2, 1), (61, .iload 1, 1), (62, .iastore, 1), (63, .aload 0, 1), (64, .getfield 12894872011, 3), (67, .iload 2, 1), (68, .aload 0, 1), (69, .invokestatic 56725922, 3), (72, .iastore, 1), (73, .iload 2, 1), (74, .istore 1, 1), (75, .goto 5, 3), (78, .iload 1, 1), (79, .ireturn, 1)]
def jcX11_product : List (Nat × Instr × Nat) := [(0, .aload 0, 1), (1, .invokestatic 56693155, 3), (4, .istore 1, 1), (5, .aload 0, 1), (6, .iconst 42, 2), (8, .invokestatic 56701596, 3), (11, .ifCond .eq 56, 3), (14, .aload 0, 1), (15, .iconst 5, 1), (16, .iconst 0, 1), (17, .invokestatic 56759198, 3), (20, .istore 2, 1), (21, .aload 0, 1), (22, .getfield 4459, 3), (25, .ifCond .eq 30, 3), (28, .iconst 0, 1), (29, .ireturn, 1), (30, .aload 0, 1), (31, .invokestatic 56689050, 3), (34, .aload 0, 1), (35, .getfield 12894347707, 3), (38, .iload 2, 1), (39, .iload 1, 1), (40, .iastore, 1), (41, .aload 0, 1), (42, .getfield 12894872011, 3), (45, .iload 2, 1), (46, .aload 0, 1), (47, .invokestatic 56693155, 3), (50, .iastore, 1), (51, .iload 2, 1), (52, .istore 1, 1), (53, .goto 5, 3), (56, .iload 1, 1), (57, .ireturn, 1)]
def jcX11_factor : List (Nat × Instr × Nat) := [(0, .aload 0, 1), (1, .getfield 4459, 3), (4, .ifCond .eq 9, 3), (7, .iconst 0, 1), (8, .ireturn, 1), (9, .aload 0, 1), (10, .getfield 299, 3), (13, .iconst 2, 1), (14, .if_icmp .ne 40, 3), (17, .aload 0, 1), (18, .iconst 0, 1), (19, .aload 0, 1), (20, .getfield 331, 3), (23, .invokestatic 56759198, 3), (26, .istore 1, 1), (27, .aload 0, 1), (28, .getfield 4459, 3), (31, .ifCond .ne 38, 3), (34, .aload 0, 1), (35, .invokestatic 56689050, 3), (38, .iload 1, 1), (39, .ireturn, 1), (40, .aload 0, 1), (41, .getfield 299, 3), (44, .iconst 1, 1), (45, .if_icmp .ne 107, 3), (48, .aload 0, 1), (49, .getfield 331, 3), (52, .iconst 20, 2), (54, .if_icmp .lt 107, 3), (57, .aload 0, 1), (58, .getfield 331, 3), (61, .iconst 30, 2), (63, .if_icmp .ge 81, 3), (66, .aload 0, 1), (67, .iconst 1, 1), (68, .aload 0, 1), (69, .getfield 331, 3), (72, .iconst 20, 2), (74, .isub, 1), (75, .invokestatic 56759198, 3), (78, .goto 93, 3), (81, .aload 0, 1), (82, .iconst 2, 1), (83, .aload 0, 1), (84, .getfield 331, 3), (87, .iconst 30, 2), (89, .isub, 1), (90, .invokestatic 56759198, 3), (93, .istore 1, 1), (94, .aload 0, 1), (95, .getfield 4459, 3), (98, .ifCond .ne 105, 3), (101, .aload 0, 1), (102, .invokestatic 56689050, 3), (105, .iload 1, 1), (106, .ireturn, 1), (107, .aload 0, 1), (108, .getfield 299, 3), (111, .iconst 1, 1), (112, .if_icmp .ne 120, 3), (115, .aload 0, 1), (116, .invokestatic 56693156, 3), (119, .ireturn, 1), (120, .aload 0, 1), (121, .iconst 45, 2), (123, .invokestatic 56701596, 3), (126, .ifCond .eq 162, 3), (129, .aload 0, 1), (130, .iconst 6, 2), (132, .iconst 0, 1), (133, .invokestatic 56759198, 3), (136, .istore 1, 1), (137, .aload 0, 1), (138, .getfield 4459, 3), (141, .ifCond .eq 146, 3), (144, .iconst 0, 1), (145, .ireturn, 1), (146, .aload 0, 1), (147, .invokestatic 56689050, 3), (150, .aload 0, 1), (151, .getfield 12894347707, 3), (154, .iload 1, 1), (155, .aload 0, 1), (156, .invokestatic 56693155, 3), (159, .iastore, 1), (160, .iload 1, 1), (161, .ireturn, 1), (162, .aload 0, 1), (163, .iconst 40, 2), (165, .invokestatic 56701596, 3), (168, .ifCond .eq 207, 3), (171, .aload 0, 1), (172, .invokestatic 56668575, 3), (175, .ifCond .ne 180, 3), (178, .iconst 0, 1), (179, .ireturn, 1), (180, .aload 0, 1), (181, .invokestatic 56689050, 3), (184, .aload 0, 1), (185, .invokestatic 56725920, 3), (188, .istore 1, 1), (189, .aload 0, 1), (190, .iconst 41, 2), (192, .invokestatic 56689309, 3), (195, .aload 0, 1), (196, .dup, 1), (197, .getfield 347, 3), (200, .iconst 1, 1), (201, .isub, 1), (202, .putfield 347, 3), (205, .iload 1, 1), (206, .ireturn, 1), (207, .aload 0, 1), (208, .iconst 124, 2), (210, .invokestatic 56701596, 3), (213, .ifCond .ne 222, 3), (216, .aload 0, 1), (217, .invokestatic 56656283, 3), (220, .iconst 0, 1), (221, .ireturn, 1), (222, .aload 0, 1), (223, .iconst 7, 2), (225, .iconst 0, 1), (226, .invokestatic 56759198, 3), (229, .istore 1, 1), (230, .aload 0, 1), (231, .getfield 4459, 3), (234, .ifCond .ne 244, 3), (237, .aload 0, 1), (238, .invokestatic 56668575, 3), (241, .ifCond .ne 246, 3), (244, .iconst 0, 1), (245, .ireturn, 1), (246, .aload 0, 1), (247, .invokestatic 56689050, 3), (250, .aload 0, 1), (251, .getfield 12894347707, 3), (254, .iload 1, 1), (255, .aload 0, 1), (256, .invokestatic 56725920, 3), (259, .iastore, 1), (260, .aload 0, 1), (261, .iconst 124, 2), (263, .invokestatic 56689309, 3), (266, .aload 0, 1), (267, .dup, 1), (268, .getfield 347, 3), (271, .iconst 1, 1), (272, .isub, 1), (273, .putfield 347, 3), (276, .iload 1, 1), (277, .ireturn, 1)]
def jcX11_ofTwo : List (Nat × Instr × Nat) := [(0, .aload 0, 1), (1, .aload 0, 1), (2, .getfield 331, 3), (5, .iconst 0, 1), (6, .invokestatic 56759198, 3), (9, .istore 1, 1), (10, .aload 0, 1), (11, .getfield 4459, 3), (14, .ifCond .eq 19, 3), (17, .iconst 0, 1), (18, .ireturn, 1), (19, .aload 0, 1), (20, .invokestatic 56689050, 3), (23, .aload 0, 1), (24, .iconst 40, 2), (26, .invokestatic 56701596, 3), (29, .ifCond .ne 38, 3), (32, .aload 0, 1), (33, .invokestatic 56656283, 3), (36, .iconst 0, 1), (37, .ireturn, 1), (38, .aload 0, 1), (39, .invokestatic 56668575, 3), (42, .ifCond .ne 47, 3), (45, .iconst 0, 1), (46, .ireturn, 1), (47, .aload 0, 1), (48, .invokestatic 56689050, 3), (51, .aload 0, 1), (52, .getfield 12894347707, 3), (55, .iload 1, 1), (56, .aload 0, 1), (57, .invokestatic 56725920, 3), (60, .iastore, 1), (61, .aload 0, 1), (62, .iconst 44, 2), (64, .invokestatic 56689309, 3), (67, .aload 0, 1), (68, .getfield 4459, 3), (71, .ifCond .eq 76, 3), (74, .iconst 0, 1), (75, .ireturn, 1), (76, .aload 0, 1), (77, .getfield 12894872011, 3), (80, .iload 1, 1), (81, .aload 0, 1), (82, .invokestatic 56725920, 3), (85, .iastore, 1), (86, .aload 0, 1), (87, .iconst 41, 2), (89, .invokestatic 56689309, 3), (92, .aload 0, 1), (93, .dup, 1), (94, .getfield 347, 3), (97, .iconst 1, 1), (98, .isub, 1), (99, .putfield 347, 3), (102, .iload 1, 1), (103, .ireturn, 1)]
def jcX11_names : List (Nat × Instr × Nat) := [(0, .iconst 0, 1), (1, .istore 2, 1), (2, .iconst 0, 1), (3, .istore 3, 1), (4, .iload 3, 1), (5, .iconst 4, 1), (6, .if_icmp .ge 34, 3), (9, .aload 0, 1), (10, .getfield 8593612923, 3), (13, .iconst 4, 1), (14, .iload 1, 1), (15, .imul, 1), (16, .iload 3, 1), (17, .iadd, 1), (18, .iaload, 1), (19, .ifCond .le 28, 3), (22, .iload 2, 1), (23, .iconst 1, 1), (24, .iload 3, 1), (25, .ishl, 1), (26, .ior, 1), (27, .istore 2, 1), (28, .iinc 3 1, 3), (31, .goto 4, 3), (34, .iload 2, 1), (35, .ireturn, 1)]
def jcX11_comesTo : List (Nat × Instr × Nat) := [(0, .aload 0, 1), (1, .iload 1, 1), (2, .invokestatic 56758949, 3), (5, .istore 2, 1), (6, .iconst 0, 1), (7, .istore 3, 1), (8, .iload 3, 1), (9, .iconst 4, 1), (10, .if_icmp .ge 53, 3), (13, .iconst 0, 1), (14, .istore 4, 2), (16, .iload 4, 2), (18, .iconst 4, 1), (19, .if_icmp .ge 47, 3), (22, .iload 2, 1), (23, .iload 4, 2), (25, .ishr, 1), (26, .iconst 1, 1), (27, .iand, 1), (28, .iconst 1, 1), (29, .if_icmp .ne 41, 3), (32, .iload 2, 1), (33, .aload 0, 1), (34, .iload 4, 2), (36, .invokestatic 56758949, 3), (39, .ior, 1), (40, .istore 2, 1), (41, .iinc 4 1, 3), (44, .goto 16, 3), (47, .iinc 3 1, 3), (50, .goto 8, 3), (53, .iload 2, 1), (54, .ireturn, 1)]
def jcX11_weight : List (Nat × Instr × Nat) := [(0, .aload 0, 1), (1, .getfield 2150113371, 3), (4, .iload 1, 1), (5, .iaload, 1), (6, .istore 2, 1), (7, .iconst 0, 1), (8, .istore 3, 1), (9, .iload 3, 1), (10, .iconst 4, 1), (11, .if_icmp .ge 52, 3), (14, .aload 0, 1), (15, .getfield 8593612923, 3), (18, .iconst 4, 1), (19, .iload 1, 1), (20, .imul, 1), (21, .iload 3, 1), (22, .iadd, 1), (23, .iaload, 1), (24, .ifCond .le 46, 3), (27, .iload 2, 1), (28, .aload 0, 1), (29, .getfield 8593612923, 3), (32, .iconst 4, 1), (33, .iload 1, 1), (34, .imul, 1), (35, .iload 3, 1), (36, .iadd, 1), (37, .iaload, 1), (38, .aload 0, 1), (39, .iload 3, 1), (40, .invokestatic 56758951, 3), (43, .imul, 1), (44, .iadd, 1), (45, .istore 2, 1), (46, .iinc 3 1, 3), (49, .goto 9, 3), (52, .iload 2, 1), (53, .ireturn, 1)]
def jcX11_trades : List (Nat × Instr × Nat) := [(0, .iconst 0, 1), (1, .istore 2, 1), (2, .iload 2, 1), (3, .iconst 4, 1), (4, .if_icmp .ge 47, 3), (7, .aload 0, 1), (8, .getfield 8593612923, 3), (11, .iconst 4, 1), (12, .iload 1, 1), (13, .imul, 1), (14, .iload 2, 1), (15, .iadd, 1), (16, .iaload, 1), (17, .istore 3, 1), (18, .aload 0, 1), (19, .getfield 8593612923, 3), (22, .iconst 4, 1), (23, .iload 1, 1), (24, .imul, 1), (25, .iload 2, 1), (26, .iadd, 1), (27, .aload 0, 1), (28, .getfield 2159550987, 3), (31, .iload 2, 1), (32, .iaload, 1), (33, .iastore, 1), (34, .aload 0, 1), (35, .getfield 2159550987, 3), (38, .iload 2, 1), (39, .iload 3, 1), (40, .iastore, 1), (41, .iinc 2 1, 3), (44, .goto 2, 3), (47, .return_, 1)]
def jcX11_isHeavy : List (Nat × Instr × Nat) := [(0, .iconst 0, 1), (1, .istore 1, 1), (2, .iload 1, 1), (3, .iconst 4, 1), (4, .if_icmp .ge 25, 3), (7, .aload 0, 1), (8, .iload 1, 1), (9, .invokestatic 56758951, 3), (12, .iconst 60, 2), (14, .if_icmp .le 19, 3), (17, .iconst 1, 1), (18, .ireturn, 1), (19, .iinc 1 1, 3), (22, .goto 2, 3), (25, .iconst 0, 1), (26, .ireturn, 1)]
def jcX11_text : List (Nat × Instr × Nat) := [(0, .iload 1, 1), (1, .i2l, 1), (2, .sipush 0, 1), (3, .sipush 3, 3), (6, .invokestatic 23278475, 3), (9, .ifCond .ne 15, 3), (12, .iconst (-2), 2), (14, .ireturn, 1), (15, .aload 0, 1), (16, .iconst 0, 1), (17, .putfield 283, 3), (20, .aload 0, 1), (21, .iconst 0, 1), (22, .putfield 347, 3), (25, .aload 0, 1), (26, .iconst 0, 1), (27, .putfield 4459, 3), (30, .aload 0, 1), (31, .iconst 0, 1), (32, .putfield 395, 3), (35, .aload 0, 1), (36, .invokestatic 56689050, 3), (39, .aload 0, 1), (40, .invokestatic 56725920, 3), (43, .istore 2, 1), (44, .aload 0, 1), (45, .getfield 299, 3), (48, .ifCond .eq 55, 3), (51, .aload 0, 1), (52, .invokestatic 56656283, 3), (55, .aload 0, 1), (56, .iconst 0, 1), (57, .putfield 267, 3), (60, .aload 0, 1), (61, .getfield 4459, 3), (64, .ifCond .eq 75, 3), (67, .iconst (-100), 2), (69, .aload 0, 1), (70, .getfield 379, 3), (73, .isub, 1), (74, .ireturn, 1), (75, .iconst 0, 1), (76, .istore 3, 1), (77, .iload 3, 1), (78, .iconst 4, 1), (79, .if_icmp .ge 95, 3), (82, .aload 0, 1), (83, .getfield 2159550987, 3), (86, .iload 3, 1), (87, .iconst 0, 1), (88, .iastore, 1), (89, .iinc 3 1, 3), (92, .goto 77, 3), (95, .iconst 0, 1), (96, .istore 3, 1), (97, .iload 3, 1), (98, .aload 0, 1), (99, .getfield 395, 3), (102, .if_icmp .ge 136, 3), (105, .aload 0, 1), (106, .getfield 12893299099, 3), (109, .iload 3, 1), (110, .iaload, 1), (111, .iconst 2, 1), (112, .if_icmp .ne 130, 3), (115, .aload 0, 1), (116, .getfield 2159550987, 3), (119, .aload 0, 1), (120, .getfield 12893823403, 3), (123, .iload 3, 1), (124, .iaload, 1), (125, .dup2, 1), (126, .iaload, 1), (127, .iconst 1, 1), (128, .iadd, 1), (129, .iastore, 1), (130, .iinc 3 1, 3), (133, .goto 97, 3), (136, .aload 0, 1), (137, .iload 1, 1), (138, .invokestatic 56754856, 3), (141, .aload 0, 1), (142, .iload 1, 1), (143, .invokestatic 56791718, 3), (146, .iload 1, 1), (147, .ishr, 1), (148, .iconst 1, 1), (149, .iand, 1), (150, .iconst 1, 1), (151, .if_icmp .ne 162, 3), (154, .aload 0, 1), (155, .iload 1, 1), (156, .invokestatic 56754856, 3), (159, .iconst (-5), 2), (161, .ireturn, 1), (162, .aload 0, 1), (163, .getfield 2150113371, 3), (166, .iload 1, 1), (167, .iaload, 1), (168, .istore 3, 1), (169, .aload 0, 1), (170, .getfield 2150113371, 3), (173, .iload 1, 1), (174, .aload 0, 1), (175, .getfield 395, 3), (178, .iastore, 1), (179, .aload 0, 1), (180, .invokestatic 56701353, 3), (183, .ifCond .eq 201, 3), (186, .aload 0, 1), (187, .getfield 2150113371, 3), (190, .iload 1, 1), (191, .iload 3, 1), (192, .iastore, 1), (193, .aload 0, 1), (194, .iload 1, 1), (195, .invokestatic 56754856, 3), (198, .iconst (-4), 2), (200, .ireturn, 1), (201, .aload 0, 1), (202, .getfield 2150637675, 3), (205, .iload 1, 1), (206, .iload 2, 1), (207, .iastore, 1), (208, .iconst 0, 1), (209, .istore 4, 2), (211, .iload 4, 2), (213, .aload 0, 1), (214, .getfield 395, 3), (217, .if_icmp .ge 333, 3), (220, .iconst 24, 2), (222, .iload 1, 1), (223, .imul, 1), (224, .iload 4, 2), (226, .iadd, 1), (227, .istore 5, 2), (229, .aload 0, 1), (230, .getfield 51543810187, 3), (233, .iload 5, 2), (235, .aload 0, 1), (236, .getfield 12893299099, 3), (239, .iload 4, 2), (241, .iaload, 1), (242, .iastore, 1), (243, .aload 0, 1), (244, .getfield 51544334491, 3), (247, .iload 5, 2), (249, .aload 0, 1), (250, .getfield 12893823403, 3), (253, .iload 4, 2), (255, .iaload, 1), (256, .iastore, 1), (257, .aload 0, 1), (258, .getfield 51544858795, 3), (261, .iload 5, 2), (263, .aload 0, 1), (264, .getfield 12894347707, 3), (267, .iload 4, 2), (269, .iaload, 1), (270, .iastore, 1), (271, .aload 0, 1), (272, .getfield 51545383099, 3), (275, .iload 5, 2), (277, .aload 0, 1), (278, .getfield 12894872011, 3), (281, .iload 4, 2), (283, .iaload, 1), (284, .iastore, 1), (285, .aload 0, 1), (286, .getfield 51545907403, 3), (289, .iload 5, 2), (291, .aload 0, 1), (292, .getfield 12895396315, 3), (295, .iload 4, 2), (297, .iaload, 1), (298, .iastore, 1), (299, .aload 0, 1), (300, .getfield 51546431707, 3), (303, .iload 5, 2), (305, .aload 0, 1), (306, .getfield 12895920619, 3), (309, .iload 4, 2), (311, .iaload, 1), (312, .iastore, 1), (313, .aload 0, 1), (314, .getfield 51546956011, 3), (317, .iload 5, 2), (319, .aload 0, 1), (320, .getfield 12896444923, 3), (323, .iload 4, 2), (325, .iaload, 1), (326, .iastore, 1), (327, .iinc 4 1, 3), (330, .goto 211, 3), (333, .aload 0, 1), (334, .getfield 395, 3), (337, .ireturn, 1)]
def jcX11_empty : List (Nat × Instr × Nat) := [(0, .iload 1, 1), (1, .i2l, 1), (2, .sipush 0, 1), (3, .sipush 3, 3), (6, .invokestatic 23278475, 3), (9, .ifCond .ne 15, 3), (12, .iconst (-2), 2), (14, .ireturn, 1), (15, .aload 0, 1), (16, .getfield 2150113371, 3), (19, .iload 1, 1), (20, .iaload, 1), (21, .istore 2, 1), (22, .aload 0, 1), (23, .getfield 2150113371, 3), (26, .iload 1, 1), (27, .iconst 0, 1), (28, .iastore, 1), (29, .iconst 0, 1), (30, .istore 3, 1), (31, .iload 3, 1), (32, .iconst 4, 1), (33, .if_icmp .ge 53, 3), (36, .aload 0, 1), (37, .getfield 8593612923, 3), (40, .iconst 4, 1), (41, .iload 1, 1), (42, .imul, 1), (43, .iload 3, 1), (44, .iadd, 1), (45, .iconst 0, 1), (46, .iastore, 1), (47, .iinc 3 1, 3), (50, .goto 31, 3), (53, .iload 2, 1), (54, .ireturn, 1)]
def jcX11_told : List (Nat × Instr × Nat) := [(0, .iload 1, 1), (1, .i2l, 1), (2, .sipush 0, 1), (3, .sipush 3, 3), (6, .invokestatic 23278475, 3), (9, .ifCond .eq 24, 3), (12, .iload 2, 1), (13, .i2l, 1), (14, .sipush 0, 1), (15, .sipush 4, 3), (18, .invokestatic 23278475, 3), (21, .ifCond .ne 27, 3), (24, .iconst (-2), 2), (26, .ireturn, 1), (27, .iload 2, 1), (28, .ifCond .ne 38, 3), (31, .aload 0, 1), (32, .getfield 2150113371, 3), (35, .iload 1, 1), (36, .iaload, 1), (37, .ireturn, 1), (38, .iload 2, 1), (39, .iconst 1, 1), (40, .if_icmp .ne 49, 3), (43, .aload 0, 1), (44, .iload 1, 1), (45, .invokestatic 56758951, 3), (48, .ireturn, 1), (49, .iload 2, 1), (50, .iconst 2, 1), (51, .if_icmp .ne 60, 3), (54, .aload 0, 1), (55, .iload 1, 1), (56, .invokestatic 56758949, 3), (59, .ireturn, 1), (60, .iload 2, 1), (61, .iconst 4, 1), (62, .if_icmp .ne 71, 3), (65, .aload 0, 1), (66, .iload 1, 1), (67, .invokestatic 56791718, 3), (70, .ireturn, 1), (71, .iconst 0, 1), (72, .istore 3, 1), (73, .iconst 0, 1), (74, .istore 4, 2), (76, .iload 4, 2), (78, .iconst 4, 1), (79, .if_icmp .ge 109, 3), (82, .aload 0, 1), (83, .getfield 8593612923, 3), (86, .iconst 4, 1), (87, .iload 4, 2), (89, .imul, 1), (90, .iload 1, 1), (91, .iadd, 1), (92, .iaload, 1), (93, .ifCond .le 103, 3), (96, .iload 3, 1), (97, .iconst 1, 1), (98, .iload 4, 2), (100, .ishl, 1), (101, .ior, 1), (102, .istore 3, 1), (103, .iinc 4 1, 3), (106, .goto 76, 3), (109, .iload 3, 1), (110, .ireturn, 1)]
def jcX11_fails : List (Nat × Instr × Nat) := [(0, .aload 0, 1), (1, .iload 1, 1), (2, .putfield 539, 3), (5, .aload 0, 1), (6, .aload 0, 1), (7, .getfield 51546956011, 3), (10, .iload 3, 1), (11, .iaload, 1), (12, .putfield 555, 3), (15, .aload 0, 1), (16, .iconst 1, 1), (17, .putfield 571, 3), (20, .aload 0, 1), (21, .iload 2, 1), (22, .putfield 587, 3), (25, .aload 0, 1), (26, .iconst (-1), 1), (27, .putfield 603, 3), (30, .sipush 0, 1), (31, .lreturn, 1)]
def jcX11_valueOf : List (Nat × Instr × Nat) := [(0, .aload 0, 1), (1, .getfield 2150113371, 3), (4, .iload 1, 1), (5, .iaload, 1), (6, .ifCond .ne 11, 3), (9, .sipush 0, 1), (10, .lreturn, 1), (11, .aload 0, 1), (12, .iload 1, 1), (13, .aload 0, 1), (14, .getfield 2150637675, 3), (17, .iload 1, 1), (18, .iaload, 1), (19, .invokestatic 56927153, 3), (22, .lreturn, 1)]
def jcX11_named : List (Nat × Instr × Nat) := [(0, .aload 0, 1), (1, .iload 2, 1), (2, .invokestatic 56697518, 3), (5, .lstore 3, 1), (6, .aload 0, 1), (7, .getfield 539, 3), (10, .ifCond .eq 36, 3), (13, .aload 0, 1), (14, .getfield 571, 3), (17, .iconst 1, 1), (18, .if_icmp .ne 26, 3), (21, .aload 0, 1), (22, .iload 1, 1), (23, .putfield 603, 3), (26, .aload 0, 1), (27, .dup, 1), (28, .getfield 571, 3), (31, .iconst 1, 1), (32, .iadd, 1), (33, .putfield 571, 3), (36, .lload 3, 1), (37, .lreturn, 1)]
def jcX11_limited : List (Nat × Instr × Nat) := [(0, .lload 1, 1), (1, .sipush (-1000000000), 3), (4, .sipush 1000000000, 3), (7, .invokestatic 23278475, 3), (10, .ifCond .eq 17, 3), (13, .lload 1, 1), (14, .goto 25, 3), (17, .aload 0, 1), (18, .iconst 2, 1), (19, .iload 3, 1), (20, .iload 4, 2), (22, .invokestatic 56763565, 3), (25, .lreturn, 1)]
def jcX11_valueOf_ : List (Nat × Instr × Nat) := [(0, .iconst 24, 2), (2, .iload 1, 1), (3, .imul, 1), (4, .iload 2, 1), (5, .iadd, 1), (6, .istore 3, 1), (7, .aload 0, 1), (8, .getfield 51543810187, 3), (11, .iload 3, 1), (12, .iaload, 1), (13, .istore 4, 2), (15, .iload 4, 2), (17, .ifCond .ne 28, 3), (20, .aload 0, 1), (21, .getfield 51544334491, 3), (24, .iload 3, 1), (25, .iaload, 1), (26, .i2l, 1), (27, .lreturn, 1), (28, .iload 4, 2), (30, .iconst 1, 1), (31, .if_icmp .ne 91, 3), (34, .aload 0, 1), (35, .getfield 51544334491, 3), (38, .iload 3, 1), (39, .iaload, 1), (40, .iconst 3, 1), (41, .if_icmp .ge 66, 3), (44, .aload 0, 1), (45, .getfield 25770860587, 3), (48, .iconst 3, 1), (49, .aload 0, 1), (50, .getfield 619, 3), (53, .imul, 1), (54, .aload 0, 1), (55, .getfield 51544334491, 3), (58, .iload 3, 1), (59, .iaload, 1), (60, .iadd, 1), (61, .iaload, 1), (62, .i2l, 1), (63, .goto 90, 3), (66, .aload 0, 1), (67, .getfield 25770860587, 3), (70, .iconst 3, 1), (71, .iconst 8, 2), (73, .aload 0, 1), (74, .getfield 635, 3), (77, .iadd, 1), (78, .imul, 1), (79, .aload 0, 1), (80, .getfield 51544334491, 3), (83, .iload 3, 1), (84, .iaload, 1), (85, .iadd, 1), (86, .iconst 3, 1), (87, .isub, 1), (88, .iaload, 1), (89, .i2l, 1), (90, .lreturn, 1), (91, .iload 4, 2), (93, .iconst 2, 1), (94, .if_icmp .ne 109, 3), (97, .aload 0, 1), (98, .iload 1, 1), (99, .aload 0, 1), (100, .getfield 51544334491, 3), (103, .iload 3, 1), (104, .iaload, 1), (105, .invokestatic 56796079, 3), (108, .lreturn, 1), (109, .aload 0, 1), (110, .iload 1, 1), (111, .aload 0, 1), (112, .getfield 51544858795, 3), (115, .iload 3, 1), (116, .iaload, 1), (117, .invokestatic 56927153, 3), (120, .lstore 5, 2), (122, .aload 0, 1), (123, .getfield 539, 3), (126, .ifCond .eq 131, 3), (129, .sipush 0, 1), (130, .lreturn, 1), (131, .iload 4, 2), (133, .iconst 6, 2), (135, .if_icmp .ne 148, 3), (138, .aload 0, 1), (139, .lload 5, 2), (141, .lneg, 1), (142, .iload 1, 1), (143, .iload 3, 1), (144, .invokestatic 56796336, 3), (147, .lreturn, 1), (148, .iload 4, 2), (150, .iconst 7, 2), (152, .if_icmp .ne 171, 3), (155, .lload 5, 2), (157, .sipush 0, 1), (158, .multianewarray 3 168, 4), (162, .lload 5, 2), (164, .lneg, 1), (165, .goto 170, 3), (168, .lload 5, 2), (170, .lreturn, 1), (171, .aload 0, 1), (172, .iload 1, 1), (173, .aload 0, 1), (174, .getfield 51545383099, 3), (177, .iload 3, 1), (178, .iaload, 1), (179, .invokestatic 56927153, 3), (182, .lstore 7, 2), (184, .aload 0, 1), (185, .getfield 539, 3), (188, .ifCond .eq 193, 3), (191, .sipush 0, 1), (192, .lreturn, 1), (193, .iload 4, 2), (195, .iconst 12, 2), (197, .if_icmp .ne 229, 3), (200, .aload 0, 1), (201, .iload 1, 1), (202, .lload 5, 2), (204, .lload 7, 2), (206, .multianewarray 3 219, 4), (210, .aload 0, 1), (211, .getfield 51545907403, 3), (214, .iload 3, 1), (215, .iaload, 1), (216, .goto 225, 3), (219, .aload 0, 1), (220, .getfield 51546431707, 3), (223, .iload 3, 1), (224, .iaload, 1), (225, .invokestatic 56927153, 3), (228, .lreturn, 1), (229, .iload 4, 2), (231, .iconst 3, 1), (232, .if_icmp .ne 247, 3), (235, .aload 0, 1), (236, .lload 5, 2), (238, .lload 7, 2), (240, .ladd, 1), (241, .iload 1, 1), (242, .iload 3, 1), (243, .invokestatic 56796336, 3), (246, .lreturn, 1), (247, .iload 4, 2), (249, .iconst 4, 1), (250, .if_icmp .ne 265, 3), (253, .aload 0, 1), (254, .lload 5, 2), (256, .lload 7, 2), (258, .lsub, 1), (259, .iload 1, 1), (260, .iload 3, 1), (261, .invokestatic 56796336, 3), (264, .lreturn, 1), (265, .iload 4, 2), (267, .iconst 5, 1), (268, .if_icmp .ne 283, 3), (271, .aload 0, 1), (272, .lload 5, 2), (274, .lload 7, 2), (276, .lmul, 1), (277, .iload 1, 1), (278, .iload 3, 1), (279, .invokestatic 56796336, 3), (282, .lreturn, 1), (283, .iload 4, 2), (285, .iconst 8, 2), (287, .if_icmp .ne 306, 3), (290, .lload 5, 2), (292, .lload 7, 2), (294, .multianewarray 3 303, 4), (298, .lload 5, 2), (300, .goto 305, 3), (303, .lload 7, 2), (305, .lreturn, 1), (306, .iload 4, 2), (308, .iconst 9, 2), (310, .if_icmp .ne 329, 3), (313, .lload 5, 2), (315, .lload 7, 2), (317, .multianewarray 3 326, 4), (321, .lload 7, 2), (323, .goto 328, 3), (326, .lload 5, 2), (328, .lreturn, 1), (329, .lload 7, 2), (331, .sipush 0, 1), (332, .multianewarray 1 344, 4), (336, .aload 0, 1), (337, .iconst 1, 1), (338, .iload 1, 1), (339, .iload 3, 1), (340, .invokestatic 56763565, 3), (343, .lreturn, 1), (344, .iload 4, 2), (346, .iconst 10, 2), (348, .if_icmp .ne 361, 3), (351, .lload 5, 2), (353, .lload 7, 2), (355, .invokestatic 298001138, 3), (358, .goto 368, 3), (361, .lload 5, 2), (363, .lload 7, 2), (365, .invokestatic 298001139, 3), (368, .lreturn, 1)]
def jcX11_asked : List (Nat × Instr × Nat) := [(0, .aload 0, 1), (1, .iconst 0, 1), (2, .putfield 539, 3), (5, .aload 0, 1), (6, .iload 2, 1), (7, .putfield 619, 3), (10, .aload 0, 1), (11, .iload 3, 1), (12, .putfield 635, 3), (15, .aload 0, 1), (16, .iload 1, 1), (17, .invokestatic 56697518, 3), (20, .lreturn, 1)]
def jcX11_value : List (Nat × Instr × Nat) := [(0, .iload 1, 1), (1, .i2l, 1), (2, .sipush 0, 1), (3, .sipush 3, 3), (6, .invokestatic 23278475, 3), (9, .ifCond .eq 20, 3), (12, .iload 2, 1), (13, .iload 3, 1), (14, .invokestatic 23147150, 3), (17, .ifCond .ne 24, 3), (20, .sipush (-4611686018427387904), 3), (23, .lreturn, 1), (24, .aload 0, 1), (25, .iload 1, 1), (26, .iload 2, 1), (27, .iload 3, 1), (28, .invokestatic 56763570, 3), (31, .lstore 4, 2), (33, .aload 0, 1), (34, .getfield 539, 3), (37, .ifCond .ne 45, 3), (40, .lload 4, 2), (42, .goto 48, 3), (45, .sipush (-4611686018427387904), 3), (48, .lreturn, 1)]
def jcX11_why : List (Nat × Instr × Nat) := [(0, .iload 1, 1), (1, .iload 2, 1), (2, .invokestatic 23147150, 3), (5, .ifCond .eq 20, 3), (8, .iload 3, 1), (9, .i2l, 1), (10, .sipush 0, 1), (11, .sipush 4, 3), (14, .invokestatic 23278475, 3), (17, .ifCond .ne 23, 3), (20, .iconst (-2), 2), (22, .ireturn, 1), (23, .aload 0, 1), (24, .iconst 0, 1), (25, .iload 1, 1), (26, .iload 2, 1), (27, .invokestatic 56763570, 3), (30, .pop2, 1), (31, .iload 3, 1), (32, .ifCond .ne 40, 3), (35, .aload 0, 1), (36, .getfield 539, 3), (39, .ireturn, 1), (40, .aload 0, 1), (41, .getfield 539, 3), (44, .ifCond .ne 49, 3), (47, .iconst (-1), 1), (48, .ireturn, 1), (49, .iload 3, 1), (50, .iconst 1, 1), (51, .if_icmp .ne 61, 3), (54, .aload 0, 1), (55, .getfield 555, 3), (58, .goto 89, 3), (61, .iload 3, 1), (62, .iconst 2, 1), (63, .if_icmp .ne 73, 3), (66, .aload 0, 1), (67, .getfield 571, 3), (70, .goto 89, 3), (73, .iload 3, 1), (74, .iconst 3, 1), (75, .if_icmp .ne 85, 3), (78, .aload 0, 1), (79, .getfield 587, 3), (82, .goto 89, 3), (85, .aload 0, 1), (86, .getfield 603, 3), (89, .ireturn, 1)]
def jcX11_burdenOf : List (Nat × Instr × Nat) := [(0, .aload 0, 1), (1, .getfield 34361335867, 3), (4, .iconst 8, 2), (6, .iload 1, 1), (7, .imul, 1), (8, .iload 2, 1), (9, .iadd, 1), (10, .laload, 1), (11, .lstore 3, 1), (12, .lload 3, 1), (13, .sipush (-1), 3), (16, .multianewarray 0 22, 4), (20, .lload 3, 1), (21, .lreturn, 1), (22, .aload 0, 1), (23, .iconst 0, 1), (24, .iload 1, 1), (25, .iload 2, 1), (26, .invokestatic 56763570, 3), (29, .lstore 3, 1), (30, .aload 0, 1), (31, .getfield 539, 3), (34, .ifCond .eq 43, 3), (37, .sipush (-1), 3), (40, .goto 54, 3), (43, .lload 3, 1), (44, .sipush 0, 1), (45, .multianewarray 3 53, 4), (49, .sipush 0, 1), (50, .goto 54, 3), (53, .lload 3, 1), (54, .lreturn, 1)]
def jcX11_forcedOf : List (Nat × Instr × Nat) := [(0, .iconst 0, 1), (1, .istore 3, 1), (2, .iconst 0, 1), (3, .istore 4, 2), (5, .iload 4, 2), (7, .iconst 8, 2), (9, .if_icmp .ge 62, 3), (12, .iload 4, 2), (14, .iload 2, 1), (15, .if_icmp .eq 34, 3), (18, .aload 0, 1), (19, .iconst 8, 2), (21, .iload 1, 1), (22, .imul, 1), (23, .iload 4, 2), (25, .iadd, 1), (26, .iaload, 1), (27, .iconst 2, 1), (28, .if_icmp .ne 34, 3), (31, .iinc 3 1, 3), (34, .iload 4, 2), (36, .iload 1, 1), (37, .if_icmp .eq 56, 3), (40, .aload 0, 1), (41, .iconst 8, 2), (43, .iload 4, 2), (45, .imul, 1), (46, .iload 2, 1), (47, .iadd, 1), (48, .iaload, 1), (49, .iconst 2, 1), (50, .if_icmp .ne 56, 3), (53, .iinc 3 1, 3), (56, .iinc 4 1, 3), (59, .goto 5, 3), (62, .iload 3, 1), (63, .ireturn, 1)]
def jcX11_isOpen : List (Nat × Instr × Nat) := [(0, .iconst 8, 2), (2, .iload 2, 1), (3, .imul, 1), (4, .iload 3, 1), (5, .iadd, 1), (6, .istore 4, 2), (8, .aload 0, 1), (9, .iload 2, 1), (10, .invokestatic 56701583, 3), (13, .ifCond .eq 59, 3), (16, .aload 0, 1), (17, .iload 3, 1), (18, .invokestatic 56701584, 3), (21, .ifCond .eq 59, 3), (24, .aload 0, 1), (25, .getfield 34372346507, 3), (28, .iload 4, 2), (30, .laload, 1), (31, .sipush (-1), 3), (34, .multianewarray 0 59, 4), (38, .aload 1, 1), (39, .iload 4, 2), (41, .iaload, 1), (42, .iconst 1, 1), (43, .if_icmp .eq 59, 3), (46, .aload 1, 1), (47, .iload 2, 1), (48, .iload 3, 1), (49, .invokestatic 23237558, 3), (52, .ifCond .ne 59, 3), (55, .iconst 1, 1), (56, .goto 60, 3), (59, .iconst 0, 1), (60, .ireturn, 1)]
def jcX11_tellsBurdens : List (Nat × Instr × Nat) := [(0, .iconst 0, 1), (1, .istore 1, 1), (2, .iload 1, 1), (3, .iconst 64, 2), (5, .if_icmp .ge 32, 3), (8, .aload 0, 1), (9, .getfield 34372346507, 3), (12, .iload 1, 1), (13, .aload 0, 1), (14, .iload 1, 1), (15, .iconst 8, 2), (17, .idiv, 1), (18, .iload 1, 1), (19, .iconst 8, 2), (21, .irem, 1), (22, .invokestatic 56796085, 3), (25, .lastore, 1), (26, .iinc 1 1, 3), (29, .goto 2, 3), (32, .return_, 1)]
def jcX11_opens_ : List (Nat × Instr × Nat) := [(0, .iconst 0, 1), (1, .istore 2, 1), (2, .iload 2, 1), (3, .iconst 64, 2), (5, .if_icmp .ge 48, 3), (8, .aload 0, 1), (9, .getfield 34372870811, 3), (12, .iload 2, 1), (13, .aload 0, 1), (14, .aload 1, 1), (15, .iload 2, 1), (16, .iconst 8, 2), (18, .idiv, 1), (19, .iload 2, 1), (20, .iconst 8, 2), (22, .irem, 1), (23, .invokestatic 56800439, 3), (26, .ifCond .eq 38, 3), (29, .aload 0, 1), (30, .getfield 34372346507, 3), (33, .iload 2, 1), (34, .laload, 1), (35, .goto 41, 3), (38, .sipush (-1), 3), (41, .lastore, 1), (42, .iinc 2 1, 3), (45, .goto 2, 3), (48, .return_, 1)]
def jcX11_costs : List (Nat × Instr × Nat) := [(0, .aload 0, 1), (1, .invokestatic 56689080, 3), (4, .aload 0, 1), (5, .aload 0, 1), (6, .getfield 34361843787, 3), (9, .invokestatic 56722105, 3), (12, .return_, 1)]
def jcX11_burden : List (Nat × Instr × Nat) := [(0, .iload 1, 1), (1, .iload 2, 1), (2, .invokestatic 23147150, 3), (5, .ifCond .ne 12, 3), (8, .sipush (-4611686018427387904), 3), (11, .lreturn, 1), (12, .aload 0, 1), (13, .iload 1, 1), (14, .iload 2, 1), (15, .invokestatic 56796085, 3), (18, .lstore 3, 1), (19, .lload 3, 1), (20, .sipush (-1), 3), (23, .multianewarray 1 33, 4), (27, .sipush (-4611686018427387904), 3), (30, .goto 34, 3), (33, .lload 3, 1), (34, .lreturn, 1)]
def jcX11_mark : List (Nat × Instr × Nat) := [(0, .iload 1, 1), (1, .iload 2, 1), (2, .invokestatic 23147150, 3), (5, .ifCond .eq 20, 3), (8, .iload 3, 1), (9, .i2l, 1), (10, .sipush 0, 1), (11, .sipush 2, 3), (14, .invokestatic 23278475, 3), (17, .ifCond .ne 23, 3), (20, .iconst (-2), 2), (22, .ireturn, 1), (23, .iload 3, 1), (24, .iconst 2, 1), (25, .if_icmp .ne 43, 3), (28, .aload 0, 1), (29, .getfield 34361843787, 3), (32, .iload 1, 1), (33, .iload 2, 1), (34, .invokestatic 23237558, 3), (37, .ifCond .le 43, 3), (40, .iconst (-3), 2), (42, .ireturn, 1), (43, .aload 0, 1), (44, .getfield 34361843787, 3), (47, .iconst 8, 2), (49, .iload 1, 1), (50, .imul, 1), (51, .iload 2, 1), (52, .iadd, 1), (53, .iaload, 1), (54, .istore 4, 2), (56, .aload 0, 1), (57, .getfield 34361843787, 3), (60, .iconst 8, 2), (62, .iload 1, 1), (63, .imul, 1), (64, .iload 2, 1), (65, .iadd, 1), (66, .iload 3, 1), (67, .iastore, 1), (68, .iload 4, 2), (70, .ireturn, 1)]
def jcX11_open : List (Nat × Instr × Nat) := [(0, .iload 1, 1), (1, .iload 2, 1), (2, .invokestatic 23147150, 3), (5, .ifCond .ne 11, 3), (8, .iconst (-2), 2), (10, .ireturn, 1), (11, .aload 0, 1), (12, .invokestatic 56656314, 3), (15, .aload 0, 1), (16, .getfield 34372870811, 3), (19, .iconst 8, 2), (21, .iload 1, 1), (22, .imul, 1), (23, .iload 2, 1), (24, .iadd, 1), (25, .laload, 1), (26, .sipush (-1), 3), (29, .multianewarray 1 37, 4), (33, .iconst 0, 1), (34, .goto 38, 3), (37, .iconst 1, 1), (38, .ireturn, 1)]
def jcX11_openMany : List (Nat × Instr × Nat) := [(0, .iconst 0, 1), (1, .istore 1, 1), (2, .iconst 0, 1), (3, .istore 2, 1), (4, .iload 2, 1), (5, .iconst 64, 2), (7, .if_icmp .ge 32, 3), (10, .aload 0, 1), (11, .getfield 34372870811, 3), (14, .iload 2, 1), (15, .laload, 1), (16, .sipush (-1), 3), (19, .multianewarray 0 26, 4), (23, .iinc 1 1, 3), (26, .iinc 2 1, 3), (29, .goto 4, 3), (32, .iload 1, 1), (33, .ireturn, 1)]
def jcX11_least : List (Nat × Instr × Nat) := [(0, .iconst 0, 1), (1, .istore 1, 1), (2, .iload 1, 1), (3, .iconst 256, 3), (6, .if_icmp .ge 37, 3), (9, .aload 0, 1), (10, .getfield 1236964237995, 3), (13, .iconst 2048, 3), (16, .iload 1, 1), (17, .iadd, 1), (18, .sipush 0, 1), (19, .lastore, 1), (20, .aload 0, 1), (21, .getfield 1236964745915, 3), (24, .iconst 2048, 3), (27, .iload 1, 1), (28, .iadd, 1), (29, .iconst 1, 1), (30, .iastore, 1), (31, .iinc 1 1, 3), (34, .goto 2, 3), (37, .iconst 7, 2), (39, .istore 1, 1), (40, .iload 1, 1), (41, .ifCond .lt 297, 3), (44, .iconst 0, 1), (45, .istore 2, 1), (46, .iload 2, 1), (47, .iconst 256, 3), (50, .if_icmp .ge 291, 3), (53, .iload 1, 1), (54, .iconst 256, 3), (57, .imul, 1), (58, .iload 2, 1), (59, .iadd, 1), (60, .istore 3, 1), (61, .aload 0, 1), (62, .getfield 1236964237995, 3), (65, .iload 3, 1), (66, .aload 0, 1), (67, .iload 1, 1), (68, .invokestatic 56701584, 3), (71, .ifCond .eq 80, 3), (74, .sipush 1125899906842624, 3), (77, .goto 90, 3), (80, .aload 0, 1), (81, .getfield 1236964237995, 3), (84, .iload 3, 1), (85, .iconst 256, 3), (88, .iadd, 1), (89, .laload, 1), (90, .lastore, 1), (91, .aload 0, 1), (92, .getfield 1236964745915, 3), (95, .iload 3, 1), (96, .aload 0, 1), (97, .iload 1, 1), (98, .invokestatic 56701584, 3), (101, .ifCond .eq 108, 3), (104, .iconst 0, 1), (105, .goto 118, 3), (108, .aload 0, 1), (109, .getfield 1236964745915, 3), (112, .iload 3, 1), (113, .iconst 256, 3), (116, .iadd, 1), (117, .iaload, 1), (118, .iastore, 1), (119, .iconst 0, 1), (120, .istore 4, 2), (122, .iload 4, 2), (124, .iconst 8, 2), (126, .if_icmp .ge 285, 3), (129, .aload 0, 1), (130, .iload 1, 1), (131, .invokestatic 56701584, 3), (134, .ifCond .eq 285, 3), (137, .iload 2, 1), (138, .iload 4, 2), (140, .ishr, 1), (141, .iconst 1, 1), (142, .iand, 1), (143, .iconst 1, 1), (144, .if_icmp .eq 279, 3), (147, .aload 0, 1), (148, .getfield 34372870811, 3), (151, .iconst 8, 2), (153, .iload 4, 2), (155, .imul, 1), (156, .iload 1, 1), (157, .iadd, 1), (158, .laload, 1), (159, .sipush (-1), 3), (162, .multianewarray 1 169, 4), (166, .goto 279, 3), (169, .iload 1, 1), (170, .iconst 1, 1), (171, .iadd, 1), (172, .iconst 256, 3), (175, .imul, 1), (176, .iload 2, 1), (177, .iconst 1, 1), (178, .iload 4, 2), (180, .ishl, 1), (181, .ior, 1), (182, .iadd, 1), (183, .istore 5, 2), (185, .aload 0, 1), (186, .getfield 1236964237995, 3), (189, .iload 5, 2), (191, .laload, 1), (192, .sipush 1125899906842624, 3), (195, .multianewarray 1 202, 4), (199, .goto 279, 3), (202, .aload 0, 1), (203, .getfield 34372870811, 3), (206, .iconst 8, 2), (208, .iload 4, 2), (210, .imul, 1), (211, .iload 1, 1), (212, .iadd, 1), (213, .laload, 1), (214, .aload 0, 1), (215, .getfield 1236964237995, 3), (218, .iload 5, 2), (220, .laload, 1), (221, .ladd, 1), (222, .lstore 6, 2), (224, .lload 6, 2), (226, .aload 0, 1), (227, .getfield 1236964237995, 3), (230, .iload 3, 1), (231, .laload, 1), (232, .multianewarray 3 251, 4), (236, .aload 0, 1), (237, .getfield 1236964237995, 3), (240, .iload 3, 1), (241, .lload 6, 2), (243, .lastore, 1), (244, .aload 0, 1), (245, .getfield 1236964745915, 3), (248, .iload 3, 1), (249, .iconst 0, 1), (250, .iastore, 1), (251, .lload 6, 2), (253, .aload 0, 1), (254, .getfield 1236964237995, 3), (257, .iload 3, 1), (258, .laload, 1), (259, .multianewarray 1 279, 4), (263, .aload 0, 1), (264, .getfield 1236964745915, 3), (267, .iload 3, 1), (268, .dup2, 1), (269, .iaload, 1), (270, .aload 0, 1), (271, .getfield 1236964745915, 3), (274, .iload 5, 2), (276, .iaload, 1), (277, .iadd, 1), (278, .iastore, 1), (279, .iinc 4 1, 3), (282, .goto 122, 3), (285, .iinc 2 1, 3), (288, .goto 46, 3), (291, .iinc 1 (-1), 3), (294, .goto 40, 3), (297, .aload 0, 1), (298, .getfield 1236964237995, 3), (301, .iconst 0, 1), (302, .laload, 1), (303, .lreturn, 1)]
def jcX11_toldOr : List (Nat × Instr × Nat) := [(0, .lload 0, 1), (1, .sipush 1125899906842624, 3), (4, .multianewarray 1 14, 4), (8, .sipush (-4611686018427387904), 3), (11, .goto 15, 3), (14, .lload 0, 1), (15, .lreturn, 1)]
def jcX11_picks : List (Nat × Instr × Nat) := [(0, .iload 1, 1), (1, .istore 2, 1), (2, .iconst 0, 1), (3, .istore 3, 1), (4, .iconst 0, 1), (5, .istore 4, 2), (7, .iload 4, 2), (9, .iconst 8, 2), (11, .if_icmp .ge 225, 3), (14, .aload 0, 1), (15, .getfield 4309656267, 3), (18, .iload 4, 2), (20, .iconst (-1), 1), (21, .iastore, 1), (22, .iconst 0, 1), (23, .istore 5, 2), (25, .iload 5, 2), (27, .iconst 8, 2), (29, .if_icmp .ge 196, 3), (32, .aload 0, 1), (33, .iload 4, 2), (35, .invokestatic 56701584, 3), (38, .ifCond .eq 196, 3), (41, .aload 0, 1), (42, .getfield 4309656267, 3), (45, .iload 4, 2), (47, .iaload, 1), (48, .iconst (-1), 1), (49, .if_icmp .ne 196, 3), (52, .iload 3, 1), (53, .iload 5, 2), (55, .ishr, 1), (56, .iconst 1, 1), (57, .iand, 1), (58, .iconst 1, 1), (59, .if_icmp .eq 190, 3), (62, .aload 0, 1), (63, .getfield 34372870811, 3), (66, .iconst 8, 2), (68, .iload 5, 2), (70, .imul, 1), (71, .iload 4, 2), (73, .iadd, 1), (74, .laload, 1), (75, .sipush (-1), 3), (78, .multianewarray 1 85, 4), (82, .goto 190, 3), (85, .iload 4, 2), (87, .iconst 1, 1), (88, .iadd, 1), (89, .iconst 256, 3), (92, .imul, 1), (93, .iload 3, 1), (94, .iconst 1, 1), (95, .iload 5, 2), (97, .ishl, 1), (98, .ior, 1), (99, .iadd, 1), (100, .istore 6, 2), (102, .aload 0, 1), (103, .getfield 1236964237995, 3), (106, .iload 6, 2), (108, .laload, 1), (109, .sipush 1125899906842624, 3), (112, .multianewarray 0 190, 4), (116, .aload 0, 1), (117, .getfield 34372870811, 3), (120, .iconst 8, 2), (122, .iload 5, 2), (124, .imul, 1), (125, .iload 4, 2), (127, .iadd, 1), (128, .laload, 1), (129, .aload 0, 1), (130, .getfield 1236964237995, 3), (133, .iload 6, 2), (135, .laload, 1), (136, .ladd, 1), (137, .aload 0, 1), (138, .getfield 1236964237995, 3), (141, .iload 4, 2), (143, .iconst 256, 3), (146, .imul, 1), (147, .iload 3, 1), (148, .iadd, 1), (149, .laload, 1), (150, .multianewarray 0 157, 4), (154, .goto 190, 3), (157, .iload 2, 1), (158, .aload 0, 1), (159, .getfield 1236964745915, 3), (162, .iload 6, 2), (164, .iaload, 1), (165, .if_icmp .lt 181, 3), (168, .iload 2, 1), (169, .aload 0, 1), (170, .getfield 1236964745915, 3), (173, .iload 6, 2), (175, .iaload, 1), (176, .isub, 1), (177, .istore 2, 1), (178, .goto 190, 3), (181, .aload 0, 1), (182, .getfield 4309656267, 3), (185, .iload 4, 2), (187, .iload 5, 2), (189, .iastore, 1), (190, .iinc 5 1, 3), (193, .goto 25, 3), (196, .aload 0, 1), (197, .getfield 4309656267, 3), (200, .iload 4, 2), (202, .iaload, 1), (203, .iconst (-1), 1), (204, .if_icmp .eq 219, 3), (207, .iload 3, 1), (208, .iconst 1, 1), (209, .aload 0, 1), (210, .getfield 4309656267, 3), (213, .iload 4, 2), (215, .iaload, 1), (216, .ishl, 1), (217, .ior, 1), (218, .istore 3, 1), (219, .iinc 4 1, 3), (222, .goto 7, 3), (225, .return_, 1)]
def jcX11_tell : List (Nat × Instr × Nat) := [(0, .iload 1, 1), (1, .iload 2, 1), (2, .invokestatic 23147150, 3), (5, .ifCond .eq 21, 3), (8, .lload 3, 1), (9, .sipush (-1), 3), (12, .sipush 1000000000, 3), (15, .invokestatic 23278475, 3), (18, .ifCond .ne 25, 3), (21, .sipush (-2), 3), (24, .lreturn, 1), (25, .aload 0, 1), (26, .getfield 34361335867, 3), (29, .iconst 8, 2), (31, .iload 1, 1), (32, .imul, 1), (33, .iload 2, 1), (34, .iadd, 1), (35, .lload 3, 1), (36, .lastore, 1), (37, .aload 0, 1), (38, .invokestatic 56664515, 3), (41, .lreturn, 1)]
def jcX11_total : List (Nat × Instr × Nat) := [(0, .aload 0, 1), (1, .invokestatic 56656314, 3), (4, .aload 0, 1), (5, .invokestatic 56893887, 3), (8, .invokestatic 23142848, 3), (11, .lreturn, 1)]
def jcX11_many : List (Nat × Instr × Nat) := [(0, .aload 0, 1), (1, .invokestatic 56656314, 3), (4, .aload 0, 1), (5, .invokestatic 56893887, 3), (8, .sipush 1125899906842624, 3), (11, .multianewarray 1 19, 4), (15, .iconst 0, 1), (16, .goto 25, 3), (19, .aload 0, 1), (20, .getfield 1236964745915, 3), (23, .iconst 0, 1), (24, .iaload, 1), (25, .ireturn, 1)]
def jcX11_best : List (Nat × Instr × Nat) := [(0, .iload 2, 1), (1, .i2l, 1), (2, .sipush 0, 1), (3, .sipush 7, 3), (6, .invokestatic 23278475, 3), (9, .ifCond .ne 15, 3), (12, .iconst (-2), 2), (14, .ireturn, 1), (15, .aload 0, 1), (16, .invokestatic 56656314, 3), (19, .aload 0, 1), (20, .invokestatic 56893887, 3), (23, .sipush 1125899906842624, 3), (26, .multianewarray 0 48, 4), (30, .iload 1, 1), (31, .i2l, 1), (32, .sipush 0, 1), (33, .aload 0, 1), (34, .getfield 1236964745915, 3), (37, .iconst 0, 1), (38, .iaload, 1), (39, .iconst 1, 1), (40, .isub, 1), (41, .i2l, 1), (42, .invokestatic 23278475, 3), (45, .ifCond .ne 51, 3), (48, .iconst (-3), 2), (50, .ireturn, 1), (51, .aload 0, 1), (52, .iload 1, 1), (53, .invokestatic 56853185, 3), (56, .aload 0, 1), (57, .getfield 4309656267, 3), (60, .iload 2, 1), (61, .iaload, 1), (62, .ireturn, 1)]
def jcX11_with : List (Nat × Instr × Nat) := [(0, .aload 0, 1), (1, .getfield 34372870811, 3), (4, .iconst 8, 2), (6, .iload 1, 1), (7, .imul, 1), (8, .iload 2, 1), (9, .iadd, 1), (10, .laload, 1), (11, .sipush (-1), 3), (14, .multianewarray 1 22, 4), (18, .sipush 1125899906842624, 3), (21, .lreturn, 1), (22, .iconst 0, 1), (23, .istore 3, 1), (24, .iload 3, 1), (25, .iconst 8, 2), (27, .if_icmp .ge 72, 3), (30, .aload 0, 1), (31, .getfield 4310196955, 3), (34, .iload 3, 1), (35, .aload 0, 1), (36, .getfield 34372870811, 3), (39, .iconst 8, 2), (41, .iload 3, 1), (42, .imul, 1), (43, .iload 2, 1), (44, .iadd, 1), (45, .laload, 1), (46, .lastore, 1), (47, .iload 3, 1), (48, .iload 1, 1), (49, .if_icmp .eq 66, 3), (52, .aload 0, 1), (53, .getfield 34372870811, 3), (56, .iconst 8, 2), (58, .iload 3, 1), (59, .imul, 1), (60, .iload 2, 1), (61, .iadd, 1), (62, .sipush (-1), 3), (65, .lastore, 1), (66, .iinc 3 1, 3), (69, .goto 24, 3), (72, .aload 0, 1), (73, .invokestatic 56893887, 3), (76, .lstore 3, 1), (77, .iconst 0, 1), (78, .istore 5, 2), (80, .iload 5, 2), (82, .iconst 8, 2), (84, .if_icmp .ge 112, 3), (87, .aload 0, 1), (88, .getfield 34372870811, 3), (91, .iconst 8, 2), (93, .iload 5, 2), (95, .imul, 1), (96, .iload 2, 1), (97, .iadd, 1), (98, .aload 0, 1), (99, .getfield 4310196955, 3), (102, .iload 5, 2), (104, .laload, 1), (105, .lastore, 1), (106, .iinc 5 1, 3), (109, .goto 80, 3), (112, .lload 3, 1), (113, .lreturn, 1)]
def jcX11_lacking : List (Nat × Instr × Nat) := [(0, .aload 0, 1), (1, .getfield 34372870811, 3), (4, .iconst 8, 2), (6, .iload 1, 1), (7, .imul, 1), (8, .iload 2, 1), (9, .iadd, 1), (10, .laload, 1), (11, .lstore 3, 1), (12, .aload 0, 1), (13, .getfield 34372870811, 3), (16, .iconst 8, 2), (18, .iload 1, 1), (19, .imul, 1), (20, .iload 2, 1), (21, .iadd, 1), (22, .sipush (-1), 3), (25, .lastore, 1), (26, .aload 0, 1), (27, .invokestatic 56893887, 3), (30, .lstore 5, 2), (32, .aload 0, 1), (33, .getfield 34372870811, 3), (36, .iconst 8, 2), (38, .iload 1, 1), (39, .imul, 1), (40, .iload 2, 1), (41, .iadd, 1), (42, .lload 3, 1), (43, .lastore, 1), (44, .lload 5, 2), (46, .lreturn, 1)]
def jcX11_kind : List (Nat × Instr × Nat) := [(0, .iload 1, 1), (1, .iload 2, 1), (2, .invokestatic 23147150, 3), (5, .ifCond .ne 11, 3), (8, .iconst (-2), 2), (10, .ireturn, 1), (11, .aload 0, 1), (12, .invokestatic 56656314, 3), (15, .aload 0, 1), (16, .invokestatic 56893887, 3), (19, .lstore 3, 1), (20, .lload 3, 1), (21, .sipush 1125899906842624, 3), (24, .multianewarray 1 31, 4), (28, .iconst (-3), 2), (30, .ireturn, 1), (31, .aload 0, 1), (32, .iload 1, 1), (33, .iload 2, 1), (34, .invokestatic 56828870, 3), (37, .lload 3, 1), (38, .multianewarray 0 46, 4), (42, .iconst 0, 1), (43, .goto 62, 3), (46, .aload 0, 1), (47, .iload 1, 1), (48, .iload 2, 1), (49, .invokestatic 56861639, 3), (52, .lload 3, 1), (53, .multianewarray 1 61, 4), (57, .iconst 1, 1), (58, .goto 62, 3), (61, .iconst 2, 1), (62, .ireturn, 1)]
def jcX11_room : List (Nat × Instr × Nat) := [(0, .iload 1, 1), (1, .iload 2, 1), (2, .invokestatic 23147150, 3), (5, .ifCond .eq 18, 3), (8, .iload 3, 1), (9, .i2l, 1), (10, .sipush 0, 1), (11, .sipush 1, 1), (12, .invokestatic 23278475, 3), (15, .ifCond .ne 22, 3), (18, .sipush (-4611686018427387904), 3), (21, .lreturn, 1), (22, .aload 0, 1), (23, .invokestatic 56656314, 3), (26, .iload 3, 1), (27, .ifCond .ne 39, 3), (30, .aload 0, 1), (31, .iload 1, 1), (32, .iload 2, 1), (33, .invokestatic 56828870, 3), (36, .goto 45, 3), (39, .aload 0, 1), (40, .iload 1, 1), (41, .iload 2, 1), (42, .invokestatic 56861639, 3), (45, .invokestatic 23142848, 3), (48, .lreturn, 1)]
def jcX11_enters : List (Nat × Instr × Nat) := [(0, .aload 0, 1), (1, .getfield 779, 3), (4, .istore 3, 1), (5, .iload 3, 1), (6, .ifCond .le 84, 3), (9, .aload 0, 1), (10, .getfield 6995075819, 3), (13, .iload 3, 1), (14, .iconst 1, 1), (15, .isub, 1), (16, .laload, 1), (17, .lload 1, 1), (18, .multianewarray 5 84, 4), (22, .aload 0, 1), (23, .getfield 6995075819, 3), (26, .iload 3, 1), (27, .aload 0, 1), (28, .getfield 6995075819, 3), (31, .iload 3, 1), (32, .iconst 1, 1), (33, .isub, 1), (34, .laload, 1), (35, .lastore, 1), (36, .iconst 0, 1), (37, .istore 4, 2), (39, .iload 4, 2), (41, .iconst 8, 2), (43, .if_icmp .ge 78, 3), (46, .aload 0, 1), (47, .getfield 55850836731, 3), (50, .iconst 8, 2), (52, .iload 3, 1), (53, .imul, 1), (54, .iload 4, 2), (56, .iadd, 1), (57, .aload 0, 1), (58, .getfield 55850836731, 3), (61, .iconst 8, 2), (63, .iload 3, 1), (64, .iconst 1, 1), (65, .isub, 1), (66, .imul, 1), (67, .iload 4, 2), (69, .iadd, 1), (70, .iaload, 1), (71, .iastore, 1), (72, .iinc 4 1, 3), (75, .goto 39, 3), (78, .iinc 3 (-1), 3), (81, .goto 5, 3), (84, .aload 0, 1), (85, .getfield 6995075819, 3), (88, .iload 3, 1), (89, .lload 1, 1), (90, .lastore, 1), (91, .iconst 0, 1), (92, .istore 4, 2), (94, .iload 4, 2), (96, .iconst 8, 2), (98, .if_icmp .ge 126, 3), (101, .aload 0, 1), (102, .getfield 55850836731, 3), (105, .iconst 8, 2), (107, .iload 3, 1), (108, .imul, 1), (109, .iload 4, 2), (111, .iadd, 1), (112, .aload 0, 1), (113, .getfield 4309656267, 3), (116, .iload 4, 2), (118, .iaload, 1), (119, .iastore, 1), (120, .iinc 4 1, 3), (123, .goto 94, 3), (126, .aload 0, 1), (127, .getfield 779, 3), (130, .iconst 12, 2), (132, .if_icmp .ge 145, 3), (135, .aload 0, 1), (136, .dup, 1), (137, .getfield 779, 3), (140, .iconst 1, 1), (141, .iadd, 1), (142, .putfield 779, 3), (145, .return_, 1)]
def jcX11_walks : List (Nat × Instr × Nat) := [(0, .iload 1, 1), (1, .iconst 8, 2), (3, .if_icmp .ne 12, 3), (6, .aload 0, 1), (7, .lload 3, 1), (8, .invokestatic 56787658, 3), (11, .return_, 1), (12, .aload 0, 1), (13, .getfield 4309656267, 3), (16, .iload 1, 1), (17, .iconst (-1), 1), (18, .iastore, 1), (19, .aload 0, 1), (20, .iload 1, 1), (21, .invokestatic 56701584, 3), (24, .ifCond .ne 37, 3), (27, .aload 0, 1), (28, .iload 1, 1), (29, .iconst 1, 1), (30, .iadd, 1), (31, .iload 2, 1), (32, .lload 3, 1), (33, .invokestatic 56952011, 3), (36, .return_, 1), (37, .iconst 0, 1), (38, .istore 5, 2), (40, .iload 5, 2), (42, .iconst 8, 2), (44, .if_icmp .ge 182, 3), (47, .iload 2, 1), (48, .iload 5, 2), (50, .ishr, 1), (51, .iconst 1, 1), (52, .iand, 1), (53, .iconst 1, 1), (54, .if_icmp .eq 176, 3), (57, .aload 0, 1), (58, .getfield 34372870811, 3), (61, .iconst 8, 2), (63, .iload 5, 2), (65, .imul, 1), (66, .iload 1, 1), (67, .iadd, 1), (68, .laload, 1), (69, .sipush (-1), 3), (72, .multianewarray 1 79, 4), (76, .goto 176, 3), (79, .aload 0, 1), (80, .getfield 1236964237995, 3), (83, .iload 1, 1), (84, .iconst 1, 1), (85, .iadd, 1), (86, .iconst 256, 3), (89, .imul, 1), (90, .iload 2, 1), (91, .iconst 1, 1), (92, .iload 5, 2), (94, .ishl, 1), (95, .ior, 1), (96, .iadd, 1), (97, .laload, 1), (98, .lstore 6, 2), (100, .lload 3, 1), (101, .aload 0, 1), (102, .getfield 34372870811, 3), (105, .iconst 8, 2), (107, .iload 5, 2), (109, .imul, 1), (110, .iload 1, 1), (111, .iadd, 1), (112, .laload, 1), (113, .ladd, 1), (114, .lstore 8, 2), (116, .lload 6, 2), (118, .sipush 1125899906842624, 3), (121, .multianewarray 0 176, 4), (125, .aload 0, 1), (126, .getfield 779, 3), (129, .iconst 12, 2), (131, .if_icmp .ne 153, 3), (134, .lload 8, 2), (136, .lload 6, 2), (138, .ladd, 1), (139, .aload 0, 1), (140, .getfield 6995075819, 3), (143, .iconst 11, 2), (145, .laload, 1), (146, .multianewarray 2 153, 4), (150, .goto 176, 3), (153, .aload 0, 1), (154, .getfield 4309656267, 3), (157, .iload 1, 1), (158, .iload 5, 2), (160, .iastore, 1), (161, .aload 0, 1), (162, .iload 1, 1), (163, .iconst 1, 1), (164, .iadd, 1), (165, .iload 2, 1), (166, .iconst 1, 1), (167, .iload 5, 2), (169, .ishl, 1), (170, .ior, 1), (171, .lload 8, 2), (173, .invokestatic 56952011, 3), (176, .iinc 5 1, 3), (179, .goto 40, 3), (182, .return_, 1)]
def jcX11_lists : List (Nat × Instr × Nat) := [(0, .aload 0, 1), (1, .iconst 0, 1), (2, .putfield 779, 3), (5, .aload 0, 1), (6, .invokestatic 56893887, 3), (9, .sipush 1125899906842624, 3), (12, .multianewarray 0 23, 4), (16, .aload 0, 1), (17, .iconst 0, 1), (18, .iconst 0, 1), (19, .sipush 0, 1), (20, .invokestatic 56952011, 3), (23, .return_, 1)]
def jcX11_next_ : List (Nat × Instr × Nat) := [(0, .iload 1, 1), (1, .i2l, 1), (2, .sipush 0, 1), (3, .sipush 11, 3), (6, .invokestatic 23278475, 3), (9, .ifCond .eq 26, 3), (12, .iload 2, 1), (13, .i2l, 1), (14, .sipush (-1), 3), (17, .sipush 7, 3), (20, .invokestatic 23278475, 3), (23, .ifCond .ne 30, 3), (26, .sipush (-4611686018427387904), 3), (29, .lreturn, 1), (30, .aload 0, 1), (31, .invokestatic 56656314, 3), (34, .aload 0, 1), (35, .invokestatic 56656332, 3), (38, .iload 1, 1), (39, .aload 0, 1), (40, .getfield 779, 3), (43, .if_icmp .lt 50, 3), (46, .sipush (-4611686018427387904), 3), (49, .lreturn, 1), (50, .iload 2, 1), (51, .iconst (-1), 1), (52, .if_icmp .ne 64, 3), (55, .aload 0, 1), (56, .getfield 6995075819, 3), (59, .iload 1, 1), (60, .laload, 1), (61, .goto 76, 3), (64, .aload 0, 1), (65, .getfield 55850836731, 3), (68, .iconst 8, 2), (70, .iload 1, 1), (71, .imul, 1), (72, .iload 2, 1), (73, .iadd, 1), (74, .iaload, 1), (75, .i2l, 1), (76, .lreturn, 1)]
def jcX11_heaviest : List (Nat × Instr × Nat) := [(0, .iconst 0, 1), (1, .istore 1, 1), (2, .iload 1, 1), (3, .iconst 256, 3), (6, .if_icmp .ge 26, 3), (9, .aload 0, 1), (10, .getfield 1236967383835, 3), (13, .iconst 2048, 3), (16, .iload 1, 1), (17, .iadd, 1), (18, .sipush 0, 1), (19, .lastore, 1), (20, .iinc 1 1, 3), (23, .goto 2, 3), (26, .iconst 7, 2), (28, .istore 1, 1), (29, .iload 1, 1), (30, .ifCond .lt 191, 3), (33, .iconst 0, 1), (34, .istore 2, 1), (35, .iload 2, 1), (36, .iconst 256, 3), (39, .if_icmp .ge 185, 3), (42, .aload 0, 1), (43, .iload 1, 1), (44, .invokestatic 56701584, 3), (47, .ifCond .eq 56, 3), (50, .sipush 1125899906842624, 3), (53, .goto 70, 3), (56, .aload 0, 1), (57, .getfield 1236967383835, 3), (60, .iload 1, 1), (61, .iconst 1, 1), (62, .iadd, 1), (63, .iconst 256, 3), (66, .imul, 1), (67, .iload 2, 1), (68, .iadd, 1), (69, .laload, 1), (70, .lstore 3, 1), (71, .iconst 0, 1), (72, .istore 5, 2), (74, .iload 5, 2), (76, .iconst 8, 2), (78, .if_icmp .ge 166, 3), (81, .aload 0, 1), (82, .iload 1, 1), (83, .invokestatic 56701584, 3), (86, .ifCond .eq 166, 3), (89, .iload 2, 1), (90, .iload 5, 2), (92, .ishr, 1), (93, .iconst 1, 1), (94, .iand, 1), (95, .iconst 1, 1), (96, .if_icmp .eq 160, 3), (99, .aload 0, 1), (100, .getfield 34372870811, 3), (103, .iconst 8, 2), (105, .iload 5, 2), (107, .imul, 1), (108, .iload 1, 1), (109, .iadd, 1), (110, .laload, 1), (111, .sipush (-1), 3), (114, .multianewarray 1 121, 4), (118, .goto 160, 3), (121, .lload 3, 1), (122, .aload 0, 1), (123, .getfield 34372870811, 3), (126, .iconst 8, 2), (128, .iload 5, 2), (130, .imul, 1), (131, .iload 1, 1), (132, .iadd, 1), (133, .laload, 1), (134, .aload 0, 1), (135, .getfield 1236967383835, 3), (138, .iload 1, 1), (139, .iconst 1, 1), (140, .iadd, 1), (141, .iconst 256, 3), (144, .imul, 1), (145, .iload 2, 1), (146, .iconst 1, 1), (147, .iload 5, 2), (149, .ishl, 1), (150, .ior, 1), (151, .iadd, 1), (152, .laload, 1), (153, .invokestatic 297935605, 3), (156, .invokestatic 297935606, 3), (159, .lstore 3, 1), (160, .iinc 5 1, 3), (163, .goto 74, 3), (166, .aload 0, 1), (167, .getfield 1236967383835, 3), (170, .iload 1, 1), (171, .iconst 256, 3), (174, .imul, 1), (175, .iload 2, 1), (176, .iadd, 1), (177, .lload 3, 1), (178, .lastore, 1), (179, .iinc 2 1, 3), (182, .goto 35, 3), (185, .iinc 1 (-1), 3), (188, .goto 29, 3), (191, .aload 0, 1), (192, .getfield 1236967383835, 3), (195, .iconst 0, 1), (196, .laload, 1), (197, .lreturn, 1)]
def jcX11_fair : List (Nat × Instr × Nat) := [(0, .iload 1, 1), (1, .i2l, 1), (2, .sipush 0, 1), (3, .sipush 2, 3), (6, .invokestatic 23278475, 3), (9, .ifCond .ne 16, 3), (12, .sipush (-4611686018427387904), 3), (15, .lreturn, 1), (16, .aload 0, 1), (17, .invokestatic 56656314, 3), (20, .aload 0, 1), (21, .invokestatic 56828366, 3), (24, .lstore 2, 1), (25, .lload 2, 1), (26, .sipush 1125899906842624, 3), (29, .multianewarray 1 37, 4), (33, .sipush (-4611686018427387904), 3), (36, .lreturn, 1), (37, .iload 1, 1), (38, .ifCond .ne 43, 3), (41, .lload 2, 1), (42, .lreturn, 1), (43, .iconst 0, 1), (44, .istore 4, 2), (46, .iconst 0, 1), (47, .istore 5, 2), (49, .iload 5, 2), (51, .iconst 64, 2), (53, .if_icmp .ge 104, 3), (56, .aload 0, 1), (57, .getfield 34372870811, 3), (60, .iload 5, 2), (62, .laload, 1), (63, .sipush (-1), 3), (66, .multianewarray 0 98, 4), (70, .aload 0, 1), (71, .getfield 34372870811, 3), (74, .iload 5, 2), (76, .laload, 1), (77, .lload 2, 1), (78, .multianewarray 4 85, 4), (82, .goto 98, 3), (85, .iinc 4 1, 3), (88, .aload 0, 1), (89, .getfield 34372870811, 3), (92, .iload 5, 2), (94, .sipush (-1), 3), (97, .lastore, 1), (98, .iinc 5 1, 3), (101, .goto 49, 3), (104, .iload 1, 1), (105, .iconst 2, 1), (106, .if_icmp .ne 115, 3), (109, .iload 4, 2), (111, .i2l, 1), (112, .goto 119, 3), (115, .aload 0, 1), (116, .invokestatic 56893887, 3), (119, .lreturn, 1)]
def jcX11_finds : List (Nat × Instr × Nat) := [(0, .iconst 0, 1), (1, .istore 2, 1), (2, .iload 2, 1), (3, .iconst 8, 2), (5, .if_icmp .ge 89, 3), (8, .aload 0, 1), (9, .getfield 4316472251, 3), (12, .iload 1, 1), (13, .iaload, 1), (14, .iload 2, 1), (15, .ishr, 1), (16, .iconst 1, 1), (17, .iand, 1), (18, .ifCond .eq 83, 3), (21, .aload 0, 1), (22, .getfield 987, 3), (25, .iload 2, 1), (26, .ishr, 1), (27, .iconst 1, 1), (28, .iand, 1), (29, .iconst 1, 1), (30, .if_icmp .ne 36, 3), (33, .goto 83, 3), (36, .aload 0, 1), (37, .dup, 1), (38, .getfield 987, 3), (41, .iconst 1, 1), (42, .iload 2, 1), (43, .ishl, 1), (44, .ior, 1), (45, .putfield 987, 3), (48, .aload 0, 1), (49, .getfield 4316996555, 3), (52, .iload 2, 1), (53, .iaload, 1), (54, .iconst (-1), 1), (55, .if_icmp .eq 74, 3), (58, .aload 0, 1), (59, .aload 0, 1), (60, .getfield 4316996555, 3), (63, .iload 2, 1), (64, .iaload, 1), (65, .invokestatic 56734416, 3), (68, .ifCond .ne 74, 3), (71, .goto 83, 3), (74, .aload 0, 1), (75, .getfield 4316996555, 3), (78, .iload 2, 1), (79, .iload 1, 1), (80, .iastore, 1), (81, .iconst 1, 1), (82, .ireturn, 1), (83, .iinc 2 1, 3), (86, .goto 2, 3), (89, .iconst 0, 1), (90, .ireturn, 1)]
def jcX11_greatest : List (Nat × Instr × Nat) := [(0, .iconst 0, 1), (1, .istore 2, 1), (2, .iload 2, 1), (3, .iconst 8, 2), (5, .if_icmp .ge 21, 3), (8, .aload 0, 1), (9, .getfield 4316996555, 3), (12, .iload 2, 1), (13, .iconst (-1), 1), (14, .iastore, 1), (15, .iinc 2 1, 3), (18, .goto 2, 3), (21, .iconst 0, 1), (22, .istore 2, 1), (23, .iconst 0, 1), (24, .istore 3, 1), (25, .iload 3, 1), (26, .iconst 8, 2), (28, .if_icmp .ge 66, 3), (31, .aload 0, 1), (32, .iconst 0, 1), (33, .putfield 987, 3), (36, .iload 3, 1), (37, .iload 1, 1), (38, .if_icmp .eq 60, 3), (41, .aload 0, 1), (42, .iload 3, 1), (43, .invokestatic 56701584, 3), (46, .ifCond .eq 60, 3), (49, .aload 0, 1), (50, .iload 3, 1), (51, .invokestatic 56734416, 3), (54, .ifCond .eq 60, 3), (57, .iinc 2 1, 3), (60, .iinc 3 1, 3), (63, .goto 25, 3), (66, .iload 2, 1), (67, .ireturn, 1)]
def jcX11_marking : List (Nat × Instr × Nat) := [(0, .aload 0, 1), (1, .iconst (-1), 1), (2, .invokestatic 56758993, 3), (5, .istore 1, 1), (6, .aload 0, 1), (7, .iconst 0, 1), (8, .putfield 1003, 3), (11, .aload 0, 1), (12, .iconst 0, 1), (13, .putfield 1019, 3), (16, .iconst 0, 1), (17, .istore 2, 1), (18, .iload 2, 1), (19, .iconst 8, 2), (21, .if_icmp .ge 77, 3), (24, .aload 0, 1), (25, .iload 2, 1), (26, .invokestatic 56701584, 3), (29, .ifCond .eq 71, 3), (32, .aload 0, 1), (33, .iload 2, 1), (34, .invokestatic 56758993, 3), (37, .iload 1, 1), (38, .if_icmp .ge 44, 3), (41, .goto 71, 3), (44, .aload 0, 1), (45, .dup, 1), (46, .getfield 1003, 3), (49, .iconst 1, 1), (50, .iload 2, 1), (51, .ishl, 1), (52, .ior, 1), (53, .putfield 1003, 3), (56, .aload 0, 1), (57, .dup, 1), (58, .getfield 1019, 3), (61, .aload 0, 1), (62, .getfield 4316472251, 3), (65, .iload 2, 1), (66, .iaload, 1), (67, .ior, 1), (68, .putfield 1019, 3), (71, .iinc 2 1, 3), (74, .goto 18, 3), (77, .iload 1, 1), (78, .ireturn, 1)]
def jcX11_casesIn : List (Nat × Instr × Nat) := [(0, .iconst 0, 1), (1, .istore 1, 1), (2, .iconst 0, 1), (3, .istore 2, 1), (4, .iload 2, 1), (5, .iconst 8, 2), (7, .if_icmp .ge 30, 3), (10, .aload 0, 1), (11, .iload 2, 1), (12, .invokestatic 56701584, 3), (15, .ifCond .eq 24, 3), (18, .iload 1, 1), (19, .iconst 1, 1), (20, .iload 2, 1), (21, .ishl, 1), (22, .ior, 1), (23, .istore 1, 1), (24, .iinc 2 1, 3), (27, .goto 4, 3), (30, .iload 1, 1), (31, .ireturn, 1)]
def jcX11_slack : List (Nat × Instr × Nat) := [(0, .aload 0, 1), (1, .getfield 34372870811, 3), (4, .iconst 8, 2), (6, .iload 1, 1), (7, .imul, 1), (8, .iload 2, 1), (9, .iadd, 1), (10, .laload, 1), (11, .aload 0, 1), (12, .getfield 4312294203, 3), (15, .iload 1, 1), (16, .laload, 1), (17, .ladd, 1), (18, .aload 0, 1), (19, .getfield 4312818507, 3), (22, .iload 2, 1), (23, .laload, 1), (24, .lsub, 1), (25, .lreturn, 1)]
def jcX11_rise : List (Nat × Instr × Nat) := [(0, .sipush (-1), 3), (3, .lstore 1, 1), (4, .iconst 0, 1), (5, .istore 3, 1), (6, .iload 3, 1), (7, .iconst 64, 2), (9, .if_icmp .ge 101, 3), (12, .iload 3, 1), (13, .iconst 8, 2), (15, .idiv, 1), (16, .istore 4, 2), (18, .iload 3, 1), (19, .iconst 8, 2), (21, .irem, 1), (22, .istore 5, 2), (24, .aload 0, 1), (25, .getfield 34372870811, 3), (28, .iload 3, 1), (29, .laload, 1), (30, .sipush (-1), 3), (33, .multianewarray 0 95, 4), (37, .aload 0, 1), (38, .getfield 1003, 3), (41, .iload 5, 2), (43, .ishr, 1), (44, .iconst 1, 1), (45, .iand, 1), (46, .ifCond .eq 95, 3), (49, .aload 0, 1), (50, .getfield 1019, 3), (53, .iload 4, 2), (55, .ishr, 1), (56, .iconst 1, 1), (57, .iand, 1), (58, .iconst 1, 1), (59, .if_icmp .ne 65, 3), (62, .goto 95, 3), (65, .lload 1, 1), (66, .sipush (-1), 3), (69, .multianewarray 0 86, 4), (73, .aload 0, 1), (74, .iload 4, 2), (76, .iload 5, 2), (78, .invokestatic 56730580, 3), (81, .lload 1, 1), (82, .multianewarray 3 95, 4), (86, .aload 0, 1), (87, .iload 4, 2), (89, .iload 5, 2), (91, .invokestatic 56730580, 3), (94, .lstore 1, 1), (95, .iinc 3 1, 3), (98, .goto 6, 3), (101, .lload 1, 1), (102, .lreturn, 1)]
def jcX11_begins : List (Nat × Instr × Nat) := [(0, .aload 0, 1), (1, .invokestatic 56656314, 3), (4, .aload 0, 1), (5, .iconst 0, 1), (6, .putfield 811, 3), (9, .iconst 0, 1), (10, .istore 1, 1), (11, .iload 1, 1), (12, .iconst 8, 2), (14, .if_icmp .ge 110, 3), (17, .aload 0, 1), (18, .getfield 4312294203, 3), (21, .iload 1, 1), (22, .sipush 0, 1), (23, .lastore, 1), (24, .sipush (-1), 3), (27, .lstore 2, 1), (28, .iconst 0, 1), (29, .istore 4, 2), (31, .iload 4, 2), (33, .iconst 8, 2), (35, .if_icmp .ge 85, 3), (38, .aload 0, 1), (39, .getfield 34372870811, 3), (42, .iconst 8, 2), (44, .iload 4, 2), (46, .imul, 1), (47, .iload 1, 1), (48, .iadd, 1), (49, .laload, 1), (50, .lstore 5, 2), (52, .lload 5, 2), (54, .sipush (-1), 3), (57, .multianewarray 0 79, 4), (61, .lload 2, 1), (62, .sipush (-1), 3), (65, .multianewarray 0 76, 4), (69, .lload 5, 2), (71, .lload 2, 1), (72, .multianewarray 3 79, 4), (76, .lload 5, 2), (78, .lstore 2, 1), (79, .iinc 4 1, 3), (82, .goto 31, 3), (85, .aload 0, 1), (86, .getfield 4312818507, 3), (89, .iload 1, 1), (90, .lload 2, 1), (91, .sipush (-1), 3), (94, .multianewarray 1 102, 4), (98, .sipush 0, 1), (99, .goto 103, 3), (102, .lload 2, 1), (103, .lastore, 1), (104, .iinc 1 1, 3), (107, .goto 11, 3), (110, .aload 0, 1), (111, .aload 0, 1), (112, .invokestatic 56725971, 3), (115, .putfield 1035, 3), (118, .return_, 1)]
def jcX11_isLast : List (Nat × Instr × Nat) := [(0, .iconst 0, 1), (1, .istore 1, 1), (2, .iconst 0, 1), (3, .istore 2, 1), (4, .iload 2, 1), (5, .iconst 8, 2), (7, .if_icmp .ge 84, 3), (10, .aload 0, 1), (11, .getfield 4316472251, 3), (14, .iload 2, 1), (15, .iconst 0, 1), (16, .iastore, 1), (17, .iconst 0, 1), (18, .istore 3, 1), (19, .iload 3, 1), (20, .iconst 8, 2), (22, .if_icmp .ge 78, 3), (25, .aload 0, 1), (26, .getfield 34372870811, 3), (29, .iconst 8, 2), (31, .iload 3, 1), (32, .imul, 1), (33, .iload 2, 1), (34, .iadd, 1), (35, .laload, 1), (36, .sipush (-1), 3), (39, .multianewarray 0 72, 4), (43, .aload 0, 1), (44, .iload 3, 1), (45, .iload 2, 1), (46, .invokestatic 56730580, 3), (49, .sipush 0, 1), (50, .multianewarray 0 57, 4), (54, .goto 72, 3), (57, .aload 0, 1), (58, .getfield 4316472251, 3), (61, .iload 2, 1), (62, .dup2, 1), (63, .iaload, 1), (64, .iconst 1, 1), (65, .iload 3, 1), (66, .ishl, 1), (67, .ior, 1), (68, .iastore, 1), (69, .iinc 1 1, 3), (72, .iinc 3 1, 3), (75, .goto 19, 3), (78, .iinc 2 1, 3), (81, .goto 4, 3), (84, .aload 0, 1), (85, .getfield 811, 3), (88, .istore 2, 1), (89, .aload 0, 1), (90, .dup, 1), (91, .getfield 811, 3), (94, .iconst 1, 1), (95, .iadd, 1), (96, .putfield 811, 3), (99, .aload 0, 1), (100, .getfield 64442868571, 3), (103, .iload 2, 1), (104, .aload 0, 1), (105, .invokestatic 56725970, 3), (108, .iastore, 1), (109, .aload 0, 1), (110, .getfield 64443392875, 3), (113, .iload 2, 1), (114, .aload 0, 1), (115, .getfield 1003, 3), (118, .iastore, 1), (119, .aload 0, 1), (120, .getfield 64443917179, 3), (123, .iload 2, 1), (124, .aload 0, 1), (125, .getfield 1019, 3), (128, .iastore, 1), (129, .aload 0, 1), (130, .getfield 64444441483, 3), (133, .iload 2, 1), (134, .iload 1, 1), (135, .iastore, 1), (136, .aload 0, 1), (137, .getfield 64447063067, 3), (140, .iload 2, 1), (141, .aload 0, 1), (142, .getfield 1035, 3), (145, .iastore, 1), (146, .iconst 0, 1), (147, .istore 3, 1), (148, .iload 3, 1), (149, .iconst 8, 2), (151, .if_icmp .ge 216, 3), (154, .aload 0, 1), (155, .getfield 1030813148075, 3), (158, .iconst 2, 1), (159, .iload 2, 1), (160, .imul, 1), (161, .iconst 8, 2), (163, .imul, 1), (164, .iload 3, 1), (165, .iadd, 1), (166, .aload 0, 1), (167, .getfield 4312294203, 3), (170, .iload 3, 1), (171, .laload, 1), (172, .lastore, 1), (173, .aload 0, 1), (174, .getfield 1030813148075, 3), (177, .iconst 2, 1), (178, .iload 2, 1), (179, .imul, 1), (180, .iconst 1, 1), (181, .iadd, 1), (182, .iconst 8, 2), (184, .imul, 1), (185, .iload 3, 1), (186, .iadd, 1), (187, .aload 0, 1), (188, .getfield 1035, 3), (191, .iload 3, 1), (192, .ishr, 1), (193, .iconst 1, 1), (194, .iand, 1), (195, .iconst 1, 1), (196, .if_icmp .ne 208, 3), (199, .aload 0, 1), (200, .getfield 4312818507, 3), (203, .iload 3, 1), (204, .laload, 1), (205, .goto 209, 3), (208, .sipush 0, 1), (209, .lastore, 1), (210, .iinc 3 1, 3), (213, .goto 148, 3), (216, .aload 0, 1), (217, .invokestatic 56828373, 3), (220, .lstore 3, 1), (221, .aload 0, 1), (222, .getfield 64444982171, 3), (225, .iload 2, 1), (226, .lload 3, 1), (227, .lastore, 1), (228, .iconst 0, 1), (229, .istore 5, 2), (231, .iload 5, 2), (233, .iconst 8, 2), (235, .if_icmp .ge 300, 3), (238, .lload 3, 1), (239, .sipush (-1), 3), (242, .multianewarray 0 300, 4), (246, .aload 0, 1), (247, .getfield 1003, 3), (250, .iload 5, 2), (252, .ishr, 1), (253, .iconst 1, 1), (254, .iand, 1), (255, .iconst 1, 1), (256, .if_icmp .ne 270, 3), (259, .aload 0, 1), (260, .getfield 4312818507, 3), (263, .iload 5, 2), (265, .dup2, 1), (266, .laload, 1), (267, .lload 3, 1), (268, .ladd, 1), (269, .lastore, 1), (270, .aload 0, 1), (271, .getfield 1019, 3), (274, .iload 5, 2), (276, .ishr, 1), (277, .iconst 1, 1), (278, .iand, 1), (279, .iconst 1, 1), (280, .if_icmp .ne 294, 3), (283, .aload 0, 1), (284, .getfield 4312294203, 3), (287, .iload 5, 2), (289, .dup2, 1), (290, .laload, 1), (291, .lload 3, 1), (292, .ladd, 1), (293, .lastore, 1), (294, .iinc 5 1, 3), (297, .goto 231, 3), (300, .lload 3, 1), (301, .sipush (-1), 3), (304, .multianewarray 1 312, 4), (308, .iconst 1, 1), (309, .goto 313, 3), (312, .iconst 0, 1), (313, .ireturn, 1)]
def jcX11_solve : List (Nat × Instr × Nat) := [(0, .aload 0, 1), (1, .invokestatic 56852950, 3), (4, .iconst 0, 1), (5, .istore 1, 1), (6, .iload 1, 1), (7, .ifCond .ne 27, 3), (10, .aload 0, 1), (11, .getfield 811, 3), (14, .iconst 120, 2), (16, .if_icmp .ge 27, 3), (19, .aload 0, 1), (20, .invokestatic 56832471, 3), (23, .istore 1, 1), (24, .goto 6, 3), (27, .aload 0, 1), (28, .getfield 811, 3), (31, .ireturn, 1)]
def jcX11_round : List (Nat × Instr × Nat) := [(0, .iload 1, 1), (1, .i2l, 1), (2, .sipush 0, 1), (3, .aload 0, 1), (4, .getfield 811, 3), (7, .iconst 1, 1), (8, .isub, 1), (9, .i2l, 1), (10, .invokestatic 23278475, 3), (13, .ifCond .eq 28, 3), (16, .iload 2, 1), (17, .i2l, 1), (18, .sipush 0, 1), (19, .sipush 5, 3), (22, .invokestatic 23278475, 3), (25, .ifCond .ne 32, 3), (28, .sipush (-4611686018427387904), 3), (31, .lreturn, 1), (32, .iload 2, 1), (33, .ifCond .ne 44, 3), (36, .aload 0, 1), (37, .getfield 64442868571, 3), (40, .iload 1, 1), (41, .iaload, 1), (42, .i2l, 1), (43, .lreturn, 1), (44, .iload 2, 1), (45, .iconst 1, 1), (46, .if_icmp .ne 57, 3), (49, .aload 0, 1), (50, .getfield 64443392875, 3), (53, .iload 1, 1), (54, .iaload, 1), (55, .i2l, 1), (56, .lreturn, 1), (57, .iload 2, 1), (58, .iconst 2, 1), (59, .if_icmp .ne 70, 3), (62, .aload 0, 1), (63, .getfield 64443917179, 3), (66, .iload 1, 1), (67, .iaload, 1), (68, .i2l, 1), (69, .lreturn, 1), (70, .iload 2, 1), (71, .iconst 3, 1), (72, .if_icmp .ne 102, 3), (75, .aload 0, 1), (76, .getfield 64443917179, 3), (79, .iload 1, 1), (80, .iaload, 1), (81, .aload 0, 1), (82, .getfield 64447063067, 3), (85, .iload 1, 1), (86, .iaload, 1), (87, .aload 0, 1), (88, .getfield 64443392875, 3), (91, .iload 1, 1), (92, .iaload, 1), (93, .iconst (-1), 1), (94, .ixor, 1), (95, .iand, 1), (96, .iconst 8, 2), (98, .ishl, 1), (99, .ior, 1), (100, .i2l, 1), (101, .lreturn, 1), (102, .iload 2, 1), (103, .iconst 4, 1), (104, .if_icmp .ne 116, 3), (107, .aload 0, 1), (108, .getfield 64444982171, 3), (111, .iload 1, 1), (112, .laload, 1), (113, .goto 123, 3), (116, .aload 0, 1), (117, .getfield 64444441483, 3), (120, .iload 1, 1), (121, .iaload, 1), (122, .i2l, 1), (123, .lreturn, 1)]
def jcX11_price : List (Nat × Instr × Nat) := [(0, .iload 1, 1), (1, .i2l, 1), (2, .sipush 0, 1), (3, .aload 0, 1), (4, .getfield 811, 3), (7, .iconst 1, 1), (8, .isub, 1), (9, .i2l, 1), (10, .invokestatic 23278475, 3), (13, .ifCond .eq 42, 3), (16, .iload 2, 1), (17, .iload 3, 1), (18, .invokestatic 23147149, 3), (21, .ifCond .eq 42, 3), (24, .aload 0, 1), (25, .getfield 1030813148075, 3), (28, .iconst 2, 1), (29, .iload 1, 1), (30, .imul, 1), (31, .iload 2, 1), (32, .iadd, 1), (33, .iconst 8, 2), (35, .imul, 1), (36, .iload 3, 1), (37, .iadd, 1), (38, .laload, 1), (39, .goto 45, 3), (42, .sipush (-4611686018427387904), 3), (45, .lreturn, 1)]
def jcX11_daysOf : List (Nat × Instr × Nat) := [(0, .aload 0, 1), (1, .invokestatic 56689080, 3), (4, .iconst 0, 1), (5, .istore 2, 1), (6, .iload 2, 1), (7, .iconst 64, 2), (9, .if_icmp .ge 30, 3), (12, .aload 0, 1), (13, .getfield 34382816299, 3), (16, .iload 2, 1), (17, .aload 0, 1), (18, .getfield 34361843787, 3), (21, .iload 2, 1), (22, .iaload, 1), (23, .iastore, 1), (24, .iinc 2 1, 3), (27, .goto 6, 3), (30, .sipush 0, 1), (31, .lstore 2, 1), (32, .iconst 0, 1), (33, .istore 4, 2), (35, .iload 4, 2), (37, .iload 1, 1), (38, .if_icmp .ge 130, 3), (41, .aload 0, 1), (42, .aload 0, 1), (43, .getfield 34382816299, 3), (46, .invokestatic 56722105, 3), (49, .aload 0, 1), (50, .invokestatic 56893887, 3), (53, .lstore 5, 2), (55, .lload 5, 2), (57, .sipush 1125899906842624, 3), (60, .multianewarray 1 68, 4), (64, .sipush 1125899906842624, 3), (67, .lreturn, 1), (68, .lload 2, 1), (69, .lload 5, 2), (71, .ladd, 1), (72, .lstore 2, 1), (73, .aload 0, 1), (74, .iconst 0, 1), (75, .invokestatic 56853185, 3), (78, .iconst 0, 1), (79, .istore 7, 2), (81, .iload 7, 2), (83, .iconst 8, 2), (85, .if_icmp .ge 124, 3), (88, .aload 0, 1), (89, .getfield 4309656267, 3), (92, .iload 7, 2), (94, .iaload, 1), (95, .iconst (-1), 1), (96, .if_icmp .eq 118, 3), (99, .aload 0, 1), (100, .getfield 34382816299, 3), (103, .iconst 8, 2), (105, .aload 0, 1), (106, .getfield 4309656267, 3), (109, .iload 7, 2), (111, .iaload, 1), (112, .imul, 1), (113, .iload 7, 2), (115, .iadd, 1), (116, .iconst 1, 1), (117, .iastore, 1), (118, .iinc 7 1, 3), (121, .goto 81, 3), (124, .iinc 4 1, 3), (127, .goto 35, 3), (130, .lload 2, 1), (131, .lreturn, 1)]
def jcX11_days : List (Nat × Instr × Nat) := [(0, .iload 1, 1), (1, .i2l, 1), (2, .sipush 1, 1), (3, .sipush 8, 3), (6, .invokestatic 23278475, 3), (9, .ifCond .eq 23, 3), (12, .aload 0, 1), (13, .iload 1, 1), (14, .invokestatic 56894171, 3), (17, .invokestatic 23142848, 3), (20, .goto 26, 3), (23, .sipush (-4611686018427387904), 3), (26, .lreturn, 1)]
def jcX11_day : List (Nat × Instr × Nat) := [(0, .iload 1, 1), (1, .i2l, 1), (2, .sipush 0, 1), (3, .sipush 7, 3), (6, .invokestatic 23278475, 3), (9, .ifCond .eq 24, 3), (12, .iload 2, 1), (13, .i2l, 1), (14, .sipush 0, 1), (15, .sipush 7, 3), (18, .invokestatic 23278475, 3), (21, .ifCond .ne 27, 3), (24, .iconst (-2), 2), (26, .ireturn, 1), (27, .aload 0, 1), (28, .iload 1, 1), (29, .iconst 1, 1), (30, .iadd, 1), (31, .invokestatic 56894171, 3), (34, .sipush 1125899906842624, 3), (37, .multianewarray 1 46, 4), (41, .iconst (-3), 2), (43, .goto 52, 3), (46, .aload 0, 1), (47, .getfield 4309656267, 3), (50, .iload 2, 1), (51, .iaload, 1), (52, .ireturn, 1)]
def jcX11_lack : List (Nat × Instr × Nat) := [(0, .iload 1, 1), (1, .i2l, 1), (2, .sipush 0, 1), (3, .sipush 2, 3), (6, .invokestatic 23278475, 3), (9, .ifCond .ne 15, 3), (12, .iconst (-2), 2), (14, .ireturn, 1), (15, .aload 0, 1), (16, .invokestatic 56656314, 3), (19, .iconst 0, 1), (20, .istore 2, 1), (21, .iload 2, 1), (22, .iconst 8, 2), (24, .if_icmp .ge 84, 3), (27, .aload 0, 1), (28, .getfield 4316472251, 3), (31, .iload 2, 1), (32, .iconst 0, 1), (33, .iastore, 1), (34, .iconst 0, 1), (35, .istore 3, 1), (36, .iload 3, 1), (37, .iconst 8, 2), (39, .if_icmp .ge 78, 3), (42, .aload 0, 1), (43, .getfield 34372870811, 3), (46, .iconst 8, 2), (48, .iload 3, 1), (49, .imul, 1), (50, .iload 2, 1), (51, .iadd, 1), (52, .laload, 1), (53, .sipush (-1), 3), (56, .multianewarray 0 72, 4), (60, .aload 0, 1), (61, .getfield 4316472251, 3), (64, .iload 2, 1), (65, .dup2, 1), (66, .iaload, 1), (67, .iconst 1, 1), (68, .iload 3, 1), (69, .ishl, 1), (70, .ior, 1), (71, .iastore, 1), (72, .iinc 3 1, 3), (75, .goto 36, 3), (78, .iinc 2 1, 3), (81, .goto 21, 3), (84, .aload 0, 1), (85, .invokestatic 56725970, 3), (88, .istore 2, 1), (89, .iload 1, 1), (90, .ifCond .ne 105, 3), (93, .aload 0, 1), (94, .invokestatic 56725971, 3), (97, .invokestatic 295735793, 3), (100, .iload 2, 1), (101, .isub, 1), (102, .goto 121, 3), (105, .iload 1, 1), (106, .iconst 1, 1), (107, .if_icmp .ne 117, 3), (110, .aload 0, 1), (111, .getfield 1003, 3), (114, .goto 121, 3), (117, .aload 0, 1), (118, .getfield 1019, 3), (121, .ireturn, 1)]
def jcX11_without : List (Nat × Instr × Nat) := [(0, .iload 1, 1), (1, .iload 2, 1), (2, .invokestatic 23147149, 3), (5, .ifCond .ne 12, 3), (8, .sipush (-4611686018427387904), 3), (11, .lreturn, 1), (12, .aload 0, 1), (13, .getfield 8590467099, 3), (16, .iconst 8, 2), (18, .iload 1, 1), (19, .imul, 1), (20, .iload 2, 1), (21, .iadd, 1), (22, .iaload, 1), (23, .istore 3, 1), (24, .aload 0, 1), (25, .getfield 8590467099, 3), (28, .iconst 8, 2), (30, .iload 1, 1), (31, .imul, 1), (32, .iload 2, 1), (33, .iadd, 1), (34, .iconst 0, 1), (35, .iastore, 1), (36, .aload 0, 1), (37, .invokestatic 56664515, 3), (40, .lstore 4, 2), (42, .aload 0, 1), (43, .getfield 8590467099, 3), (46, .iconst 8, 2), (48, .iload 1, 1), (49, .imul, 1), (50, .iload 2, 1), (51, .iadd, 1), (52, .iload 3, 1), (53, .iastore, 1), (54, .lload 4, 2), (56, .lreturn, 1)]
def jcX11_casesMany : List (Nat × Instr × Nat) := [(0, .aload 0, 1), (1, .invokestatic 56725971, 3), (4, .invokestatic 295735793, 3), (7, .ireturn, 1)]
def jcX11_reads : List (Nat × Instr × Nat) := [(0, .aload 0, 1), (1, .getfield 2176328939, 3), (4, .iload 1, 1), (5, .iaload, 1), (6, .aload 0, 1), (7, .invokestatic 56660448, 3), (10, .if_icmp .eq 15, 3), (13, .iconst 0, 1), (14, .ireturn, 1), (15, .iconst 0, 1), (16, .istore 2, 1), (17, .iconst 0, 1), (18, .istore 3, 1), (19, .iconst 0, 1), (20, .istore 4, 2), (22, .iload 4, 2), (24, .iconst 8, 2), (26, .if_icmp .ge 135, 3), (29, .aload 0, 1), (30, .getfield 4309656267, 3), (33, .iload 4, 2), (35, .iconst (-1), 1), (36, .iastore, 1), (37, .aload 0, 1), (38, .iload 4, 2), (40, .invokestatic 56701584, 3), (43, .ifCond .ne 49, 3), (46, .goto 129, 3), (49, .aload 0, 1), (50, .getfield 85928731899, 3), (53, .iconst 40, 2), (55, .iload 1, 1), (56, .imul, 1), (57, .iload 2, 1), (58, .iadd, 1), (59, .laload, 1), (60, .lstore 5, 2), (62, .iinc 2 1, 3), (65, .lload 5, 2), (67, .sipush 0, 1), (68, .sipush 7, 3), (71, .invokestatic 23278475, 3), (74, .ifCond .eq 109, 3), (77, .iload 3, 1), (78, .lload 5, 2), (80, .l2i, 1), (81, .ishr, 1), (82, .iconst 1, 1), (83, .iand, 1), (84, .iconst 1, 1), (85, .if_icmp .eq 109, 3), (88, .aload 0, 1), (89, .getfield 34372870811, 3), (92, .iconst 8, 2), (94, .lload 5, 2), (96, .l2i, 1), (97, .imul, 1), (98, .iload 4, 2), (100, .iadd, 1), (101, .laload, 1), (102, .sipush (-1), 3), (105, .multianewarray 1 111, 4), (109, .iconst 0, 1), (110, .ireturn, 1), (111, .iload 3, 1), (112, .iconst 1, 1), (113, .lload 5, 2), (115, .l2i, 1), (116, .ishl, 1), (117, .ior, 1), (118, .istore 3, 1), (119, .aload 0, 1), (120, .getfield 4309656267, 3), (123, .iload 4, 2), (125, .lload 5, 2), (127, .l2i, 1), (128, .iastore, 1), (129, .iinc 4 1, 3), (132, .goto 22, 3), (135, .iconst 1, 1), (136, .ireturn, 1)]
def jcX11_tells : List (Nat × Instr × Nat) := [(0, .iload 1, 1), (1, .invokestatic 23114219, 3), (4, .ifCond .eq 19, 3), (7, .iload 2, 1), (8, .i2l, 1), (9, .sipush 0, 1), (10, .sipush 2, 3), (13, .invokestatic 23278475, 3), (16, .ifCond .ne 23, 3), (19, .sipush (-2), 3), (22, .lreturn, 1), (23, .aload 0, 1), (24, .getfield 2175804635, 3), (27, .iload 1, 1), (28, .iaload, 1), (29, .iconst (-1), 1), (30, .if_icmp .ne 37, 3), (33, .sipush (-11), 3), (36, .lreturn, 1), (37, .aload 0, 1), (38, .invokestatic 56656314, 3), (41, .aload 0, 1), (42, .iload 1, 1), (43, .invokestatic 56865505, 3), (46, .ifCond .ne 53, 3), (49, .sipush (-3), 3), (52, .lreturn, 1), (53, .iconst 0, 1), (54, .istore 3, 1), (55, .iload 3, 1), (56, .iconst 8, 2), (58, .if_icmp .ge 79, 3), (61, .aload 0, 1), (62, .getfield 4318569531, 3), (65, .iload 3, 1), (66, .aload 0, 1), (67, .getfield 4309656267, 3), (70, .iload 3, 1), (71, .iaload, 1), (72, .iastore, 1), (73, .iinc 3 1, 3), (76, .goto 55, 3), (79, .iload 2, 1), (80, .ifCond .ne 135, 3), (83, .sipush 0, 1), (84, .lstore 3, 1), (85, .iconst 0, 1), (86, .istore 5, 2), (88, .iload 5, 2), (90, .iconst 8, 2), (92, .if_icmp .ge 133, 3), (95, .aload 0, 1), (96, .getfield 4318569531, 3), (99, .iload 5, 2), (101, .iaload, 1), (102, .iconst (-1), 1), (103, .if_icmp .eq 127, 3), (106, .lload 3, 1), (107, .aload 0, 1), (108, .getfield 34372870811, 3), (111, .iconst 8, 2), (113, .aload 0, 1), (114, .getfield 4318569531, 3), (117, .iload 5, 2), (119, .iaload, 1), (120, .imul, 1), (121, .iload 5, 2), (123, .iadd, 1), (124, .laload, 1), (125, .ladd, 1), (126, .lstore 3, 1), (127, .iinc 5 1, 3), (130, .goto 88, 3), (133, .lload 3, 1), (134, .lreturn, 1), (135, .iload 2, 1), (136, .iconst 1, 1), (137, .if_icmp .ne 150, 3), (140, .aload 0, 1), (141, .invokestatic 56656332, 3), (144, .aload 0, 1), (145, .invokestatic 56758755, 3), (148, .i2l, 1), (149, .lreturn, 1), (150, .aload 0, 1), (151, .invokestatic 56893887, 3), (154, .lstore 3, 1), (155, .iconst 0, 1), (156, .istore 5, 2), (158, .iconst 0, 1), (159, .istore 6, 2), (161, .iload 6, 2), (163, .iconst 8, 2), (165, .if_icmp .ge 206, 3), (168, .aload 0, 1), (169, .getfield 4318569531, 3), (172, .iload 6, 2), (174, .iaload, 1), (175, .iconst (-1), 1), (176, .if_icmp .eq 200, 3), (179, .aload 0, 1), (180, .aload 0, 1), (181, .getfield 4318569531, 3), (184, .iload 6, 2), (186, .iaload, 1), (187, .iload 6, 2), (189, .invokestatic 56828870, 3), (192, .lload 3, 1), (193, .multianewarray 1 200, 4), (197, .iinc 5 1, 3), (200, .iinc 6 1, 3), (203, .goto 161, 3), (206, .iload 5, 2), (208, .i2l, 1), (209, .lreturn, 1)]
def jcX11_placeOf : List (Nat × Instr × Nat) := [(0, .iconst 0, 1), (1, .istore 1, 1), (2, .iload 1, 1), (3, .aload 0, 1), (4, .getfield 779, 3), (7, .if_icmp .ge 63, 3), (10, .iconst 0, 1), (11, .istore 2, 1), (12, .iconst 0, 1), (13, .istore 3, 1), (14, .iload 3, 1), (15, .iconst 8, 2), (17, .if_icmp .ge 49, 3), (20, .aload 0, 1), (21, .getfield 55850836731, 3), (24, .iconst 8, 2), (26, .iload 1, 1), (27, .imul, 1), (28, .iload 3, 1), (29, .iadd, 1), (30, .iaload, 1), (31, .aload 0, 1), (32, .getfield 4318569531, 3), (35, .iload 3, 1), (36, .iaload, 1), (37, .if_icmp .ne 43, 3), (40, .iinc 2 1, 3), (43, .iinc 3 1, 3), (46, .goto 14, 3), (49, .iload 2, 1), (50, .iconst 8, 2), (52, .if_icmp .ne 57, 3), (55, .iload 1, 1), (56, .ireturn, 1), (57, .iinc 1 1, 3), (60, .goto 2, 3), (63, .iconst (-1), 1), (64, .ireturn, 1)]
def jcX11_film : List (Nat × Instr × Nat) := [(0, .iload 1, 1), (1, .invokestatic 23114219, 3), (4, .ifCond .ne 10, 3), (7, .iconst (-2), 2), (9, .ireturn, 1), (10, .aload 0, 1), (11, .invokestatic 56656314, 3), (14, .aload 0, 1), (15, .invokestatic 56893887, 3), (18, .sipush 1125899906842624, 3), (21, .multianewarray 0 43, 4), (25, .iload 2, 1), (26, .i2l, 1), (27, .sipush 0, 1), (28, .aload 0, 1), (29, .getfield 1236964745915, 3), (32, .iconst 0, 1), (33, .iaload, 1), (34, .iconst 1, 1), (35, .isub, 1), (36, .i2l, 1), (37, .invokestatic 23278475, 3), (40, .ifCond .ne 46, 3), (43, .iconst (-3), 2), (45, .ireturn, 1), (46, .aload 0, 1), (47, .iload 2, 1), (48, .invokestatic 56853185, 3), (51, .iconst 0, 1), (52, .istore 3, 1), (53, .iconst 0, 1), (54, .istore 4, 2), (56, .iload 4, 2), (58, .iconst 8, 2), (60, .if_icmp .ge 105, 3), (63, .aload 0, 1), (64, .getfield 4309656267, 3), (67, .iload 4, 2), (69, .iaload, 1), (70, .iconst (-1), 1), (71, .if_icmp .ne 77, 3), (74, .goto 99, 3), (77, .aload 0, 1), (78, .getfield 85928731899, 3), (81, .iconst 40, 2), (83, .iload 1, 1), (84, .imul, 1), (85, .iload 3, 1), (86, .iadd, 1), (87, .aload 0, 1), (88, .getfield 4309656267, 3), (91, .iload 4, 2), (93, .iaload, 1), (94, .i2l, 1), (95, .lastore, 1), (96, .iinc 3 1, 3), (99, .iinc 4 1, 3), (102, .goto 56, 3), (105, .aload 0, 1), (106, .getfield 2175804635, 3), (109, .iload 1, 1), (110, .iconst 0, 1), (111, .iastore, 1), (112, .aload 0, 1), (113, .getfield 2176328939, 3), (116, .iload 1, 1), (117, .iload 3, 1), (118, .iastore, 1), (119, .iload 3, 1), (120, .ireturn, 1)]
def jcX11_copies : List (Nat × Instr × Nat) := [(0, .iconst 0, 1), (1, .istore 5, 2), (3, .iload 5, 2), (5, .iload 3, 1), (6, .if_icmp .ge 43, 3), (9, .iload 4, 2), (11, .ifCond .eq 27, 3), (14, .aload 0, 1), (15, .iload 5, 2), (17, .aload 1, 1), (18, .iload 2, 1), (19, .iload 5, 2), (21, .iadd, 1), (22, .iaload, 1), (23, .iastore, 1), (24, .goto 37, 3), (27, .aload 1, 1), (28, .iload 2, 1), (29, .iload 5, 2), (31, .iadd, 1), (32, .aload 0, 1), (33, .iload 5, 2), (35, .iaload, 1), (36, .iastore, 1), (37, .iinc 5 1, 3), (40, .goto 3, 3), (43, .return_, 1)]
def jcX11_keeps : List (Nat × Instr × Nat) := [(0, .aload 0, 1), (1, .getfield 8590467099, 3), (4, .aload 0, 1), (5, .getfield 8614061147, 3), (8, .iconst 0, 1), (9, .iconst 16, 2), (11, .iload 1, 1), (12, .invokestatic 23266789, 3), (15, .aload 0, 1), (16, .getfield 25770860587, 3), (19, .aload 0, 1), (20, .getfield 25794454635, 3), (23, .iconst 0, 1), (24, .iconst 48, 2), (26, .iload 1, 1), (27, .invokestatic 23266789, 3), (30, .aload 0, 1), (31, .getfield 34361843787, 3), (34, .aload 0, 1), (35, .getfield 34385437835, 3), (38, .iconst 0, 1), (39, .iconst 64, 2), (41, .iload 1, 1), (42, .invokestatic 23266789, 3), (45, .aload 0, 1), (46, .getfield 2150113371, 3), (49, .aload 0, 1), (50, .getfield 2173707419, 3), (53, .iconst 0, 1), (54, .iconst 4, 1), (55, .iload 1, 1), (56, .invokestatic 23266789, 3), (59, .aload 0, 1), (60, .getfield 2150637675, 3), (63, .aload 0, 1), (64, .getfield 2174231723, 3), (67, .iconst 0, 1), (68, .iconst 4, 1), (69, .iload 1, 1), (70, .invokestatic 23266789, 3), (73, .aload 0, 1), (74, .getfield 8593612923, 3), (77, .aload 0, 1), (78, .getfield 8617206971, 3), (81, .iconst 0, 1), (82, .iconst 16, 2), (84, .iload 1, 1), (85, .invokestatic 23266789, 3), (88, .iconst 96, 2), (90, .istore 2, 1), (91, .aload 0, 1), (92, .getfield 51543810187, 3), (95, .aload 0, 1), (96, .getfield 360805049547, 3), (99, .iconst 0, 1), (100, .iload 2, 1), (101, .iload 1, 1), (102, .invokestatic 23266789, 3), (105, .aload 0, 1), (106, .getfield 51544334491, 3), (109, .aload 0, 1), (110, .getfield 360805049547, 3), (113, .iload 2, 1), (114, .iload 2, 1), (115, .iload 1, 1), (116, .invokestatic 23266789, 3), (119, .aload 0, 1), (120, .getfield 51544858795, 3), (123, .aload 0, 1), (124, .getfield 360805049547, 3), (127, .iconst 2, 1), (128, .iload 2, 1), (129, .imul, 1), (130, .iload 2, 1), (131, .iload 1, 1), (132, .invokestatic 23266789, 3), (135, .aload 0, 1), (136, .getfield 51545383099, 3), (139, .aload 0, 1), (140, .getfield 360805049547, 3), (143, .iconst 3, 1), (144, .iload 2, 1), (145, .imul, 1), (146, .iload 2, 1), (147, .iload 1, 1), (148, .invokestatic 23266789, 3), (151, .aload 0, 1), (152, .getfield 51545907403, 3), (155, .aload 0, 1), (156, .getfield 360805049547, 3), (159, .iconst 4, 1), (160, .iload 2, 1), (161, .imul, 1), (162, .iload 2, 1), (163, .iload 1, 1), (164, .invokestatic 23266789, 3), (167, .aload 0, 1), (168, .getfield 51546431707, 3), (171, .aload 0, 1), (172, .getfield 360805049547, 3), (175, .iconst 5, 1), (176, .iload 2, 1), (177, .imul, 1), (178, .iload 2, 1), (179, .iload 1, 1), (180, .invokestatic 23266789, 3), (183, .aload 0, 1), (184, .getfield 51546956011, 3), (187, .aload 0, 1), (188, .getfield 360805049547, 3), (191, .iconst 6, 2), (193, .iload 2, 1), (194, .imul, 1), (195, .iload 2, 1), (196, .iload 1, 1), (197, .invokestatic 23266789, 3), (200, .iconst 0, 1), (201, .istore 3, 1), (202, .iload 3, 1), (203, .iconst 64, 2), (205, .if_icmp .ge 245, 3), (208, .iload 1, 1), (209, .ifCond .eq 227, 3), (212, .aload 0, 1), (213, .getfield 34361335867, 3), (216, .iload 3, 1), (217, .aload 0, 1), (218, .getfield 34384929915, 3), (221, .iload 3, 1), (222, .laload, 1), (223, .lastore, 1), (224, .goto 239, 3), (227, .aload 0, 1), (228, .getfield 34384929915, 3), (231, .iload 3, 1), (232, .aload 0, 1), (233, .getfield 34361335867, 3), (236, .iload 3, 1), (237, .laload, 1), (238, .lastore, 1), (239, .iinc 3 1, 3), (242, .goto 202, 3), (245, .return_, 1)]
def jcX11_image : List (Nat × Instr × Nat) := [(0, .aload 0, 1), (1, .iconst 0, 1), (2, .invokestatic 56754918, 3), (5, .aload 0, 1), (6, .iconst 1, 1), (7, .putfield 5195, 3), (10, .aload 0, 1), (11, .invokestatic 56656314, 3), (14, .aload 0, 1), (15, .invokestatic 56725950, 3), (18, .ireturn, 1)]
def jcX11_back : List (Nat × Instr × Nat) := [(0, .aload 0, 1), (1, .getfield 5195, 3), (4, .ifCond .ne 10, 3), (7, .iconst (-3), 2), (9, .ireturn, 1), (10, .aload 0, 1), (11, .iconst 1, 1), (12, .invokestatic 56754918, 3), (15, .aload 0, 1), (16, .invokestatic 56656314, 3), (19, .aload 0, 1), (20, .invokestatic 56725950, 3), (23, .ireturn, 1)]
def jcX11_marksOf : List (Nat × Instr × Nat) := [(0, .iconst 0, 1), (1, .istore 2, 1), (2, .iconst 0, 1), (3, .istore 3, 1), (4, .iload 3, 1), (5, .iconst 64, 2), (7, .if_icmp .ge 29, 3), (10, .aload 0, 1), (11, .getfield 34361843787, 3), (14, .iload 3, 1), (15, .iaload, 1), (16, .iload 1, 1), (17, .if_icmp .ne 23, 3), (20, .iinc 2 1, 3), (23, .iinc 3 1, 3), (26, .goto 4, 3), (29, .iload 2, 1), (30, .ireturn, 1)]
def jcX11_count : List (Nat × Instr × Nat) := [(0, .iconst 0, 1), (1, .istore 2, 1), (2, .iload 1, 1), (3, .tableswitch 141 0 7 #[48, 73, 78, 87, 93, 99, 131, 136], 45), (48, .iconst 0, 1), (49, .istore 3, 1), (50, .iload 3, 1), (51, .iconst 8, 2), (53, .if_icmp .ge 71, 3), (56, .iload 2, 1), (57, .aload 0, 1), (58, .getfield 8590467099, 3), (61, .iload 3, 1), (62, .iaload, 1), (63, .iadd, 1), (64, .istore 2, 1), (65, .iinc 3 1, 3), (68, .goto 50, 3), (71, .iload 2, 1), (72, .ireturn, 1), (73, .aload 0, 1), (74, .invokestatic 56660448, 3), (77, .ireturn, 1), (78, .aload 0, 1), (79, .invokestatic 56656314, 3), (82, .aload 0, 1), (83, .invokestatic 56725950, 3), (86, .ireturn, 1), (87, .aload 0, 1), (88, .iconst 2, 1), (89, .invokestatic 56759017, 3), (92, .ireturn, 1), (93, .aload 0, 1), (94, .iconst 1, 1), (95, .invokestatic 56759017, 3), (98, .ireturn, 1), (99, .iconst 0, 1), (100, .istore 3, 1), (101, .iload 3, 1), (102, .iconst 64, 2), (104, .if_icmp .ge 129, 3), (107, .aload 0, 1), (108, .getfield 34361335867, 3), (111, .iload 3, 1), (112, .laload, 1), (113, .sipush (-1), 3), (116, .multianewarray 0 123, 4), (120, .iinc 2 1, 3), (123, .iinc 3 1, 3), (126, .goto 101, 3), (129, .iload 2, 1), (130, .ireturn, 1), (131, .aload 0, 1), (132, .getfield 811, 3), (135, .ireturn, 1), (136, .aload 0, 1), (137, .getfield 267, 3), (140, .ireturn, 1), (141, .iconst (-2), 2), (143, .ireturn, 1)]
def jcX11_isSheet : List (Nat × Instr × Nat) := [(0, .iload 0, 1), (1, .i2l, 1), (2, .sipush 0, 1), (3, .sipush 3, 3), (6, .invokestatic 23278475, 3), (9, .ireturn, 1)]
def jcX11_sheet : List (Nat × Instr × Nat) := [(0, .iload 1, 1), (1, .invokestatic 23114219, 3), (4, .ifCond .eq 32, 3), (7, .iload 2, 1), (8, .i2l, 1), (9, .sipush (-1), 3), (12, .sipush 2, 3), (15, .invokestatic 23278475, 3), (18, .ifCond .eq 32, 3), (21, .iload 2, 1), (22, .iconst (-1), 1), (23, .if_icmp .eq 35, 3), (26, .iload 3, 1), (27, .iconst 40, 2), (29, .if_icmp .le 35, 3), (32, .iconst (-2), 2), (34, .ireturn, 1), (35, .iload 2, 1), (36, .iconst (-1), 1), (37, .if_icmp .eq 47, 3), (40, .iload 3, 1), (41, .ifCond .ge 47, 3), (44, .iconst (-14), 2), (46, .ireturn, 1), (47, .aload 0, 1), (48, .getfield 2175804635, 3), (51, .iload 1, 1), (52, .iload 2, 1), (53, .iastore, 1), (54, .aload 0, 1), (55, .getfield 2176328939, 3), (58, .iload 1, 1), (59, .iload 2, 1), (60, .iconst (-1), 1), (61, .if_icmp .ne 68, 3), (64, .iconst 0, 1), (65, .goto 69, 3), (68, .iload 3, 1), (69, .iastore, 1), (70, .iconst 0, 1), (71, .istore 4, 2), (73, .iload 4, 2), (75, .iconst 40, 2), (77, .if_icmp .ge 99, 3), (80, .aload 0, 1), (81, .getfield 85928731899, 3), (84, .iconst 40, 2), (86, .iload 1, 1), (87, .imul, 1), (88, .iload 4, 2), (90, .iadd, 1), (91, .sipush 0, 1), (92, .lastore, 1), (93, .iinc 4 1, 3), (96, .goto 73, 3), (99, .iconst 1, 1), (100, .ireturn, 1)]
def jcX11_put : List (Nat × Instr × Nat) := [(0, .iload 1, 1), (1, .invokestatic 23114219, 3), (4, .ifCond .ne 10, 3), (7, .iconst (-2), 2), (9, .ireturn, 1), (10, .aload 0, 1), (11, .getfield 2175804635, 3), (14, .iload 1, 1), (15, .iaload, 1), (16, .iconst (-1), 1), (17, .if_icmp .ne 23, 3), (20, .iconst (-11), 2), (22, .ireturn, 1), (23, .iload 2, 1), (24, .i2l, 1), (25, .sipush 0, 1), (26, .aload 0, 1), (27, .getfield 2176328939, 3), (30, .iload 1, 1), (31, .iaload, 1), (32, .iconst 1, 1), (33, .isub, 1), (34, .i2l, 1), (35, .invokestatic 23278475, 3), (38, .ifCond .ne 44, 3), (41, .iconst (-12), 2), (43, .ireturn, 1), (44, .aload 0, 1), (45, .getfield 85928731899, 3), (48, .iconst 40, 2), (50, .iload 1, 1), (51, .imul, 1), (52, .iload 2, 1), (53, .iadd, 1), (54, .aload 0, 1), (55, .getfield 2175804635, 3), (58, .iload 1, 1), (59, .iaload, 1), (60, .ifCond .ne 67, 3), (63, .lload 3, 1), (64, .goto 87, 3), (67, .aload 0, 1), (68, .getfield 2175804635, 3), (71, .iload 1, 1), (72, .iaload, 1), (73, .iconst 1, 1), (74, .if_icmp .ne 83, 3), (77, .lload 3, 1), (78, .l2i, 1), (79, .i2l, 1), (80, .goto 87, 3), (83, .lload 3, 1), (84, .l2i, 1), (85, .i2b, 1), (86, .i2l, 1), (87, .lastore, 1), (88, .iconst 1, 1), (89, .ireturn, 1)]
def jcX11_item : List (Nat × Instr × Nat) := [(0, .iload 1, 1), (1, .invokestatic 23114219, 3), (4, .ifCond .eq 49, 3), (7, .aload 0, 1), (8, .getfield 2175804635, 3), (11, .iload 1, 1), (12, .iaload, 1), (13, .iconst (-1), 1), (14, .if_icmp .eq 49, 3), (17, .iload 2, 1), (18, .i2l, 1), (19, .sipush 0, 1), (20, .aload 0, 1), (21, .getfield 2176328939, 3), (24, .iload 1, 1), (25, .iaload, 1), (26, .iconst 1, 1), (27, .isub, 1), (28, .i2l, 1), (29, .invokestatic 23278475, 3), (32, .ifCond .eq 49, 3), (35, .aload 0, 1), (36, .getfield 85928731899, 3), (39, .iconst 40, 2), (41, .iload 1, 1), (42, .imul, 1), (43, .iload 2, 1), (44, .iadd, 1), (45, .laload, 1), (46, .goto 52, 3), (49, .sipush (-4611686018427387904), 3), (52, .lreturn, 1)]
def jcX11_copy : List (Nat × Instr × Nat) := [(0, .iload 1, 1), (1, .invokestatic 23114219, 3), (4, .ifCond .eq 14, 3), (7, .iload 3, 1), (8, .invokestatic 23114219, 3), (11, .ifCond .ne 17, 3), (14, .iconst (-2), 2), (16, .ireturn, 1), (17, .aload 0, 1), (18, .getfield 2175804635, 3), (21, .iload 1, 1), (22, .iaload, 1), (23, .iconst (-1), 1), (24, .if_icmp .eq 37, 3), (27, .aload 0, 1), (28, .getfield 2175804635, 3), (31, .iload 3, 1), (32, .iaload, 1), (33, .iconst (-1), 1), (34, .if_icmp .ne 40, 3), (37, .iconst (-11), 2), (39, .ireturn, 1), (40, .aload 0, 1), (41, .getfield 2175804635, 3), (44, .iload 1, 1), (45, .iaload, 1), (46, .aload 0, 1), (47, .getfield 2175804635, 3), (50, .iload 3, 1), (51, .iaload, 1), (52, .if_icmp .eq 58, 3), (55, .iconst (-13), 2), (57, .ireturn, 1), (58, .iload 5, 2), (60, .ifCond .lt 99, 3), (63, .iload 2, 1), (64, .ifCond .lt 99, 3), (67, .iload 4, 2), (69, .ifCond .lt 99, 3), (72, .iload 2, 1), (73, .aload 0, 1), (74, .getfield 2176328939, 3), (77, .iload 1, 1), (78, .iaload, 1), (79, .iload 5, 2), (81, .isub, 1), (82, .if_icmp .gt 99, 3), (85, .iload 4, 2), (87, .aload 0, 1), (88, .getfield 2176328939, 3), (91, .iload 3, 1), (92, .iaload, 1), (93, .iload 5, 2), (95, .isub, 1), (96, .if_icmp .le 102, 3), (99, .iconst (-12), 2), (101, .ireturn, 1), (102, .iload 1, 1), (103, .iload 3, 1), (104, .if_icmp .ne 117, 3), (107, .iload 2, 1), (108, .iload 4, 2), (110, .if_icmp .ge 117, 3), (113, .iconst 1, 1), (114, .goto 118, 3), (117, .iconst 0, 1), (118, .istore 6, 2), (120, .iconst 0, 1), (121, .istore 7, 2), (123, .iload 7, 2), (125, .iload 5, 2), (127, .if_icmp .ge 184, 3), (130, .iload 6, 2), (132, .ifCond .eq 145, 3), (135, .iload 5, 2), (137, .iconst 1, 1), (138, .isub, 1), (139, .iload 7, 2), (141, .isub, 1), (142, .goto 147, 3), (145, .iload 7, 2), (147, .istore 8, 2), (149, .aload 0, 1), (150, .getfield 85928731899, 3), (153, .iconst 40, 2), (155, .iload 3, 1), (156, .imul, 1), (157, .iload 4, 2), (159, .iadd, 1), (160, .iload 8, 2), (162, .iadd, 1), (163, .aload 0, 1), (164, .getfield 85928731899, 3), (167, .iconst 40, 2), (169, .iload 1, 1), (170, .imul, 1), (171, .iload 2, 1), (172, .iadd, 1), (173, .iload 8, 2), (175, .iadd, 1), (176, .laload, 1), (177, .lastore, 1), (178, .iinc 7 1, 3), (181, .goto 123, 3), (184, .iload 5, 2), (186, .ireturn, 1)]
def jcX11_lay : List (Nat × Instr × Nat) := [(0, .iload 1, 1), (1, .invokestatic 23114219, 3), (4, .ifCond .eq 44, 3), (7, .iload 2, 1), (8, .i2l, 1), (9, .sipush 0, 1), (10, .sipush 7, 3), (13, .invokestatic 23278475, 3), (16, .ifCond .eq 44, 3), (19, .iload 3, 1), (20, .i2l, 1), (21, .sipush 0, 1), (22, .sipush 2, 3), (25, .invokestatic 23278475, 3), (28, .ifCond .eq 44, 3), (31, .iload 5, 2), (33, .i2l, 1), (34, .sipush 1, 1), (35, .sipush 8, 3), (38, .invokestatic 23278475, 3), (41, .ifCond .ne 47, 3), (44, .iconst (-2), 2), (46, .ireturn, 1), (47, .aload 0, 1), (48, .getfield 2175804635, 3), (51, .iload 1, 1), (52, .iaload, 1), (53, .iconst (-1), 1), (54, .if_icmp .ne 60, 3), (57, .iconst (-11), 2), (59, .ireturn, 1), (60, .aload 0, 1), (61, .getfield 2175804635, 3), (64, .iload 1, 1), (65, .iaload, 1), (66, .iload 3, 1), (67, .if_icmp .eq 73, 3), (70, .iconst (-13), 2), (72, .ireturn, 1), (73, .iload 4, 2), (75, .ifCond .lt 92, 3), (78, .iload 4, 2), (80, .aload 0, 1), (81, .getfield 2176328939, 3), (84, .iload 1, 1), (85, .iaload, 1), (86, .iload 5, 2), (88, .isub, 1), (89, .if_icmp .le 95, 3), (92, .iconst (-12), 2), (94, .ireturn, 1), (95, .iconst 0, 1), (96, .istore 6, 2), (98, .iload 6, 2), (100, .iload 5, 2), (102, .if_icmp .ge 159, 3), (105, .aload 0, 1), (106, .getfield 85928731899, 3), (109, .iconst 40, 2), (111, .iload 1, 1), (112, .imul, 1), (113, .iload 4, 2), (115, .iadd, 1), (116, .iload 6, 2), (118, .iadd, 1), (119, .laload, 1), (120, .sipush 1000000000, 3), (123, .lrem, 1), (124, .lstore 7, 2), (126, .aload 0, 1), (127, .getfield 34361335867, 3), (130, .iconst 8, 2), (132, .iload 2, 1), (133, .imul, 1), (134, .iload 6, 2), (136, .iadd, 1), (137, .lload 7, 2), (139, .sipush 0, 1), (140, .multianewarray 3 150, 4), (144, .lload 7, 2), (146, .lneg, 1), (147, .goto 152, 3), (150, .lload 7, 2), (152, .lastore, 1), (153, .iinc 6 1, 3), (156, .goto 98, 3), (159, .iload 5, 2), (161, .ireturn, 1)]
def jcJ6_bitCount_0f7a4 : List (Nat × Instr × Nat) := [(0, .iload 0, 1), (1, .iload 0, 1), (2, .iconst 1, 1), (3, .iushr, 1), (4, .iconst 1431655765, 3), (7, .iand, 1), (8, .isub, 1), (9, .istore 0, 1), (10, .iload 0, 1), (11, .iconst 858993459, 3), (14, .iand, 1), (15, .iload 0, 1), (16, .iconst 2, 1), (17, .iushr, 1), (18, .iconst 858993459, 3), (21, .iand, 1), (22, .iadd, 1), (23, .istore 0, 1), (24, .iload 0, 1), (25, .iload 0, 1), (26, .iconst 4, 1), (27, .iushr, 1), (28, .iadd, 1), (29, .iconst 252645135, 3), (32, .iand, 1), (33, .istore 0, 1), (34, .iload 0, 1), (35, .iload 0, 1), (36, .iconst 8, 2), (38, .iushr, 1), (39, .iadd, 1), (40, .istore 0, 1), (41, .iload 0, 1), (42, .iload 0, 1), (43, .iconst 16, 2), (45, .iushr, 1), (46, .iadd, 1), (47, .istore 0, 1), (48, .iload 0, 1), (49, .iconst 63, 2), (51, .iand, 1), (52, .ireturn, 1)]
def jcJ9_floorDiv_f86c9 : List (Nat × Instr × Nat) := [(0, .lload 0, 1), (1, .lload 2, 1), (2, .ldiv, 1), (3, .lstore 4, 2), (5, .lload 0, 1), (6, .lload 2, 1), (7, .lxor, 1), (8, .sipush 0, 1), (9, .multianewarray 3 27, 4), (13, .lload 4, 2), (15, .lload 2, 1), (16, .lmul, 1), (17, .lload 0, 1), (18, .multianewarray 0 27, 4), (22, .lload 4, 2), (24, .sipush 1, 1), (25, .lsub, 1), (26, .lreturn, 1), (27, .lload 4, 2), (29, .lreturn, 1)]
def jcJ9_floorMod_f86c9 : List (Nat × Instr × Nat) := [(0, .lload 0, 1), (1, .lload 2, 1), (2, .lrem, 1), (3, .lstore 4, 2), (5, .lload 0, 1), (6, .lload 2, 1), (7, .lxor, 1), (8, .sipush 0, 1), (9, .multianewarray 3 25, 4), (13, .lload 4, 2), (15, .sipush 0, 1), (16, .multianewarray 0 25, 4), (20, .lload 4, 2), (22, .lload 2, 1), (23, .ladd, 1), (24, .lreturn, 1), (25, .lload 4, 2), (27, .lreturn, 1)]
def jcJ9_abs_067f4 : List (Nat × Instr × Nat) := [(0, .lload 0, 1), (1, .sipush 0, 1), (2, .multianewarray 3 11, 4), (6, .lload 0, 1), (7, .lneg, 1), (8, .goto 12, 3), (11, .lload 0, 1), (12, .lreturn, 1)]
def jcJ9_max_f86c9 : List (Nat × Instr × Nat) := [(0, .lload 0, 1), (1, .lload 2, 1), (2, .multianewarray 2 10, 4), (6, .lload 0, 1), (7, .goto 11, 3), (10, .lload 2, 1), (11, .lreturn, 1)]
def jcJ9_min_f86c9 : List (Nat × Instr × Nat) := [(0, .lload 0, 1), (1, .lload 2, 1), (2, .multianewarray 4 10, 4), (6, .lload 0, 1), (7, .goto 11, 3), (10, .lload 2, 1), (11, .lreturn, 1)]
def jcJ7_fill_d0a16 : List (Nat × Instr × Nat) := [(0, .iconst 0, 1), (1, .istore 3, 1), (2, .aload 0, 1), (3, .arraylength, 1), (4, .istore 4, 2), (6, .iload 3, 1), (7, .iload 4, 2), (9, .if_icmp .ge 22, 3), (12, .aload 0, 1), (13, .iload 3, 1), (14, .lload 1, 1), (15, .lastore, 1), (16, .iinc 3 1, 3), (19, .goto 6, 3), (22, .return_, 1)]
def jcJ7_fill_53178 : List (Nat × Instr × Nat) := [(0, .iconst 0, 1), (1, .istore 2, 1), (2, .aload 0, 1), (3, .arraylength, 1), (4, .istore 3, 1), (5, .iload 2, 1), (6, .iload 3, 1), (7, .if_icmp .ge 20, 3), (10, .aload 0, 1), (11, .iload 2, 1), (12, .iload 1, 1), (13, .iastore, 1), (14, .iinc 2 1, 3), (17, .goto 5, 3), (20, .return_, 1)]
def jcL_law : List (Nat × Instr × Nat) := [(0, .new 10, 3), (3, .dup, 1), (4, .invokestatic 55520067932, 3), (7, .astore 1, 1), (8, .new 11, 3), (11, .dup, 1), (12, .invokestatic 30289232268, 3), (15, .astore 2, 1), (16, .iconst 0, 1), (17, .istore 3, 1), (18, .iload 3, 1), (19, .aload 0, 1), (20, .arraylength, 1), (21, .iconst 6, 2), (23, .isub, 1), (24, .if_icmp .gt 1459, 3), (27, .aload 0, 1), (28, .iload 3, 1), (29, .iaload, 1), (30, .iconst 63, 2), (32, .iand, 1), (33, .tableswitch 1453 0 35 #[192, 235, 288, 362, 396, 439, 472, 495, 518, 541, 574, 618, 661, 674, 708, 752, 766, 779, 812, 845, 889, 923, 947, 971, 1004, 1027, 1061, 1095, 1128, 1141, 1154, 1177, 1220, 1293, 1327, 1390], 159), (192, .aload 1, 1), (193, .aload 0, 1), (194, .iload 3, 1), (195, .iconst 1, 1), (196, .iadd, 1), (197, .iaload, 1), (198, .aload 0, 1), (199, .iload 3, 1), (200, .iconst 2, 1), (201, .iadd, 1), (202, .iaload, 1), (203, .aload 0, 1), (204, .iload 3, 1), (205, .iconst 3, 1), (206, .iadd, 1), (207, .iaload, 1), (208, .invokestatic 54662237, 3), (211, .aload 2, 1), (212, .aload 0, 1), (213, .iload 3, 1), (214, .iconst 1, 1), (215, .iadd, 1), (216, .iaload, 1), (217, .aload 0, 1), (218, .iload 3, 1), (219, .iconst 2, 1), (220, .iadd, 1), (221, .iaload, 1), (222, .aload 0, 1), (223, .iload 3, 1), (224, .iconst 3, 1), (225, .iadd, 1), (226, .iaload, 1), (227, .invokestatic 56792209, 3), (230, .if_icmp .eq 1453, 3), (233, .iconst 0, 1), (234, .ireturn, 1), (235, .aload 1, 1), (236, .aload 0, 1), (237, .iload 3, 1), (238, .iconst 1, 1), (239, .iadd, 1), (240, .iaload, 1), (241, .aload 0, 1), (242, .iload 3, 1), (243, .iconst 2, 1), (244, .iadd, 1), (245, .iaload, 1), (246, .aload 0, 1), (247, .iload 3, 1), (248, .iconst 3, 1), (249, .iadd, 1), (250, .iaload, 1), (251, .aload 0, 1), (252, .iload 3, 1), (253, .iconst 4, 1), (254, .iadd, 1), (255, .iaload, 1), (256, .invokestatic 54760798, 3), (259, .aload 2, 1), (260, .aload 0, 1), (261, .iload 3, 1), (262, .iconst 1, 1), (263, .iadd, 1), (264, .iaload, 1), (265, .aload 0, 1), (266, .iload 3, 1), (267, .iconst 2, 1), (268, .iadd, 1), (269, .iaload, 1), (270, .aload 0, 1), (271, .iload 3, 1), (272, .iconst 3, 1), (273, .iadd, 1), (274, .iaload, 1), (275, .aload 0, 1), (276, .iload 3, 1), (277, .iconst 4, 1), (278, .iadd, 1), (279, .iaload, 1), (280, .invokestatic 56858002, 3), (283, .if_icmp .eq 1453, 3), (286, .iconst 0, 1), (287, .ireturn, 1), (288, .aload 1, 1), (289, .aload 0, 1), (290, .iload 3, 1), (291, .iconst 1, 1), (292, .iadd, 1), (293, .iaload, 1), (294, .aload 0, 1), (295, .iload 3, 1), (296, .iconst 2, 1), (297, .iadd, 1), (298, .iaload, 1), (299, .aload 0, 1), (300, .iload 3, 1), (301, .iconst 3, 1), (302, .iadd, 1), (303, .iaload, 1), (304, .i2l, 1), (305, .iconst 32, 2), (307, .lshl, 1), (308, .aload 0, 1), (309, .iload 3, 1), (310, .iconst 4, 1), (311, .iadd, 1), (312, .iaload, 1), (313, .i2l, 1), (314, .sipush 4294967295, 3), (317, .land, 1), (318, .lor, 1), (319, .invokestatic 54699103, 3), (322, .aload 2, 1), (323, .aload 0, 1), (324, .iload 3, 1), (325, .iconst 1, 1), (326, .iadd, 1), (327, .iaload, 1), (328, .aload 0, 1), (329, .iload 3, 1), (330, .iconst 2, 1), (331, .iadd, 1), (332, .iaload, 1), (333, .aload 0, 1), (334, .iload 3, 1), (335, .iconst 3, 1), (336, .iadd, 1), (337, .iaload, 1), (338, .i2l, 1), (339, .iconst 32, 2), (341, .lshl, 1), (342, .aload 0, 1), (343, .iload 3, 1), (344, .iconst 4, 1), (345, .iadd, 1), (346, .iaload, 1), (347, .i2l, 1), (348, .sipush 4294967295, 3), (351, .land, 1), (352, .lor, 1), (353, .invokestatic 56796354, 3), (356, .multianewarray 0 1453, 4), (360, .iconst 0, 1), (361, .ireturn, 1), (362, .aload 1, 1), (363, .aload 0, 1), (364, .iload 3, 1), (365, .iconst 1, 1), (366, .iadd, 1), (367, .iaload, 1), (368, .aload 0, 1), (369, .iload 3, 1), (370, .iconst 2, 1), (371, .iadd, 1), (372, .iaload, 1), (373, .invokestatic 54633312, 3), (376, .aload 2, 1), (377, .aload 0, 1), (378, .iload 3, 1), (379, .iconst 1, 1), (380, .iadd, 1), (381, .iaload, 1), (382, .aload 0, 1), (383, .iload 3, 1), (384, .iconst 2, 1), (385, .iadd, 1), (386, .iaload, 1), (387, .invokestatic 56796091, 3), (390, .multianewarray 0 1453, 4), (394, .iconst 0, 1), (395, .ireturn, 1), (396, .aload 1, 1), (397, .aload 0, 1), (398, .iload 3, 1), (399, .iconst 1, 1), (400, .iadd, 1), (401, .iaload, 1), (402, .aload 0, 1), (403, .iload 3, 1), (404, .iconst 2, 1), (405, .iadd, 1), (406, .iaload, 1), (407, .aload 0, 1), (408, .iload 3, 1), (409, .iconst 3, 1), (410, .iadd, 1), (411, .iaload, 1), (412, .invokestatic 54727777, 3), (415, .aload 2, 1), (416, .aload 0, 1), (417, .iload 3, 1), (418, .iconst 1, 1), (419, .iadd, 1), (420, .iaload, 1), (421, .aload 0, 1), (422, .iload 3, 1), (423, .iconst 2, 1), (424, .iadd, 1), (425, .iaload, 1), (426, .aload 0, 1), (427, .iload 3, 1), (428, .iconst 3, 1), (429, .iadd, 1), (430, .iaload, 1), (431, .invokestatic 56792252, 3), (434, .if_icmp .eq 1453, 3), (437, .iconst 0, 1), (438, .ireturn, 1), (439, .aload 1, 1), (440, .aload 0, 1), (441, .iload 3, 1), (442, .iconst 1, 1), (443, .iadd, 1), (444, .iaload, 1), (445, .aload 0, 1), (446, .iload 3, 1), (447, .iconst 2, 1), (448, .iadd, 1), (449, .iaload, 1), (450, .invokestatic 54629218, 3), (453, .aload 2, 1), (454, .aload 0, 1), (455, .iload 3, 1), (456, .iconst 1, 1), (457, .iadd, 1), (458, .iaload, 1), (459, .aload 0, 1), (460, .iload 3, 1), (461, .iconst 2, 1), (462, .iadd, 1), (463, .iaload, 1), (464, .invokestatic 56726461, 3), (467, .if_icmp .eq 1453, 3), (470, .iconst 0, 1), (471, .ireturn, 1), (472, .aload 1, 1), (473, .aload 0, 1), (474, .iload 3, 1), (475, .iconst 1, 1), (476, .iadd, 1), (477, .iaload, 1), (478, .invokestatic 54596195, 3), (481, .aload 2, 1), (482, .aload 0, 1), (483, .iload 3, 1), (484, .iconst 1, 1), (485, .iadd, 1), (486, .iaload, 1), (487, .invokestatic 56693395, 3), (490, .if_icmp .eq 1453, 3), (493, .iconst 0, 1), (494, .ireturn, 1), (495, .aload 1, 1), (496, .aload 0, 1), (497, .iload 3, 1), (498, .iconst 1, 1), (499, .iadd, 1), (500, .iaload, 1), (501, .invokestatic 54694500, 3), (504, .aload 2, 1), (505, .aload 0, 1), (506, .iload 3, 1), (507, .iconst 1, 1), (508, .iadd, 1), (509, .iaload, 1), (510, .invokestatic 56824490, 3), (513, .if_icmp .eq 1453, 3), (516, .iconst 0, 1), (517, .ireturn, 1), (518, .aload 1, 1), (519, .aload 0, 1), (520, .iload 3, 1), (521, .iconst 1, 1), (522, .iadd, 1), (523, .iaload, 1), (524, .invokestatic 54628965, 3), (527, .aload 2, 1), (528, .aload 0, 1), (529, .iload 3, 1), (530, .iconst 1, 1), (531, .iadd, 1), (532, .iaload, 1), (533, .invokestatic 56758955, 3), (536, .if_icmp .eq 1453, 3), (539, .iconst 0, 1), (540, .ireturn, 1), (541, .aload 1, 1), (542, .aload 0, 1), (543, .iload 3, 1), (544, .iconst 1, 1), (545, .iadd, 1), (546, .iaload, 1), (547, .aload 0, 1), (548, .iload 3, 1), (549, .iconst 2, 1), (550, .iadd, 1), (551, .iaload, 1), (552, .invokestatic 54629222, 3), (555, .aload 2, 1), (556, .aload 0, 1), (557, .iload 3, 1), (558, .iconst 1, 1), (559, .iadd, 1), (560, .iaload, 1), (561, .aload 0, 1), (562, .iload 3, 1), (563, .iconst 2, 1), (564, .iadd, 1), (565, .iaload, 1), (566, .invokestatic 56791980, 3), (569, .if_icmp .eq 1453, 3), (572, .iconst 0, 1), (573, .ireturn, 1), (574, .aload 1, 1), (575, .aload 0, 1), (576, .iload 3, 1), (577, .iconst 1, 1), (578, .iadd, 1), (579, .iaload, 1), (580, .aload 0, 1), (581, .iload 3, 1), (582, .iconst 2, 1), (583, .iadd, 1), (584, .iaload, 1), (585, .aload 0, 1), (586, .iload 3, 1), (587, .iconst 3, 1), (588, .iadd, 1), (589, .iaload, 1), (590, .invokestatic 54666343, 3), (593, .aload 2, 1), (594, .aload 0, 1), (595, .iload 3, 1), (596, .iconst 1, 1), (597, .iadd, 1), (598, .iaload, 1), (599, .aload 0, 1), (600, .iload 3, 1), (601, .iconst 2, 1), (602, .iadd, 1), (603, .iaload, 1), (604, .aload 0, 1), (605, .iload 3, 1), (606, .iconst 3, 1), (607, .iadd, 1), (608, .iaload, 1), (609, .invokestatic 56829107, 3), (612, .multianewarray 0 1453, 4), (616, .iconst 0, 1), (617, .ireturn, 1), (618, .aload 1, 1), (619, .aload 0, 1), (620, .iload 3, 1), (621, .iconst 1, 1), (622, .iadd, 1), (623, .iaload, 1), (624, .aload 0, 1), (625, .iload 3, 1), (626, .iconst 2, 1), (627, .iadd, 1), (628, .iaload, 1), (629, .aload 0, 1), (630, .iload 3, 1), (631, .iconst 3, 1), (632, .iadd, 1), (633, .iaload, 1), (634, .invokestatic 54695016, 3), (637, .aload 2, 1), (638, .aload 0, 1), (639, .iload 3, 1), (640, .iconst 1, 1), (641, .iadd, 1), (642, .iaload, 1), (643, .aload 0, 1), (644, .iload 3, 1), (645, .iconst 2, 1), (646, .iadd, 1), (647, .iaload, 1), (648, .aload 0, 1), (649, .iload 3, 1), (650, .iconst 3, 1), (651, .iadd, 1), (652, .iaload, 1), (653, .invokestatic 56759476, 3), (656, .if_icmp .eq 1453, 3), (659, .iconst 0, 1), (660, .ireturn, 1), (661, .aload 1, 1), (662, .invokestatic 54563177, 3), (665, .aload 2, 1), (666, .invokestatic 56693208, 3), (669, .if_icmp .eq 1453, 3), (672, .iconst 0, 1), (673, .ireturn, 1), (674, .aload 1, 1), (675, .aload 0, 1), (676, .iload 3, 1), (677, .iconst 1, 1), (678, .iadd, 1), (679, .iaload, 1), (680, .aload 0, 1), (681, .iload 3, 1), (682, .iconst 2, 1), (683, .iadd, 1), (684, .iaload, 1), (685, .invokestatic 54633322, 3), (688, .aload 2, 1), (689, .aload 0, 1), (690, .iload 3, 1), (691, .iconst 1, 1), (692, .iadd, 1), (693, .iaload, 1), (694, .aload 0, 1), (695, .iload 3, 1), (696, .iconst 2, 1), (697, .iadd, 1), (698, .iaload, 1), (699, .invokestatic 56730585, 3), (702, .multianewarray 0 1453, 4), (706, .iconst 0, 1), (707, .ireturn, 1), (708, .aload 1, 1), (709, .aload 0, 1), (710, .iload 3, 1), (711, .iconst 1, 1), (712, .iadd, 1), (713, .iaload, 1), (714, .aload 0, 1), (715, .iload 3, 1), (716, .iconst 2, 1), (717, .iadd, 1), (718, .iaload, 1), (719, .aload 0, 1), (720, .iload 3, 1), (721, .iconst 3, 1), (722, .iadd, 1), (723, .iaload, 1), (724, .invokestatic 54666347, 3), (727, .aload 2, 1), (728, .aload 0, 1), (729, .iload 3, 1), (730, .iconst 1, 1), (731, .iadd, 1), (732, .iaload, 1), (733, .aload 0, 1), (734, .iload 3, 1), (735, .iconst 2, 1), (736, .iadd, 1), (737, .iaload, 1), (738, .aload 0, 1), (739, .iload 3, 1), (740, .iconst 3, 1), (741, .iadd, 1), (742, .iaload, 1), (743, .invokestatic 56763610, 3), (746, .multianewarray 0 1453, 4), (750, .iconst 0, 1), (751, .ireturn, 1), (752, .aload 1, 1), (753, .invokestatic 54567276, 3), (756, .aload 2, 1), (757, .invokestatic 56664515, 3), (760, .multianewarray 0 1453, 4), (764, .iconst 0, 1), (765, .ireturn, 1), (766, .aload 1, 1), (767, .invokestatic 54563181, 3), (770, .aload 2, 1), (771, .invokestatic 56660420, 3), (774, .if_icmp .eq 1453, 3), (777, .iconst 0, 1), (778, .ireturn, 1), (779, .aload 1, 1), (780, .aload 0, 1), (781, .iload 3, 1), (782, .iconst 1, 1), (783, .iadd, 1), (784, .iaload, 1), (785, .aload 0, 1), (786, .iload 3, 1), (787, .iconst 2, 1), (788, .iadd, 1), (789, .iaload, 1), (790, .invokestatic 54629230, 3), (793, .aload 2, 1), (794, .aload 0, 1), (795, .iload 3, 1), (796, .iconst 1, 1), (797, .iadd, 1), (798, .iaload, 1), (799, .aload 0, 1), (800, .iload 3, 1), (801, .iconst 2, 1), (802, .iadd, 1), (803, .iaload, 1), (804, .invokestatic 56726469, 3), (807, .if_icmp .eq 1453, 3), (810, .iconst 0, 1), (811, .ireturn, 1), (812, .aload 1, 1), (813, .aload 0, 1), (814, .iload 3, 1), (815, .iconst 1, 1), (816, .iadd, 1), (817, .iaload, 1), (818, .aload 0, 1), (819, .iload 3, 1), (820, .iconst 2, 1), (821, .iadd, 1), (822, .iaload, 1), (823, .invokestatic 54694767, 3), (826, .aload 2, 1), (827, .aload 0, 1), (828, .iload 3, 1), (829, .iconst 1, 1), (830, .iadd, 1), (831, .iaload, 1), (832, .aload 0, 1), (833, .iload 3, 1), (834, .iconst 2, 1), (835, .iadd, 1), (836, .iaload, 1), (837, .invokestatic 56792008, 3), (840, .if_icmp .eq 1453, 3), (843, .iconst 0, 1), (844, .ireturn, 1), (845, .aload 1, 1), (846, .aload 0, 1), (847, .iload 3, 1), (848, .iconst 1, 1), (849, .iadd, 1), (850, .iaload, 1), (851, .aload 0, 1), (852, .iload 3, 1), (853, .iconst 2, 1), (854, .iadd, 1), (855, .iaload, 1), (856, .aload 0, 1), (857, .iload 3, 1), (858, .iconst 3, 1), (859, .iadd, 1), (860, .iaload, 1), (861, .invokestatic 54699120, 3), (864, .aload 2, 1), (865, .aload 0, 1), (866, .iload 3, 1), (867, .iconst 1, 1), (868, .iadd, 1), (869, .iaload, 1), (870, .aload 0, 1), (871, .iload 3, 1), (872, .iconst 2, 1), (873, .iadd, 1), (874, .iaload, 1), (875, .aload 0, 1), (876, .iload 3, 1), (877, .iconst 3, 1), (878, .iadd, 1), (879, .iaload, 1), (880, .invokestatic 56763593, 3), (883, .multianewarray 0 1453, 4), (887, .iconst 0, 1), (888, .ireturn, 1), (889, .aload 1, 1), (890, .aload 0, 1), (891, .iload 3, 1), (892, .iconst 1, 1), (893, .iadd, 1), (894, .iaload, 1), (895, .aload 0, 1), (896, .iload 3, 1), (897, .iconst 2, 1), (898, .iadd, 1), (899, .iaload, 1), (900, .invokestatic 54633329, 3), (903, .aload 2, 1), (904, .aload 0, 1), (905, .iload 3, 1), (906, .iconst 1, 1), (907, .iadd, 1), (908, .iaload, 1), (909, .aload 0, 1), (910, .iload 3, 1), (911, .iconst 2, 1), (912, .iadd, 1), (913, .iaload, 1), (914, .invokestatic 56730573, 3), (917, .multianewarray 0 1453, 4), (921, .iconst 0, 1), (922, .ireturn, 1), (923, .aload 1, 1), (924, .aload 0, 1), (925, .iload 3, 1), (926, .iconst 1, 1), (927, .iadd, 1), (928, .iaload, 1), (929, .invokestatic 54665842, 3), (932, .aload 2, 1), (933, .aload 0, 1), (934, .iload 3, 1), (935, .iconst 1, 1), (936, .iadd, 1), (937, .iaload, 1), (938, .invokestatic 56828623, 3), (941, .multianewarray 0 1453, 4), (945, .iconst 0, 1), (946, .ireturn, 1), (947, .aload 1, 1), (948, .aload 0, 1), (949, .iload 3, 1), (950, .iconst 1, 1), (951, .iadd, 1), (952, .iaload, 1), (953, .invokestatic 54698611, 3), (956, .aload 2, 1), (957, .aload 0, 1), (958, .iload 3, 1), (959, .iconst 1, 1), (960, .iadd, 1), (961, .iaload, 1), (962, .invokestatic 56697564, 3), (965, .multianewarray 0 1453, 4), (969, .iconst 0, 1), (970, .ireturn, 1), (971, .aload 1, 1), (972, .aload 0, 1), (973, .iload 3, 1), (974, .iconst 1, 1), (975, .iadd, 1), (976, .iaload, 1), (977, .aload 0, 1), (978, .iload 3, 1), (979, .iconst 2, 1), (980, .iadd, 1), (981, .iaload, 1), (982, .invokestatic 54629236, 3), (985, .aload 2, 1), (986, .aload 0, 1), (987, .iload 3, 1), (988, .iconst 1, 1), (989, .iadd, 1), (990, .iaload, 1), (991, .aload 0, 1), (992, .iload 3, 1), (993, .iconst 2, 1), (994, .iadd, 1), (995, .iaload, 1), (996, .invokestatic 56726493, 3), (999, .if_icmp .eq 1453, 3), (1002, .iconst 0, 1), (1003, .ireturn, 1), (1004, .aload 1, 1), (1005, .aload 0, 1), (1006, .iload 3, 1), (1007, .iconst 1, 1), (1008, .iadd, 1), (1009, .iaload, 1), (1010, .invokestatic 54596213, 3), (1013, .aload 2, 1), (1014, .aload 0, 1), (1015, .iload 3, 1), (1016, .iconst 1, 1), (1017, .iadd, 1), (1018, .iaload, 1), (1019, .invokestatic 56759006, 3), (1022, .if_icmp .eq 1453, 3), (1025, .iconst 0, 1), (1026, .ireturn, 1), (1027, .aload 1, 1), (1028, .aload 0, 1), (1029, .iload 3, 1), (1030, .iconst 1, 1), (1031, .iadd, 1), (1032, .iaload, 1), (1033, .aload 0, 1), (1034, .iload 3, 1), (1035, .iconst 2, 1), (1036, .iadd, 1), (1037, .iaload, 1), (1038, .invokestatic 54633334, 3), (1041, .aload 2, 1), (1042, .aload 0, 1), (1043, .iload 3, 1), (1044, .iconst 1, 1), (1045, .iadd, 1), (1046, .iaload, 1), (1047, .aload 0, 1), (1048, .iload 3, 1), (1049, .iconst 2, 1), (1050, .iadd, 1), (1051, .iaload, 1), (1052, .invokestatic 56828895, 3), (1055, .multianewarray 0 1453, 4), (1059, .iconst 0, 1), (1060, .ireturn, 1), (1061, .aload 1, 1), (1062, .aload 0, 1), (1063, .iload 3, 1), (1064, .iconst 1, 1), (1065, .iadd, 1), (1066, .iaload, 1), (1067, .aload 0, 1), (1068, .iload 3, 1), (1069, .iconst 2, 1), (1070, .iadd, 1), (1071, .iaload, 1), (1072, .invokestatic 54633335, 3), (1075, .aload 2, 1), (1076, .aload 0, 1), (1077, .iload 3, 1), (1078, .iconst 1, 1), (1079, .iadd, 1), (1080, .iaload, 1), (1081, .aload 0, 1), (1082, .iload 3, 1), (1083, .iconst 2, 1), (1084, .iadd, 1), (1085, .iaload, 1), (1086, .invokestatic 56861666, 3), (1089, .multianewarray 0 1453, 4), (1093, .iconst 0, 1), (1094, .ireturn, 1), (1095, .aload 1, 1), (1096, .aload 0, 1), (1097, .iload 3, 1), (1098, .iconst 1, 1), (1099, .iadd, 1), (1100, .iaload, 1), (1101, .aload 0, 1), (1102, .iload 3, 1), (1103, .iconst 2, 1), (1104, .iadd, 1), (1105, .iaload, 1), (1106, .invokestatic 54694776, 3), (1109, .aload 2, 1), (1110, .aload 0, 1), (1111, .iload 3, 1), (1112, .iconst 1, 1), (1113, .iadd, 1), (1114, .iaload, 1), (1115, .aload 0, 1), (1116, .iload 3, 1), (1117, .iconst 2, 1), (1118, .iadd, 1), (1119, .iaload, 1), (1120, .invokestatic 56792036, 3), (1123, .if_icmp .eq 1453, 3), (1126, .iconst 0, 1), (1127, .ireturn, 1), (1128, .aload 1, 1), (1129, .invokestatic 54563193, 3), (1132, .aload 2, 1), (1133, .invokestatic 56660455, 3), (1136, .if_icmp .eq 1453, 3), (1139, .iconst 0, 1), (1140, .ireturn, 1), (1141, .aload 1, 1), (1142, .invokestatic 54563194, 3), (1145, .aload 2, 1), (1146, .invokestatic 56660456, 3), (1149, .if_icmp .eq 1453, 3), (1152, .iconst 0, 1), (1153, .ireturn, 1), (1154, .aload 1, 1), (1155, .aload 0, 1), (1156, .iload 3, 1), (1157, .iconst 1, 1), (1158, .iadd, 1), (1159, .iaload, 1), (1160, .invokestatic 54596219, 3), (1163, .aload 2, 1), (1164, .aload 0, 1), (1165, .iload 3, 1), (1166, .iconst 1, 1), (1167, .iadd, 1), (1168, .iaload, 1), (1169, .invokestatic 56759018, 3), (1172, .if_icmp .eq 1453, 3), (1175, .iconst 0, 1), (1176, .ireturn, 1), (1177, .aload 1, 1), (1178, .aload 0, 1), (1179, .iload 3, 1), (1180, .iconst 1, 1), (1181, .iadd, 1), (1182, .iaload, 1), (1183, .aload 0, 1), (1184, .iload 3, 1), (1185, .iconst 2, 1), (1186, .iadd, 1), (1187, .iaload, 1), (1188, .aload 0, 1), (1189, .iload 3, 1), (1190, .iconst 3, 1), (1191, .iadd, 1), (1192, .iaload, 1), (1193, .invokestatic 54662268, 3), (1196, .aload 2, 1), (1197, .aload 0, 1), (1198, .iload 3, 1), (1199, .iconst 1, 1), (1200, .iadd, 1), (1201, .iaload, 1), (1202, .aload 0, 1), (1203, .iload 3, 1), (1204, .iconst 2, 1), (1205, .iadd, 1), (1206, .iaload, 1), (1207, .aload 0, 1), (1208, .iload 3, 1), (1209, .iconst 3, 1), (1210, .iadd, 1), (1211, .iaload, 1), (1212, .invokestatic 56792300, 3), (1215, .if_icmp .eq 1453, 3), (1218, .iconst 0, 1), (1219, .ireturn, 1), (1220, .aload 1, 1), (1221, .aload 0, 1), (1222, .iload 3, 1), (1223, .iconst 1, 1), (1224, .iadd, 1), (1225, .iaload, 1), (1226, .aload 0, 1), (1227, .iload 3, 1), (1228, .iconst 2, 1), (1229, .iadd, 1), (1230, .iaload, 1), (1231, .aload 0, 1), (1232, .iload 3, 1), (1233, .iconst 3, 1), (1234, .iadd, 1), (1235, .iaload, 1), (1236, .i2l, 1), (1237, .iconst 32, 2), (1239, .lshl, 1), (1240, .aload 0, 1), (1241, .iload 3, 1), (1242, .iconst 4, 1), (1243, .iadd, 1), (1244, .iaload, 1), (1245, .i2l, 1), (1246, .sipush 4294967295, 3), (1249, .land, 1), (1250, .lor, 1), (1251, .invokestatic 54727805, 3), (1254, .aload 2, 1), (1255, .aload 0, 1), (1256, .iload 3, 1), (1257, .iconst 1, 1), (1258, .iadd, 1), (1259, .iaload, 1), (1260, .aload 0, 1), (1261, .iload 3, 1), (1262, .iconst 2, 1), (1263, .iadd, 1), (1264, .iaload, 1), (1265, .aload 0, 1), (1266, .iload 3, 1), (1267, .iconst 3, 1), (1268, .iadd, 1), (1269, .iaload, 1), (1270, .i2l, 1), (1271, .iconst 32, 2), (1273, .lshl, 1), (1274, .aload 0, 1), (1275, .iload 3, 1), (1276, .iconst 4, 1), (1277, .iadd, 1), (1278, .iaload, 1), (1279, .i2l, 1), (1280, .sipush 4294967295, 3), (1283, .land, 1), (1284, .lor, 1), (1285, .invokestatic 56792301, 3), (1288, .if_icmp .eq 1453, 3), (1291, .iconst 0, 1), (1292, .ireturn, 1), (1293, .aload 1, 1), (1294, .aload 0, 1), (1295, .iload 3, 1), (1296, .iconst 1, 1), (1297, .iadd, 1), (1298, .iaload, 1), (1299, .aload 0, 1), (1300, .iload 3, 1), (1301, .iconst 2, 1), (1302, .iadd, 1), (1303, .iaload, 1), (1304, .invokestatic 54666110, 3), (1307, .aload 2, 1), (1308, .aload 0, 1), (1309, .iload 3, 1), (1310, .iconst 1, 1), (1311, .iadd, 1), (1312, .iaload, 1), (1313, .aload 0, 1), (1314, .iload 3, 1), (1315, .iconst 2, 1), (1316, .iadd, 1), (1317, .iaload, 1), (1318, .invokestatic 56730606, 3), (1321, .multianewarray 0 1453, 4), (1325, .iconst 0, 1), (1326, .ireturn, 1), (1327, .aload 1, 1), (1328, .aload 0, 1), (1329, .iload 3, 1), (1330, .iconst 1, 1), (1331, .iadd, 1), (1332, .iaload, 1), (1333, .aload 0, 1), (1334, .iload 3, 1), (1335, .iconst 2, 1), (1336, .iadd, 1), (1337, .iaload, 1), (1338, .aload 0, 1), (1339, .iload 3, 1), (1340, .iconst 3, 1), (1341, .iadd, 1), (1342, .iaload, 1), (1343, .aload 0, 1), (1344, .iload 3, 1), (1345, .iconst 4, 1), (1346, .iadd, 1), (1347, .iaload, 1), (1348, .aload 0, 1), (1349, .iload 3, 1), (1350, .iconst 5, 1), (1351, .iadd, 1), (1352, .iaload, 1), (1353, .invokestatic 54793855, 3), (1356, .aload 2, 1), (1357, .aload 0, 1), (1358, .iload 3, 1), (1359, .iconst 1, 1), (1360, .iadd, 1), (1361, .iaload, 1), (1362, .aload 0, 1), (1363, .iload 3, 1), (1364, .iconst 2, 1), (1365, .iadd, 1), (1366, .iaload, 1), (1367, .aload 0, 1), (1368, .iload 3, 1), (1369, .iconst 3, 1), (1370, .iadd, 1), (1371, .iaload, 1), (1372, .aload 0, 1), (1373, .iload 3, 1), (1374, .iconst 4, 1), (1375, .iadd, 1), (1376, .iaload, 1), (1377, .aload 0, 1), (1378, .iload 3, 1), (1379, .iconst 5, 1), (1380, .iadd, 1), (1381, .iaload, 1), (1382, .invokestatic 56923887, 3), (1385, .if_icmp .eq 1453, 3), (1388, .iconst 0, 1), (1389, .ireturn, 1), (1390, .aload 1, 1), (1391, .aload 0, 1), (1392, .iload 3, 1), (1393, .iconst 1, 1), (1394, .iadd, 1), (1395, .iaload, 1), (1396, .aload 0, 1), (1397, .iload 3, 1), (1398, .iconst 2, 1), (1399, .iadd, 1), (1400, .iaload, 1), (1401, .aload 0, 1), (1402, .iload 3, 1), (1403, .iconst 3, 1), (1404, .iadd, 1), (1405, .iaload, 1), (1406, .aload 0, 1), (1407, .iload 3, 1), (1408, .iconst 4, 1), (1409, .iadd, 1), (1410, .iaload, 1), (1411, .aload 0, 1), (1412, .iload 3, 1), (1413, .iconst 5, 1), (1414, .iadd, 1), (1415, .iaload, 1), (1416, .invokestatic 54793856, 3), (1419, .aload 2, 1), (1420, .aload 0, 1), (1421, .iload 3, 1), (1422, .iconst 1, 1), (1423, .iadd, 1), (1424, .iaload, 1), (1425, .aload 0, 1), (1426, .iload 3, 1), (1427, .iconst 2, 1), (1428, .iadd, 1), (1429, .iaload, 1), (1430, .aload 0, 1), (1431, .iload 3, 1), (1432, .iconst 3, 1), (1433, .iadd, 1), (1434, .iaload, 1), (1435, .aload 0, 1), (1436, .iload 3, 1), (1437, .iconst 4, 1), (1438, .iadd, 1), (1439, .iaload, 1), (1440, .aload 0, 1), (1441, .iload 3, 1), (1442, .iconst 5, 1), (1443, .iadd, 1), (1444, .iaload, 1), (1445, .invokestatic 56923888, 3), (1448, .if_icmp .eq 1453, 3), (1451, .iconst 0, 1), (1452, .ireturn, 1), (1453, .iinc 3 6, 3), (1456, .goto 18, 3), (1459, .iconst 1, 1), (1460, .ireturn, 1)]
def jCodes : List (List (Nat × Instr × Nat)) := [jcX0_init, jcX0_take, jcX0_seat, jcX0_isIn, jcX0_forcedBeside, jcX0_marked, jcX0_owned, jcX0_namersOf, jcX0_reachOf, jcX0_weighRules, jcX0_refusalOf, jcX1_init, jcX1_write, jcX1_hear, jcX2_init, jcX2_find, jcX2_grow, jcX2_turn, jcX2_spread, jcX3_init, jcX3_find, jcX3_merge, jcX3_headTotal, jcX3_firstJudge, jcX3_follow, jcX3_placeOf, jcX4_init, jcX4_load, jcX4_take, jcX4_openBy, jcX4_force, jcX4_isOpen, jcX4_openPairs, jcX4_closeJudge, jcX4_closeHeavier, jcX4_heavierThan, jcX4_weigh, jcX4_listCases, jcX4_canTake, jcX4_weighFrom, jcX4_leads, jcX4_pick, jcX4_share, jcX4_shareFrom, jcX4_follows, jcX4_sumOf, jcX4_sharedOf, jcX5_init, jcX5_make, jcX5_firstPay, jcX5_slack, jcX5_findTight, jcX5_leastSlack, jcX5_keep, jcX5_raise, jcX6_init, jcX6_clear, jcX6_take, jcX6_add, jcX6_landHere, jcX6_names, jcX6_weightBy, jcX7_init, jcX7_become, jcX7_holds, jcX7_set, jcX8_init, jcX8_add, jcX8_parse, jcX8_expr, jcX8_sum, jcX8_product, jcX8_factor, jcX8_atom, jcX8_function, jcX8_part, jcX8_enter, jcX8_leave, jcX8_step, jcX8_word, jcX8_nameOfOne, jcX8_nameOfThree, jcX8_digits, jcX8_isLetter, jcX8_isDigit, jcX8_isSign, jcX9_init, jcX9_burdenOf, jcX9_read, jcX9_leaf, jcX9_join, jcX9_fail, jcX10_init, jcX10_here, jcX10_trait, jcX10_tell, jcX10_burden, jcX10_mark, jcX10_open, jcX10_feed, jcX10_text, jcX10_empty, jcX10_told, jcX10_value, jcX10_why, jcX10_solve, jcX10_round, jcX10_price, jcX10_total, jcX10_many, jcX10_best, jcX10_kind, jcX10_room, jcX10_next, jcX10_fair, jcX10_days, jcX10_day, jcX10_lack, jcX10_without, jcX10_tells, jcX10_film, jcX10_image, jcX10_back, jcX10_count, jcX10_sheet, jcX10_put, jcX10_item, jcX10_copy, jcX10_lay, jcX10_isSide, jcX10_isSeat, jcX10_isPair, jcX10_isRule, jcX10_isSheet, jcX10_changed, jcX10_refreshPlan, jcX10_refreshShares, jcX10_refreshNextOnes, jcX10_refreshDiary, jcX11_in, jcX11_init, jcX11_isWho, jcX11_isPair, jcX11_isJudge, jcX11_isCase, jcX11_here, jcX11_trait, jcX11_feed, jcX11_byteAt, jcX11_isLetter, jcX11_isDigit, jcX11_isThree, jcX11_word, jcX11_isSignByte, jcX11_next, jcX11_fail, jcX11_isSign, jcX11_takes, jcX11_part, jcX11_opens, jcX11_expression, jcX11_sum, jcX11_product, jcX11_factor, jcX11_ofTwo, jcX11_names, jcX11_comesTo, jcX11_weight, jcX11_trades, jcX11_isHeavy, jcX11_text, jcX11_empty, jcX11_told, jcX11_fails, jcX11_valueOf, jcX11_named, jcX11_limited, jcX11_valueOf_, jcX11_asked, jcX11_value, jcX11_why, jcX11_burdenOf, jcX11_forcedOf, jcX11_isOpen, jcX11_tellsBurdens, jcX11_opens_, jcX11_costs, jcX11_burden, jcX11_mark, jcX11_open, jcX11_openMany, jcX11_least, jcX11_toldOr, jcX11_picks, jcX11_tell, jcX11_total, jcX11_many, jcX11_best, jcX11_with, jcX11_lacking, jcX11_kind, jcX11_room, jcX11_enters, jcX11_walks, jcX11_lists, jcX11_next_, jcX11_heaviest, jcX11_fair, jcX11_finds, jcX11_greatest, jcX11_marking, jcX11_casesIn, jcX11_slack, jcX11_rise, jcX11_begins, jcX11_isLast, jcX11_solve, jcX11_round, jcX11_price, jcX11_daysOf, jcX11_days, jcX11_day, jcX11_lack, jcX11_without, jcX11_casesMany, jcX11_reads, jcX11_tells, jcX11_placeOf, jcX11_film, jcX11_copies, jcX11_keeps, jcX11_image, jcX11_back, jcX11_marksOf, jcX11_count, jcX11_isSheet, jcX11_sheet, jcX11_put, jcX11_item, jcX11_copy, jcX11_lay, jcJ6_bitCount_0f7a4, jcJ9_floorDiv_f86c9, jcJ9_floorMod_f86c9, jcJ9_abs_067f4, jcJ9_max_f86c9, jcJ9_min_f86c9, jcJ7_fill_d0a16, jcJ7_fill_53178, jcL_law]
def jCode (i : Nat) : List (Nat × Instr × Nat) := jCodes.getD i []
def jIns (z pc : Nat) : Option (Instr × Nat) := (jCode (jIx z)).lookup pc
end
section
/-! what one instruction does; the run; the run piece by piece (jWp) -/
/-- a new cell: all its places at 0, references at none (-1) -/
def jNw (m : jM) : jM := fun k i => if k = m (-3) 0 then jDf k i else if k = -3 ∧ i = 0 then m (-3) 0 + 1 else m k i
def jLim (m : jM) (y : Nat) : jM := jUp m (-2) (-7) (m (-3) 0 + (jMc y : Int))
/-- a field is read -/
def jGet (md f : Nat) (c : Nat) (a : Int) (m : jM) (k : jV → Option jE) (g : Prop → jV → Option jE) : Option jE :=
  if c = jFc f then
    (match jFg f with
    | 0 => k (jI (m a (jFj f)))
    | 1 => k (jL (m a (jFj f)))
    | 2 => k (jI (m a (jFj f)))
    | 3 => if md = 0 then k (jO (jFt f) (a + jFo f)) else if md = 1 then g (m a (jFj f) = a + jFo f) (jO (jFt f) (a + jFo f)) else none
    | 4 => if md = 0 then k (jY (jFt f) (jFl f) (a + jFo f)) else if md = 1 then g (m a (jFj f) = a + jFo f) (jY (jFt f) (jFl f) (a + jFo f)) else none
    | 5 => if md = 0 then k (jO (jFt f) (m a (jFj f))) else none
    | _ => none)
  else none
/-- a field is written -/
def jPut (md f : Nat) (c : Nat) (a : Int) (v : jV) (m : jM) (k : jM → Option jE) (g : Prop → jM → Option jE) : Option jE :=
  if c = jFc f then
    (match jFg f, v with
    | 0, .inl b => k (jUp m a (jFj f) b)
    | 1, .inr (.inl b) => k (jUp m a (jFj f) b)
    | 2, .inl b => if b = 0 ∨ b = 1 then k (jUp m a (jFj f) b) else none
    | 3, .inr (.inr (.inl (t, b))) => if md = 1 ∧ t = jFt f then g (b = a + jFo f) (jUp m a (jFj f) b) else none
    | 4, .inr (.inr (.inr (t, n, b))) => if md = 1 ∧ t = jFt f ∧ n = jFl f then g (b = a + jFo f) (jUp m a (jFj f) b) else none
    | 5, .inr (.inr (.inl (t, b))) => if md ≠ 2 ∧ t = jFt f then k (jUp m a (jFj f) b) else none
    | _, _ => none)
  else none
/-- what lies on the stack, else nothing -/
def jI1 (st : List jV) (k : Int → List jV → Option jE) : Option jE := match st with
  | .inl a :: r => k a r
  | _ => none
def jL1 (st : List jV) (k : Int → List jV → Option jE) : Option jE := match st with
  | .inr (.inl a) :: r => k a r
  | _ => none
def jR1 (st : List jV) (k : (Nat × Int) ⊕ (Nat × Int × Int) → List jV → Option jE) : Option jE := match st with
  | .inr (.inr a) :: r => k a r
  | _ => none
def jO1 (st : List jV) (k : Nat → Int → List jV → Option jE) : Option jE := match st with
  | .inr (.inr (.inl (c, a))) :: r => k c a r
  | _ => none
def jY1 (st : List jV) (k : Nat → Int → Int → List jV → Option jE) : Option jE := match st with
  | .inr (.inr (.inr (t, n, a))) :: r => k t n a r
  | _ => none
def jV1 (st : List jV) (k : jV → List jV → Option jE) : Option jE := match st with
  | v :: r => k v r
  | _ => none
def jLi (ls : jS) (i : Nat) (k : Int → Option jE) : Option jE := match ls[i]? with
  | some (some (.inl a)) => k a
  | _ => none
def jLl (ls : jS) (i : Nat) (k : Int → Option jE) : Option jE := match ls[i]? with
  | some (some (.inr (.inl a))) => k a
  | _ => none
def jLa (ls : jS) (i : Nat) (k : (Nat × Int) ⊕ (Nat × Int × Int) → Option jE) : Option jE := match ls[i]? with
  | some (some (.inr (.inr a))) => k a
  | _ => none
def jIf (c : Prop) [Decidable c] (e : Option jE) : Option jE := if c then e else none
def jNc (c : Nat) : Jvm.ClassFile.Cond := match c with
  | 0 => .eq
  | 1 => .ne
  | 2 => .lt
  | 3 => .ge
  | 4 => .gt
  | _ => .le
/-- the first argument is an object of class c -/
def jHd (c : Nat) (args : List jV) : Bool := match args with
  | .inr (.inr (.inl (d, _))) :: _ => Nat.beq d c
  | _ => false
/-- none of them is the script -/
def jNs : List jV → Bool
  | [] => true
  | .inr (.inr (.inr (t, _, _))) :: r => Nat.blt t 4 && jNs r
  | _ :: r => jNs r
def jEff (z : Nat) (ai : Instr) (len pc : Nat) (ls : jS) (st : List jV) (m : jM) : Option jE := match ai with
  | .iload k => jLi ls k (fun a => jN (pc + len) ls (.inl a :: st) m)
  | .lload k => jLl ls k (fun a => jN (pc + len) ls (.inr (.inl a) :: st) m)
  | .aload k => jLa ls k (fun a => jN (pc + len) ls (.inr (.inr a) :: st) m)
  | .istore k => jI1 st (fun a r => jLs (jSt1 ls k (.inl a)) (pc + len) r m)
  | .lstore k => jL1 st (fun a r => jLs (jSt2 ls k (.inr (.inl a))) (pc + len) r m)
  | .astore k => jR1 st (fun a r => jLs (jSt1 ls k (.inr (.inr a))) (pc + len) r m)
  | .iinc k n => jLi ls k (fun a => jLs (jSt1 ls k (.inl (w32 (a + n)))) (pc + len) st m)
  | .iconst v => jN (pc + len) ls (.inl v :: st) m
  | .sipush v => jN (pc + len) ls (.inr (.inl v) :: st) m
  | .dup => jR1 st (fun a r => jN (pc + len) ls (.inr (.inr a) :: .inr (.inr a) :: r) m)
  | .dup2 => jI1 st (fun a r => jR1 r (fun b r => jN (pc + len) ls (.inl a :: .inr (.inr b) :: .inl a :: .inr (.inr b) :: r) m))
  | .pop2 => jL1 st (fun _ r => jN (pc + len) ls r m)
  | .pop => jO1 st (fun _ _ r => jIf (jCats r ≤ 8) (jN (pc + len) ls r m))
  | .iadd => jI1 st (fun b r => jI1 r (fun a r => jN (pc + len) ls (.inl (w32 (a + b)) :: r) m))
  | .isub => jI1 st (fun b r => jI1 r (fun a r => jN (pc + len) ls (.inl (w32 (a - b)) :: r) m))
  | .imul => jI1 st (fun b r => jI1 r (fun a r => jN (pc + len) ls (.inl (w32 (a * b)) :: r) m))
  | .iand => jI1 st (fun b r => jI1 r (fun a r => jN (pc + len) ls (.inl (iAnd a b) :: r) m))
  | .ior => jI1 st (fun b r => jI1 r (fun a r => jN (pc + len) ls (.inl (iOr a b) :: r) m))
  | .ixor => jI1 st (fun b r => jI1 r (fun a r => jN (pc + len) ls (.inl (iXor a b) :: r) m))
  | .ishl => jI1 st (fun b r => jI1 r (fun a r => jN (pc + len) ls (.inl (iShl a b) :: r) m))
  | .ishr => jI1 st (fun b r => jI1 r (fun a r => jN (pc + len) ls (.inl (iShr a b) :: r) m))
  | .iushr => jI1 st (fun b r => jI1 r (fun a r => jN (pc + len) ls (.inl (iUshr a b) :: r) m))
  | .idiv => jI1 st (fun b r => jI1 r (fun a r => jG (b ≠ 0) (pc + len) ls (.inl (iDiv a b) :: r) m))
  | .irem => jI1 st (fun b r => jI1 r (fun a r => jG (b ≠ 0) (pc + len) ls (.inl (iRem a b) :: r) m))
  | .i2l => jI1 st (fun a r => jN (pc + len) ls (.inr (.inl a) :: r) m)
  | .l2i => jL1 st (fun a r => jN (pc + len) ls (.inl (w32 a) :: r) m)
  | .i2b => jI1 st (fun a r => jN (pc + len) ls (.inl (i2b a) :: r) m)
  | .lneg => jL1 st (fun a r => jN (pc + len) ls (.inr (.inl (w64 (-a))) :: r) m)
  | .ladd => jL1 st (fun b r => jL1 r (fun a r => jN (pc + len) ls (.inr (.inl (w64 (a + b))) :: r) m))
  | .lsub => jL1 st (fun b r => jL1 r (fun a r => jN (pc + len) ls (.inr (.inl (w64 (a - b))) :: r) m))
  | .lmul => jL1 st (fun b r => jL1 r (fun a r => jN (pc + len) ls (.inr (.inl (w64 (a * b))) :: r) m))
  | .land => jL1 st (fun b r => jL1 r (fun a r => jN (pc + len) ls (.inr (.inl (lAnd a b)) :: r) m))
  | .lor => jL1 st (fun b r => jL1 r (fun a r => jN (pc + len) ls (.inr (.inl (lOr a b)) :: r) m))
  | .lxor => jL1 st (fun b r => jL1 r (fun a r => jN (pc + len) ls (.inr (.inl (lXor a b)) :: r) m))
  | .lshl => jI1 st (fun b r => jL1 r (fun a r => jN (pc + len) ls (.inr (.inl (lShl a b)) :: r) m))
  | .ldiv => jL1 st (fun b r => jL1 r (fun a r => jG (b ≠ 0) (pc + len) ls (.inr (.inl (lDiv a b)) :: r) m))
  | .lrem => jL1 st (fun b r => jL1 r (fun a r => jG (b ≠ 0) (pc + len) ls (.inr (.inl (lRem a b)) :: r) m))
  | .goto t => jN t.toNat ls st m
  | .ifCond c t => jI1 st (fun a r => jBr c a 0 t.toNat (pc + len) r)
  | .if_icmp c t => jI1 st (fun b r => jI1 r (fun a r => jBr c a b t.toNat (pc + len) r))
  | .lookupswitch d ps => jI1 st (fun a r => jW (ps.toList.map (fun q => (a = q.1, q.2.toNat)) ++ [(∀ q ∈ ps.toList, a ≠ q.1, d.toNat)]) r)
  | .tableswitch d lo hi os => jI1 st (fun a r => jIf (os.size = (hi + 1 - lo).toNat) (jW (os.toList.zipIdx.map (fun q => (a = lo + (q.2 : Int), q.1.toNat)) ++ [(a < lo ∨ hi < a, d.toNat)]) r))
  /- lcmp, and the branch behind it: the condition, the target -/
  | .multianewarray c t => jL1 st (fun b r => jL1 r (fun a r => jBr (jNc c) a b t (pc + len) r))
  | .getfield f => jO1 st (fun c a r => jGet (jMd z) f c a m (fun v => jN (pc + len) ls (v :: r) m) (fun g v => jG g (pc + len) ls (v :: r) m))
  | .putfield f => jV1 st (fun v r => jO1 r (fun c a r => jPut (jMd z) f c a v m (fun m => jN (pc + len) ls r m) (fun g m => jG g (pc + len) ls r m)))
  | .arraylength => jY1 st (fun _ n _ r => jN (pc + len) ls (.inl n :: r) m)
  | .iaload => jI1 st (fun i r => jY1 r (fun t n a r => jIf (t = 0 ∨ t = 4) (jG (0 ≤ i ∧ i < n) (pc + len) ls (.inl (m a i) :: r) m)))
  | .laload => jI1 st (fun i r => jY1 r (fun t n a r => jIf (t = 1) (jG (0 ≤ i ∧ i < n) (pc + len) ls (.inr (.inl (m a i)) :: r) m)))
  | .aaload => jI1 st (fun i r => jY1 r (fun t n a r => jIf (jMd z = 0 ∧ (t = 2 ∨ t = 3)) (jG (0 ≤ i ∧ i < n) (pc + len) ls (.inr (.inr (.inl (t + 4, m a i))) :: r) m)))
  | .iastore => jI1 st (fun v r => jI1 r (fun i r => jY1 r (fun t n a r => jIf (t = 0) (jG (0 ≤ i ∧ i < n) (pc + len) ls r (jUp m a i v)))))
  | .lastore => jL1 st (fun v r => jI1 r (fun i r => jY1 r (fun t n a r => jIf (t = 1) (jG (0 ≤ i ∧ i < n) (pc + len) ls r (jUp m a i v)))))
  | .aastore => jO1 st (fun c b r => jI1 r (fun i r => jY1 r (fun t n a r => jIf (jMd z ≠ 2 ∧ (t = 2 ∨ t = 3) ∧ c = t + 4) (jG (0 ≤ i ∧ i < n) (pc + len) ls r (jUp m a i b)))))
  | .new c => jIf (jMd z = 1) (jG (m (-3) 0 < m (-2) (-7) ∧ jKd (m (-3) 0) = c) (pc + len) ls (.inr (.inr (.inl (c, m (-3) 0))) :: st) (jNw m))
  | .newarray .int => jI1 st (fun n r => jIf (jMd z = 1) (jG (m (-3) 0 < m (-2) (-7) ∧ jKd (m (-3) 0) = 20 ∧ jLn (m (-3) 0) = n) (pc + len) ls (.inr (.inr (.inr (0, n, m (-3) 0))) :: r) (jNw m)))
  | .newarray .long => jI1 st (fun n r => jIf (jMd z = 1) (jG (m (-3) 0 < m (-2) (-7) ∧ jKd (m (-3) 0) = 21 ∧ jLn (m (-3) 0) = n) (pc + len) ls (.inr (.inr (.inr (1, n, m (-3) 0))) :: r) (jNw m)))
  | .anewarray t => jI1 st (fun n r => jIf (jMd z = 1 ∧ (t = 2 ∨ t = 3)) (jG (m (-3) 0 < m (-2) (-7) ∧ jKd (m (-3) 0) = 20 + t ∧ jLn (m (-3) 0) = n) (pc + len) ls (.inr (.inr (.inr (t, n, m (-3) 0))) :: r) (jNw m)))
  /- System.arraycopy -/
  | .swap => jI1 st (fun n r => jI1 r (fun dp r => jY1 r (fun t1 n1 a1 r => jI1 r (fun sp r => jY1 r (fun t0 n0 a0 r => jIf (t0 = t1 ∧ (t1 = 0 ∨ t1 = 1) ∧ jCats r ≤ 8) (jG (0 ≤ sp ∧ 0 ≤ dp ∧ 0 ≤ n ∧ sp + n ≤ n0 ∧ dp + n ≤ n1) (pc + len) ls r (jCp m a0 sp a1 dp n)))))))
  | .invokestatic y => jIf (jNa y ≤ st.length ∧ jCats (st.drop (jNa y)) ≤ 8 ∧ (jLay (st.take (jNa y)).reverse).length ≤ jMx y ∧ (jKi y = 0 ∨ jHd (jCl y) (st.take (jNa y)).reverse = true) ∧ jNs (st.take (jNa y)) = true) (jC y (st.take (jNa y)).reverse (st.drop (jNa y)))
  | .ireturn => jI1 st (fun a r => jIf (r.isEmpty = true ∧ (jRt z = 1 ∨ jRt z = 3)) (jR a))
  | .lreturn => jL1 st (fun a r => jIf (r.isEmpty = true ∧ jRt z = 2) (jR a))
  | .return_ => jIf (st.isEmpty = true ∧ jRt z = 0) (jR 0)
  | _ => none
/-- a call, by the modes of caller and callee -/
def jCal (z y : Nat) (C : Nat → List jV → jM → (Int → jM → Prop) → Prop) (args : List jV) (m : jM) (K : Int → jM → Prop) : Prop := match jMd z, jMd y with
  | 0, 0 => C y args m K
  | 0, 2 => C y args m K
  | 1, 2 => C y args m K
  | 1, 0 => jFull m ∧ C y args m (fun v m' => jFull m' → K v m')
  | 1, 1 => m (-3) 0 + (jMc y : Int) ≤ m (-2) (-7) ∧ C y args (jLim m y) (fun v m' => K v (jUp m' (-2) (-7) (m (-2) (-7))))
  | _, _ => False
def jRet (z : Nat) (v : Int) (m : jM) (Q : Int → jM → Prop) : Prop := match jMd z with
  | 1 => m (-3) 0 = m (-2) (-7) ∧ Q v m
  | _ => if jRt z = 3 then (if v = 0 ∨ v = 1 then Q v m else False) else Q v m
def jStp (z : Nat) (C : Nat → List jV → jM → (Int → jM → Prop) → Prop) (X : Nat → jS → List jV → jM → Prop) (Q : Int → jM → Prop) (pc len : Nat) (ls : jS) (m : jM) (e : Option jE) : Prop := match e with
  | none => False
  | some (.inl (p, l, s, m')) => X p l s m'
  | some (.inr (.inl (c, p, l, s, m'))) => c ∧ X p l s m'
  | some (.inr (.inr (.inl (c, p1, p2, s)))) => (c → X p1 ls s m) ∧ (¬ c → X p2 ls s m)
  | some (.inr (.inr (.inr (.inl (l, s))))) => l.foldr (fun q r => (q.1 → X q.2 ls s m) ∧ r) True
  | some (.inr (.inr (.inr (.inr (.inl (y, args, s)))))) => jCal z y C args m (fun v m' => X (pc + len) ls (jPush (jRt y) v s) m')
  | some (.inr (.inr (.inr (.inr (.inr v))))) => jRet z v m Q
def jLe (l0 l : jS) : Prop := l0.length = l.length ∧ ∀ (i : Nat) (v : jV), l0[i]? = some (some v) → l[i]? = some (some v)
def jAt (z : Nat) (C : Nat → List jV → jM → (Int → jM → Prop) → Prop) (X : Nat → jS → List jV → jM → Prop) (Q : Int → jM → Prop) (pc : Nat) (ls : jS) (st : List jV) (m : jM) : Prop := match jIns z pc with
  | none => False
  | some (ai, len) => jStp z C X Q pc len ls m (jEff z ai len pc ls st m)
/-- closed under steps, and under knowing more of the locals -/
def jClo (z : Nat) (C : Nat → List jV → jM → (Int → jM → Prop) → Prop) (Q : Int → jM → Prop) (P : Nat → jS → List jV → jM → Prop) : Prop :=
  (∀ pc ls st m, jAt z C P Q pc ls st m → P pc ls st m) ∧ ∀ pc l0 ls st m, jLe l0 ls → P pc l0 st m → P pc ls st m
/-- from here it ends, with Q, at most d calls deep: the least of what is closed -/
def jA : Nat → Nat → Nat → jS → List jV → jM → (Int → jM → Prop) → Prop
  | 0, z, pc, ls, st, m, Q => ∀ P : Nat → jS → List jV → jM → Prop, jClo z (fun _ _ _ _ => False) Q P → P pc ls st m
  | d + 1, z, pc, ls, st, m, Q => ∀ P : Nat → jS → List jV → jM → Prop, jClo z (fun y args m K => jA d y 0 (jEnt y args) [] m K) Q P → P pc ls st m
/-- the call ends, with Q -/
def jK (d z : Nat) (args : List jV) (m : jM) (Q : Int → jM → Prop) : Prop := jA d z 0 (jEnt z args) [] m Q
def jCa (d y : Nat) (args : List jV) (m : jM) (K : Int → jM → Prop) : Prop := match d with
  | 0 => False
  | d' + 1 => jK d' y args m K
def jMask : List Bool → jS → jS
  | [], l => l
  | _, [] => []
  | true :: b, v :: l => v :: jMask b l
  | false :: b, _ :: l => none :: jMask b l
/-- the code from an instruction on -/
def jGo (p : Nat) : List (Nat × Instr × Nat) → Option (List (Nat × Instr × Nat))
  | [] => none
  | q :: r => bif Nat.beq q.1 p then some (q :: r) else jGo p r
/-- a piece of a method, up to the cuts -/
def jWp (cs : List (Nat × List Bool)) (d z : Nat) (Q : Int → jM → Prop) : Nat → List (Nat × Instr × Nat) → Nat → jS → List jV → jM → Prop
  | 0, _, pc, ls, st, m => jA d z pc ls st m Q
  | n + 1, code, pc, ls, st, m => (match jGo pc code with
    | none => jA d z pc ls st m Q
    | some [] => jA d z pc ls st m Q
    | some ((pc, ai, len) :: r) => jStp z (jCa d) (fun pc ls st m => match cs.lookup pc with
      | some b => jA d z pc (jMask b ls) st m Q
      | none => jWp cs d z Q n r pc ls st m) Q pc len ls m (jEff z ai len pc ls st m))
end
section
/-! the abstract run: its laws, and that a piece (jWp) gives a run -/
theorem jCal_mono {z y : Nat} {C C' : Nat → List jV → jM → (Int → jM → Prop) → Prop} {args : List jV} {m : jM} {K K' : Int → jM → Prop} (hC : ∀ y a m K K', (∀ v m, K v m → K' v m) → C y a m K → C' y a m K') (hK : ∀ v m, K v m → K' v m) (h : jCal z y C args m K) : jCal z y C' args m K' := by
  unfold jCal at h ⊢
  split at h
  · exact hC _ _ _ _ _ hK h
  · exact hC _ _ _ _ _ hK h
  · exact hC _ _ _ _ _ hK h
  · exact ⟨h.1, hC _ _ _ _ _ (fun v m' g f => hK _ _ (g f)) h.2⟩
  · exact ⟨h.1, hC _ _ _ _ _ (fun v m' g => hK _ _ g) h.2⟩
  · exact h
theorem jRet_mono {z : Nat} {v : Int} {m : jM} {Q Q' : Int → jM → Prop} (hQ : ∀ v m, Q v m → Q' v m) (h : jRet z v m Q) : jRet z v m Q' := by
  unfold jRet at h ⊢
  split
  · rename_i e
    rw [e] at h
    exact ⟨h.1, hQ _ _ h.2⟩
  · rename_i e
    split at h
    · exact absurd ‹_› e
    · split
      · rename_i e3
        rw [if_pos e3] at h
        split
        · rename_i e4
          rw [if_pos e4] at h
          exact hQ _ _ h
        · rename_i e4
          rw [if_neg e4] at h
          exact h
      · rename_i e3
        rw [if_neg e3] at h
        exact hQ _ _ h
theorem jStp_mono {z : Nat} {C C' : Nat → List jV → jM → (Int → jM → Prop) → Prop} {X X' : Nat → jS → List jV → jM → Prop} {Q Q' : Int → jM → Prop} {pc len : Nat} {ls : jS} {m : jM} {e : Option jE}
    (hC : ∀ y a m K K', (∀ v m, K v m → K' v m) → C y a m K → C' y a m K') (hX : ∀ p l s m, X p l s m → X' p l s m) (hQ : ∀ v m, Q v m → Q' v m) (h : jStp z C X Q pc len ls m e) : jStp z C' X' Q' pc len ls m e := by
  match e, h with
  | some (.inl (p, l, s, m')), h => exact hX _ _ _ _ h
  | some (.inr (.inl (c, p, l, s, m'))), h => exact ⟨h.1, hX _ _ _ _ h.2⟩
  | some (.inr (.inr (.inl (c, p1, p2, s)))), h => exact ⟨fun g => hX _ _ _ _ (h.1 g), fun g => hX _ _ _ _ (h.2 g)⟩
  | some (.inr (.inr (.inr (.inl (l, s))))), h =>
    simp only [jStp] at h ⊢
    induction l with
    | nil => trivial
    | cons a l ih => exact ⟨fun g => hX _ _ _ _ (h.1 g), ih h.2⟩
  | some (.inr (.inr (.inr (.inr (.inl (y, args, s)))))), h => exact jCal_mono hC (fun v m' g => hX _ _ _ _ g) h
  | some (.inr (.inr (.inr (.inr (.inr v))))), h => exact jRet_mono hQ h
theorem jAt_mono {z : Nat} {C C' : Nat → List jV → jM → (Int → jM → Prop) → Prop} {X X' : Nat → jS → List jV → jM → Prop} {Q Q' : Int → jM → Prop} {pc : Nat} {ls : jS} {st : List jV} {m : jM}
    (hC : ∀ y a m K K', (∀ v m, K v m → K' v m) → C y a m K → C' y a m K') (hX : ∀ p l s m, X p l s m → X' p l s m) (hQ : ∀ v m, Q v m → Q' v m) (h : jAt z C X Q pc ls st m) : jAt z C' X' Q' pc ls st m := by
  unfold jAt at h ⊢
  cases hi : jIns z pc with
  | none => rw [hi] at h; exact h
  | some q =>
    obtain ⟨ai, len⟩ := q
    rw [hi] at h
    exact jStp_mono hC hX hQ h
theorem jA_eq (d z pc : Nat) (ls : jS) (st : List jV) (m : jM) (Q : Int → jM → Prop) : jA d z pc ls st m Q = ∀ P : Nat → jS → List jV → jM → Prop, jClo z (jCa d) Q P → P pc ls st m := by
  cases d with
  | zero => rfl
  | succ d => rfl
/-- steps, where the callees' ends may be widened -/
theorem jA_step' {d : Nat} (hm : ∀ y a m K K', (∀ v m, K v m → K' v m) → jCa d y a m K → jCa d y a m K') {z pc : Nat} {ls : jS} {st : List jV} {m : jM} {Q : Int → jM → Prop} (h : jAt z (jCa d) (fun pc ls st m => jA d z pc ls st m Q) Q pc ls st m) : jA d z pc ls st m Q := by
  rw [jA_eq]
  intro P hP
  refine hP.1 _ _ _ _ (jAt_mono hm (fun p l s m g => ?_) (fun _ _ g => g) h)
  rw [jA_eq] at g
  exact g P hP
theorem jA_weak {d z pc : Nat} {l0 ls : jS} {st : List jV} {m : jM} {Q : Int → jM → Prop} (hl : jLe l0 ls) (h : jA d z pc l0 st m Q) : jA d z pc ls st m Q := by
  rw [jA_eq] at h ⊢
  intro P hP
  exact hP.2 _ _ _ _ _ hl (h P hP)
theorem jA_mono' {d : Nat} (hm : ∀ y a m K K', (∀ v m, K v m → K' v m) → jCa d y a m K → jCa d y a m K') {z pc : Nat} {ls : jS} {st : List jV} {m : jM} {Q Q' : Int → jM → Prop} (hQ : ∀ v m, Q v m → Q' v m) (h : jA d z pc ls st m Q) : jA d z pc ls st m Q' := by
  rw [jA_eq] at h
  refine h (fun pc ls st m => jA d z pc ls st m Q') ⟨fun pc ls st m g => jA_step' hm (jAt_mono hm (fun _ _ _ _ g => g) hQ g), fun pc l0 ls st m hl g => jA_weak hl g⟩
theorem jCa_mono (d : Nat) : ∀ y a m K K', (∀ v m, K v m → K' v m) → jCa d y a m K → jCa d y a m K' := by
  induction d with
  | zero => intro y a m K K' _ h; exact h
  | succ d ih => intro y a m K K' hK h; exact jA_mono' ih hK h
theorem jA_mono {d z pc : Nat} {ls : jS} {st : List jV} {m : jM} {Q Q' : Int → jM → Prop} (hQ : ∀ v m, Q v m → Q' v m) (h : jA d z pc ls st m Q) : jA d z pc ls st m Q' := jA_mono' (jCa_mono d) hQ h
theorem jK_mono {d z : Nat} {args : List jV} {m : jM} {Q Q' : Int → jM → Prop} (hQ : ∀ v m, Q v m → Q' v m) (h : jK d z args m Q) : jK d z args m Q' := jA_mono hQ h
theorem jA_step {d z pc : Nat} {ls : jS} {st : List jV} {m : jM} {Q : Int → jM → Prop} (h : jAt z (jCa d) (fun pc ls st m => jA d z pc ls st m Q) Q pc ls st m) : jA d z pc ls st m Q := jA_step' (jCa_mono d) h
/-- more depth does no harm -/
theorem jA_deep (d : Nat) : ∀ {z pc : Nat} {ls : jS} {st : List jV} {m : jM} {Q : Int → jM → Prop}, jA d z pc ls st m Q → jA (d + 1) z pc ls st m Q := by
  induction d with
  | zero =>
    intro z pc ls st m Q h
    rw [jA_eq] at h
    refine h (fun pc ls st m => jA 1 z pc ls st m Q) ⟨fun pc ls st m g => jA_step (jAt_mono (fun y a m K K' _ f => absurd f id) (fun _ _ _ _ g => g) (fun _ _ g => g) g), fun pc l0 ls st m hl g => jA_weak hl g⟩
  | succ d ih =>
    intro z pc ls st m Q h
    rw [jA_eq] at h
    refine h (fun pc ls st m => jA (d + 2) z pc ls st m Q) ⟨fun pc ls st m g => jA_step (jAt_mono (fun y a m K K' hK f => jK_mono hK (ih f)) (fun _ _ _ _ g => g) (fun _ _ g => g) g), fun pc l0 ls st m hl g => jA_weak hl g⟩
theorem jK_deep {d e z : Nat} {args : List jV} {m : jM} {Q : Int → jM → Prop} (he : d ≤ e) (h : jK d z args m Q) : jK e z args m Q := by
  induction he with
  | refl => exact h
  | step _ ih => exact jA_deep _ ih
theorem jMask_le (b : List Bool) (l : jS) : jLe (jMask b l) l := by
  induction b generalizing l with
  | nil => exact ⟨by cases l <;> rfl, fun i v h => by cases l <;> exact h⟩
  | cons a b ih =>
    cases l with
    | nil => cases a <;> exact ⟨rfl, fun i v h => h⟩
    | cons x l =>
      obtain ⟨h1, h2⟩ := ih l
      cases a with
      | true =>
        refine ⟨by simp [jMask, h1], fun i v h => ?_⟩
        cases i with
        | zero => exact h
        | succ i => exact h2 i v h
      | false =>
        refine ⟨by simp [jMask, h1], fun i v h => ?_⟩
        cases i with
        | zero => simp [jMask] at h
        | succ i => exact h2 i v h
theorem jFor_eq {β : Type} (l : jS) : ∀ (k : jS → β), jFor l k = k l := by
  induction l with
  | nil => intro k; rfl
  | cons a l ih => intro k; exact ih _
theorem jForP_eq (l : jS) : ∀ (k : jS → Prop), jForP l k = k l := by
  induction l with
  | nil => intro k; rfl
  | cons a l ih => intro k; exact ih _
def jSorted : List (Nat × Instr × Nat) → Bool
  | [] => true
  | [_] => true
  | a :: b :: l => Nat.blt a.1 b.1 && jSorted (b :: l)
theorem jSorted_all : jCodes.all jSorted = true := by decide +kernel
theorem jSorted_code (i : Nat) : jSorted (jCode i) = true := by
  unfold jCode
  rw [List.getD_eq_getElem?_getD]
  cases h : jCodes[i]? with
  | none => rfl
  | some c => exact List.all_eq_true.mp jSorted_all c (List.mem_of_getElem? h)
theorem jSorted_lt {a : Nat × Instr × Nat} {l : List (Nat × Instr × Nat)} (h : jSorted (a :: l) = true) : jSorted l = true ∧ ∀ q ∈ l, a.1 < q.1 := by
  induction l generalizing a with
  | nil => exact ⟨rfl, fun q hq => by cases hq⟩
  | cons b l ih =>
    simp only [jSorted, Bool.and_eq_true] at h
    have hab : a.1 < b.1 := by
      have := h.1
      simp only [Nat.blt, Nat.ble_eq] at this
      omega
    refine ⟨h.2, fun q hq => ?_⟩
    rcases List.mem_cons.mp hq with rfl | hq
    · exact hab
    · exact Nat.lt_trans hab ((ih h.2).2 q hq)
theorem jLook {code : List (Nat × Instr × Nat)} (h : jSorted code = true) {q : Nat × Instr × Nat} (hq : q ∈ code) : code.lookup q.1 = some q.2 := by
  induction code with
  | nil => cases hq
  | cons a l ih =>
    obtain ⟨h1, h2⟩ := jSorted_lt h
    rcases List.mem_cons.mp hq with rfl | hq2
    · simp [List.lookup]
    · have hne : ¬ q.1 = a.1 := by have := h2 q hq2; omega
      obtain ⟨a1, a2⟩ := a
      rw [List.lookup_cons]
      rw [show (q.1 == a1) = false from by simpa using hne]
      exact ih h1 hq2
theorem jGo_some {p : Nat} {code : List (Nat × Instr × Nat)} {c : List (Nat × Instr × Nat)} (h : jGo p code = some c) : ∃ q r, c = q :: r ∧ q.1 = p ∧ (∀ x ∈ c, x ∈ code) := by
  induction code with
  | nil => simp [jGo] at h
  | cons a l ih =>
    simp only [jGo] at h
    cases hb : Nat.beq a.1 p with
    | true =>
      rw [hb] at h
      cases h
      exact ⟨a, l, rfl, Nat.eq_of_beq_eq_true hb, fun x hx => hx⟩
    | false =>
      rw [hb] at h
      obtain ⟨q, r, h1, h2, h3⟩ := ih h
      exact ⟨q, r, h1, h2, fun x hx => List.mem_cons_of_mem _ (h3 x hx)⟩
theorem jWp_snd' (cs : List (Nat × List Bool)) (d z : Nat) (Q : Int → jM → Prop) (n : Nat) : ∀ (code : List (Nat × Instr × Nat)) (pc : Nat) (ls : jS) (st : List jV) (m : jM), (∀ x ∈ code, x ∈ jCode (jIx z)) → jWp cs d z Q n code pc ls st m → jA d z pc ls st m Q := by
  induction n with
  | zero => intro code pc ls st m _ h; exact h
  | succ n ih =>
    intro code pc ls st m hc h
    simp only [jWp] at h
    cases hg : jGo pc code with
    | none => rw [hg] at h; exact h
    | some c =>
      obtain ⟨q, r, rfl, hq, hm⟩ := jGo_some hg
      obtain ⟨q1, ai, len⟩ := q
      rw [hg] at h
      dsimp only at hq h
      subst hq
      refine jA_step ?_
      have hi : jIns z q1 = some (ai, len) := jLook (jSorted_code _) (hc _ (hm _ List.mem_cons_self))
      unfold jAt
      rw [hi]
      refine jStp_mono (jCa_mono d) (fun p l s m' g => ?_) (fun _ _ g => g) h
      cases hl : cs.lookup p with
      | some b =>
        rw [hl] at g
        exact jA_weak (jMask_le b l) g
      | none =>
        rw [hl] at g
        exact ih r p l s m' (fun x hx => hc _ (hm _ (List.mem_cons_of_mem _ hx))) g
theorem jWp_snd (cs : List (Nat × List Bool)) (code : List (Nat × Instr × Nat)) (n : Nat) {d z pc : Nat} {ls : jS} {st : List jV} {m : jM} {Q : Int → jM → Prop} (hc : jCode (jIx z) = code) (h : jWp cs d z Q n code pc ls st m) : jA d z pc ls st m Q :=
  jWp_snd' cs d z Q n code pc ls st m (fun x hx => by rw [hc]; exact hx) h
theorem jWp_sn0 (cs : List (Nat × List Bool)) (code : List (Nat × Instr × Nat)) (n : Nat) {d z : Nat} {args : List jV} {m : jM} {Q : Int → jM → Prop} (hc : jCode (jIx z) = code) (h : jForP (jEnt z args) (fun ls => jWp cs d z Q n code 0 ls [] m)) : jK d z args m Q := by
  rw [jForP_eq] at h
  exact jWp_snd cs code n hc h
theorem jWp_c0 (b : List Bool) {d z : Nat} {args : List jV} {m : jM} {Q : Int → jM → Prop} (h : jA d z 0 (jMask b (jEnt z args)) [] m Q) : jK d z args m Q := jA_weak (jMask_le b _) h
end
section
/-! THE TIES, by program: bytes, names, the words of the tables by their places; each is decided below -/
def jRns : List String := [RX0, RX1, RX2, RX3, RX4, RX5, RX6, RX7, RX8, RX9, RX10, RX11, RL, RJ6, RJ9, RJ7]
def jRn (c : Nat) : String := jRns.getD c ""
def jVc : List vw_C := [(RX0, TX0, 7), (RX1, TX1, 5), (RX2, TX2, 7), (RX3, TX3, 7), (RX4, TX4, 10), (RX5, TX5, 6), (RX6, TX6, 5), (RX7, TX7, 3), (RX8, TX8, 9), (RX9, TX9, 7), (RX10, TX10, 17), (RX11, TX11, 80)]
def jTy (c : Nat) : Nat → FieldType := match c with
  | 0 => tyX0
  | 1 => tyX1
  | 2 => tyX2
  | 3 => tyX3
  | 4 => tyX4
  | 5 => tyX5
  | 6 => tyX6
  | 7 => tyX7
  | 8 => tyX8
  | 9 => tyX9
  | 10 => tyX10
  | _ => tyX11
def jFs : List (List Nat) := [[0, 16, 25770336288, 34360811568, 34361319488, 2149621840, 2150113376], [1, 4295516177, 34360795169, 4296548401, 34361843777], [2, 18, 34, 4295499826, 4296024130, 4296548434, 4297072738], [137439485955, 1649268514835, 1649269022755, 1649269547059, 4297596995, 4298137683, 51543285859], [4, 20, 4295499812, 52, 34360811588, 4296548436, 137441075300, 137441583220, 137442107524, 34363416724], [5, 206158979093, 549756887077, 4296564789, 4297089093, 4297597013], [6, 22, 21475368998, 21475893302, 21476417606], [7, 23, 21475385383], [32212787208, 24, 108584, 56, 72, 88, 104, 120, 136], [85899894793, 2148540441, 41, 57, 73, 89, 105], [530442, 12064794, 4138, 23730234, 26892362, 28383322, 32577642, 36739194, 39409802, 42522778, 46684330, 4344258746, 4298, 4314, 4330, 4346, 2197348618], [11, 8590467099, 25770860587, 34361335867, 34361843787, 2150113371, 2150637675, 8593612923, 51543810187, 51544334491, 51544858795, 51545383099, 51545907403, 51546431707, 51546956011, 32220127483, 267, 283, 299, 315, 331, 347, 4459, 379, 395, 12893299099, 12893823403, 12894347707, 12894872011, 12895396315, 12895920619, 12896444923, 2159550987, 539, 555, 571, 587, 603, 619, 635, 34372346507, 34372870811, 1236964237995, 1236964745915, 4309656267, 4310196955, 6995075819, 55850836731, 779, 1236967383835, 811, 4312294203, 4312818507, 64442868571, 64443392875, 64443917179, 64444441483, 64444982171, 1030813148075, 4316472251, 4316996555, 987, 1003, 1019, 1035, 64447063067, 34382816299, 4318569531, 5195, 8614061147, 25794454635, 34384929915, 34385437835, 2173707419, 2174231723, 8617206971, 360805049547, 2175804635, 2176328939, 85928731899]]
def jFf (c j : Nat) : Nat := (jFs.getD c []).getD j 0
def jNf (c : Nat) : Nat := (jFs.getD c []).length
def jYs : List MethodName := [yX0_init, yX0_take, yX0_seat, yX0_isIn, yX0_forcedBeside, yX0_marked, yX0_owned, yX0_namersOf, yX0_reachOf, yX0_weighRules, yX0_refusalOf, yX1_init, yX1_write, yX1_hear, yX2_init, yX2_find, yX2_grow, yX2_turn, yX2_spread, yX3_init, yX3_find, yX3_merge, yX3_headTotal, yX3_firstJudge, yX3_follow, yX3_placeOf, yX4_init, yX4_load, yX4_take, yX4_openBy, yX4_force, yX4_isOpen, yX4_openPairs, yX4_closeJudge, yX4_closeHeavier, yX4_heavierThan, yX4_weigh, yX4_listCases, yX4_canTake, yX4_weighFrom, yX4_leads, yX4_pick, yX4_share, yX4_shareFrom, yX4_follows, yX4_sumOf, yX4_sharedOf, yX5_init, yX5_make, yX5_firstPay, yX5_slack, yX5_findTight, yX5_leastSlack, yX5_keep, yX5_raise, yX6_init, yX6_clear, yX6_take, yX6_add, yX6_landHere, yX6_names, yX6_weightBy, yX7_init, yX7_become, yX7_holds, yX7_set, yX8_init, yX8_add, yX8_parse, yX8_expr, yX8_sum, yX8_product, yX8_factor, yX8_atom, yX8_function, yX8_part, yX8_enter, yX8_leave, yX8_step, yX8_word, yX8_nameOfOne, yX8_nameOfThree, yX8_digits, yX8_isLetter, yX8_isDigit, yX8_isSign, yX9_init, yX9_burdenOf, yX9_read, yX9_leaf, yX9_join, yX9_fail, yX10_init, yX10_here, yX10_trait, yX10_tell, yX10_burden, yX10_mark, yX10_open, yX10_feed, yX10_text, yX10_empty, yX10_told, yX10_value, yX10_why, yX10_solve, yX10_round, yX10_price, yX10_total, yX10_many, yX10_best, yX10_kind, yX10_room, yX10_next, yX10_fair, yX10_days, yX10_day, yX10_lack, yX10_without, yX10_tells, yX10_film, yX10_image, yX10_back, yX10_count, yX10_sheet, yX10_put, yX10_item, yX10_copy, yX10_lay, yX10_isSide, yX10_isSeat, yX10_isPair, yX10_isRule, yX10_isSheet, yX10_changed, yX10_refreshPlan, yX10_refreshShares, yX10_refreshNextOnes, yX10_refreshDiary, yX11_in, yX11_init, yX11_isWho, yX11_isPair, yX11_isJudge, yX11_isCase, yX11_here, yX11_trait, yX11_feed, yX11_byteAt, yX11_isLetter, yX11_isDigit, yX11_isThree, yX11_word, yX11_isSignByte, yX11_next, yX11_fail, yX11_isSign, yX11_takes, yX11_part, yX11_opens, yX11_expression, yX11_sum, yX11_product, yX11_factor, yX11_ofTwo, yX11_names, yX11_comesTo, yX11_weight, yX11_trades, yX11_isHeavy, yX11_text, yX11_empty, yX11_told, yX11_fails, yX11_valueOf, yX11_named, yX11_limited, yX11_valueOf_, yX11_asked, yX11_value, yX11_why, yX11_burdenOf, yX11_forcedOf, yX11_isOpen, yX11_tellsBurdens, yX11_opens_, yX11_costs, yX11_burden, yX11_mark, yX11_open, yX11_openMany, yX11_least, yX11_toldOr, yX11_picks, yX11_tell, yX11_total, yX11_many, yX11_best, yX11_with, yX11_lacking, yX11_kind, yX11_room, yX11_enters, yX11_walks, yX11_lists, yX11_next_, yX11_heaviest, yX11_fair, yX11_finds, yX11_greatest, yX11_marking, yX11_casesIn, yX11_slack, yX11_rise, yX11_begins, yX11_isLast, yX11_solve, yX11_round, yX11_price, yX11_daysOf, yX11_days, yX11_day, yX11_lack, yX11_without, yX11_casesMany, yX11_reads, yX11_tells, yX11_placeOf, yX11_film, yX11_copies, yX11_keeps, yX11_image, yX11_back, yX11_marksOf, yX11_count, yX11_isSheet, yX11_sheet, yX11_put, yX11_item, yX11_copy, yX11_lay, yJ6_bitCount_0f7a4, yJ9_floorDiv_f86c9, yJ9_floorMod_f86c9, yJ9_abs_067f4, yJ9_max_f86c9, yJ9_min_f86c9, yJ7_fill_d0a16, yJ7_fill_53178, yL_law]
def jBs : List ByteArray := [cX0_init, cX0_take, cX0_seat, cX0_isIn, cX0_forcedBeside, cX0_marked, cX0_owned, cX0_namersOf, cX0_reachOf, cX0_weighRules, cX0_refusalOf, cX1_init, cX1_write, cX1_hear, cX2_init, cX2_find, cX2_grow, cX2_turn, cX2_spread, cX3_init, cX3_find, cX3_merge, cX3_headTotal, cX3_firstJudge, cX3_follow, cX3_placeOf, cX4_init, cX4_load, cX4_take, cX4_openBy, cX4_force, cX4_isOpen, cX4_openPairs, cX4_closeJudge, cX4_closeHeavier, cX4_heavierThan, cX4_weigh, cX4_listCases, cX4_canTake, cX4_weighFrom, cX4_leads, cX4_pick, cX4_share, cX4_shareFrom, cX4_follows, cX4_sumOf, cX4_sharedOf, cX5_init, cX5_make, cX5_firstPay, cX5_slack, cX5_findTight, cX5_leastSlack, cX5_keep, cX5_raise, cX6_init, cX6_clear, cX6_take, cX6_add, cX6_landHere, cX6_names, cX6_weightBy, cX7_init, cX7_become, cX7_holds, cX7_set, cX8_init, cX8_add, cX8_parse, cX8_expr, cX8_sum, cX8_product, cX8_factor, cX8_atom, cX8_function, cX8_part, cX8_enter, cX8_leave, cX8_step, cX8_word, cX8_nameOfOne, cX8_nameOfThree, cX8_digits, cX8_isLetter, cX8_isDigit, cX8_isSign, cX9_init, cX9_burdenOf, cX9_read, cX9_leaf, cX9_join, cX9_fail, cX10_init, cX10_here, cX10_trait, cX10_tell, cX10_burden, cX10_mark, cX10_open, cX10_feed, cX10_text, cX10_empty, cX10_told, cX10_value, cX10_why, cX10_solve, cX10_round, cX10_price, cX10_total, cX10_many, cX10_best, cX10_kind, cX10_room, cX10_next, cX10_fair, cX10_days, cX10_day, cX10_lack, cX10_without, cX10_tells, cX10_film, cX10_image, cX10_back, cX10_count, cX10_sheet, cX10_put, cX10_item, cX10_copy, cX10_lay, cX10_isSide, cX10_isSeat, cX10_isPair, cX10_isRule, cX10_isSheet, cX10_changed, cX10_refreshPlan, cX10_refreshShares, cX10_refreshNextOnes, cX10_refreshDiary, cX11_in, cX11_init, cX11_isWho, cX11_isPair, cX11_isJudge, cX11_isCase, cX11_here, cX11_trait, cX11_feed, cX11_byteAt, cX11_isLetter, cX11_isDigit, cX11_isThree, cX11_word, cX11_isSignByte, cX11_next, cX11_fail, cX11_isSign, cX11_takes, cX11_part, cX11_opens, cX11_expression, cX11_sum, cX11_product, cX11_factor, cX11_ofTwo, cX11_names, cX11_comesTo, cX11_weight, cX11_trades, cX11_isHeavy, cX11_text, cX11_empty, cX11_told, cX11_fails, cX11_valueOf, cX11_named, cX11_limited, cX11_valueOf_, cX11_asked, cX11_value, cX11_why, cX11_burdenOf, cX11_forcedOf, cX11_isOpen, cX11_tellsBurdens, cX11_opens_, cX11_costs, cX11_burden, cX11_mark, cX11_open, cX11_openMany, cX11_least, cX11_toldOr, cX11_picks, cX11_tell, cX11_total, cX11_many, cX11_best, cX11_with, cX11_lacking, cX11_kind, cX11_room, cX11_enters, cX11_walks, cX11_lists, cX11_next_, cX11_heaviest, cX11_fair, cX11_finds, cX11_greatest, cX11_marking, cX11_casesIn, cX11_slack, cX11_rise, cX11_begins, cX11_isLast, cX11_solve, cX11_round, cX11_price, cX11_daysOf, cX11_days, cX11_day, cX11_lack, cX11_without, cX11_casesMany, cX11_reads, cX11_tells, cX11_placeOf, cX11_film, cX11_copies, cX11_keeps, cX11_image, cX11_back, cX11_marksOf, cX11_count, cX11_isSheet, cX11_sheet, cX11_put, cX11_item, cX11_copy, cX11_lay, cJ6_bitCount_0f7a4, cJ9_floorDiv_f86c9, cJ9_floorMod_f86c9, cJ9_abs_067f4, cJ9_max_f86c9, cJ9_min_f86c9, cJ7_fill_d0a16, cJ7_fill_53178, cL_law]
def jRs : List (Option FieldType) := [none, none, (some .int), (some .boolean), (some .boolean), (some .int), (some .int), (some .int), (some .int), none, (some .int), none, none, none, none, none, (some .boolean), none, none, none, none, (some .int), (some .long), (some .int), none, (some .int), none, none, none, none, none, (some .boolean), (some .int), none, none, (some .int), none, none, (some .boolean), none, (some .boolean), none, none, none, (some .boolean), (some .long), (some .int), none, none, (some .long), (some .long), (some .int), (some .long), none, none, none, none, none, none, none, (some .int), (some .int), none, none, (some .boolean), none, none, (some .boolean), (some .int), (some .boolean), (some .boolean), (some .boolean), (some .boolean), (some .boolean), (some .boolean), (some .boolean), (some .boolean), (some .boolean), none, none, none, none, none, (some .boolean), (some .boolean), (some .boolean), none, (some .long), (some .long), (some .long), (some .long), (some .long), none, (some .int), (some .int), (some .long), (some .long), (some .int), (some .int), (some .int), (some .int), (some .int), (some .int), (some .long), (some .int), (some .int), (some .long), (some .long), (some .long), (some .int), (some .int), (some .int), (some .long), (some .long), (some .long), (some .long), (some .int), (some .int), (some .long), (some .long), (some .int), (some .int), (some .int), (some .int), (some .int), (some .int), (some .long), (some .int), (some .int), (some .boolean), (some .boolean), (some .boolean), (some .boolean), (some .boolean), none, none, none, none, none, (some .boolean), none, (some .boolean), (some .boolean), (some .boolean), (some .boolean), (some .int), (some .int), (some .int), (some .int), (some .boolean), (some .boolean), (some .boolean), (some .int), (some .boolean), none, none, (some .boolean), none, (some .int), (some .boolean), (some .int), (some .int), (some .int), (some .int), (some .int), (some .int), (some .int), (some .int), none, (some .boolean), (some .int), (some .int), (some .int), (some .long), (some .long), (some .long), (some .long), (some .long), (some .long), (some .long), (some .int), (some .long), (some .int), (some .boolean), none, none, none, (some .long), (some .int), (some .int), (some .int), (some .long), (some .long), none, (some .long), (some .long), (some .int), (some .int), (some .long), (some .long), (some .int), (some .long), none, none, none, (some .long), (some .long), (some .long), (some .boolean), (some .int), (some .int), (some .int), (some .long), (some .long), none, (some .boolean), (some .int), (some .long), (some .long), (some .long), (some .long), (some .int), (some .int), (some .long), (some .int), (some .boolean), (some .long), (some .int), (some .int), none, none, (some .int), (some .int), (some .int), (some .int), (some .boolean), (some .int), (some .int), (some .long), (some .int), (some .int), (some .int), (some .long), (some .long), (some .long), (some .long), (some .long), none, none, (some .boolean)]
def jZs : List Nat := [zX0_init, zX0_take, zX0_seat, zX0_isIn, zX0_forcedBeside, zX0_marked, zX0_owned, zX0_namersOf, zX0_reachOf, zX0_weighRules, zX0_refusalOf, zX1_init, zX1_write, zX1_hear, zX2_init, zX2_find, zX2_grow, zX2_turn, zX2_spread, zX3_init, zX3_find, zX3_merge, zX3_headTotal, zX3_firstJudge, zX3_follow, zX3_placeOf, zX4_init, zX4_load, zX4_take, zX4_openBy, zX4_force, zX4_isOpen, zX4_openPairs, zX4_closeJudge, zX4_closeHeavier, zX4_heavierThan, zX4_weigh, zX4_listCases, zX4_canTake, zX4_weighFrom, zX4_leads, zX4_pick, zX4_share, zX4_shareFrom, zX4_follows, zX4_sumOf, zX4_sharedOf, zX5_init, zX5_make, zX5_firstPay, zX5_slack, zX5_findTight, zX5_leastSlack, zX5_keep, zX5_raise, zX6_init, zX6_clear, zX6_take, zX6_add, zX6_landHere, zX6_names, zX6_weightBy, zX7_init, zX7_become, zX7_holds, zX7_set, zX8_init, zX8_add, zX8_parse, zX8_expr, zX8_sum, zX8_product, zX8_factor, zX8_atom, zX8_function, zX8_part, zX8_enter, zX8_leave, zX8_step, zX8_word, zX8_nameOfOne, zX8_nameOfThree, zX8_digits, zX8_isLetter, zX8_isDigit, zX8_isSign, zX9_init, zX9_burdenOf, zX9_read, zX9_leaf, zX9_join, zX9_fail, zX10_init, zX10_here, zX10_trait, zX10_tell, zX10_burden, zX10_mark, zX10_open, zX10_feed, zX10_text, zX10_empty, zX10_told, zX10_value, zX10_why, zX10_solve, zX10_round, zX10_price, zX10_total, zX10_many, zX10_best, zX10_kind, zX10_room, zX10_next, zX10_fair, zX10_days, zX10_day, zX10_lack, zX10_without, zX10_tells, zX10_film, zX10_image, zX10_back, zX10_count, zX10_sheet, zX10_put, zX10_item, zX10_copy, zX10_lay, zX10_isSide, zX10_isSeat, zX10_isPair, zX10_isRule, zX10_isSheet, zX10_changed, zX10_refreshPlan, zX10_refreshShares, zX10_refreshNextOnes, zX10_refreshDiary, zX11_in, zX11_init, zX11_isWho, zX11_isPair, zX11_isJudge, zX11_isCase, zX11_here, zX11_trait, zX11_feed, zX11_byteAt, zX11_isLetter, zX11_isDigit, zX11_isThree, zX11_word, zX11_isSignByte, zX11_next, zX11_fail, zX11_isSign, zX11_takes, zX11_part, zX11_opens, zX11_expression, zX11_sum, zX11_product, zX11_factor, zX11_ofTwo, zX11_names, zX11_comesTo, zX11_weight, zX11_trades, zX11_isHeavy, zX11_text, zX11_empty, zX11_told, zX11_fails, zX11_valueOf, zX11_named, zX11_limited, zX11_valueOf_, zX11_asked, zX11_value, zX11_why, zX11_burdenOf, zX11_forcedOf, zX11_isOpen, zX11_tellsBurdens, zX11_opens_, zX11_costs, zX11_burden, zX11_mark, zX11_open, zX11_openMany, zX11_least, zX11_toldOr, zX11_picks, zX11_tell, zX11_total, zX11_many, zX11_best, zX11_with, zX11_lacking, zX11_kind, zX11_room, zX11_enters, zX11_walks, zX11_lists, zX11_next_, zX11_heaviest, zX11_fair, zX11_finds, zX11_greatest, zX11_marking, zX11_casesIn, zX11_slack, zX11_rise, zX11_begins, zX11_isLast, zX11_solve, zX11_round, zX11_price, zX11_daysOf, zX11_days, zX11_day, zX11_lack, zX11_without, zX11_casesMany, zX11_reads, zX11_tells, zX11_placeOf, zX11_film, zX11_copies, zX11_keeps, zX11_image, zX11_back, zX11_marksOf, zX11_count, zX11_isSheet, zX11_sheet, zX11_put, zX11_item, zX11_copy, zX11_lay, zJ6_bitCount_0f7a4, zJ9_floorDiv_f86c9, zJ9_floorMod_f86c9, zJ9_abs_067f4, zJ9_max_f86c9, zJ9_min_f86c9, zJ7_fill_d0a16, zJ7_fill_53178, zL_law]
def jYn (z : Nat) : MethodName := jYs.getD (jIx z) yL_law
def jBy (z : Nat) : ByteArray := jBs.getD (jIx z) code
def jRy (z : Nat) : Option FieldType := jRs.getD (jIx z) none
def jCfs : List (List (Nat × Nat × Nat)) := [[(9, 0, 161), (15, 16, 163), (18, 25770336288, 166), (22, 34360811568, 169), (26, 34361319488, 172), (31, 2149621840, 175), (35, 2150113376, 178)], [(9, 1, 417), (15, 4295516177, 419), (19, 34360795169, 421), (23, 4296548401, 423), (26, 34361843777, 424), (49, 137441075300, 290)], [(9, 2, 324), (15, 18, 327), (18, 34, 330), (21, 4295499826, 333), (25, 4296024130, 334), (28, 4296548434, 335), (31, 4297072738, 336)], [(9, 137439485955, 386), (15, 1649268514835, 388), (19, 1649269022755, 390), (22, 1649269547059, 391), (25, 4297596995, 392), (28, 4298137683, 393), (31, 51543285859, 394), (46, 20, 276), (50, 137441075300, 289), (55, 4295499812, 279), (80, 4296548436, 286), (83, 34360811588, 284)], [(9, 4, 272), (15, 20, 275), (18, 4295499812, 278), (22, 52, 281), (25, 34360811588, 282), (29, 4296548436, 285), (32, 137441075300, 288), (35, 137441583220, 292), (38, 137442107524, 294), (41, 34363416724, 295), (44, 16, 164), (59, 34361319488, 173), (115, 23, 446), (120, 21475385383, 448)], [(9, 5, 358), (15, 206158979093, 360), (19, 549756887077, 362), (22, 4296564789, 364), (25, 4297089093, 365), (28, 4297597013, 366), (48, 4, 273), (59, 18, 328), (62, 34, 331), (81, 34360811588, 283), (95, 2, 325)], [(9, 6, 136), (15, 22, 139), (18, 21475368998, 142), (22, 21475893302, 144), (25, 21476417606, 146)], [(9, 7, 443), (15, 23, 445), (18, 21475385383, 447)], [(9, 32212787208, 203), (15, 24, 204), (22, 108584, 206), (26, 56, 208), (29, 72, 209), (32, 88, 210), (35, 104, 211), (38, 120, 212), (41, 136, 213), (60, 22, 141), (87, 6, 137)], [(9, 85899894793, 239), (15, 2148540441, 240), (19, 41, 241), (23, 57, 243), (26, 73, 245), (29, 89, 247), (32, 105, 249), (35, 34360811568, 170), (54, 2149621840, 176), (58, 22, 140), (63, 21475368998, 143), (66, 21475893302, 145), (69, 21476417606, 147), (91, 25770336288, 168)], [(10, 530442, 457), (16, 12064794, 458), (19, 4138, 459), (26, 23730234, 460), (33, 26892362, 461), (40, 28383322, 462), (44, 32577642, 463), (50, 36739194, 464), (57, 39409802, 465), (64, 42522778, 466), (71, 46684330, 467), (75, 4344258746, 468), (79, 4298, 469), (82, 4314, 470), (85, 4330, 471), (88, 4346, 472), (93, 2197348618, 473), (112, 25770336288, 167), (125, 34360811568, 171), (132, 137441075300, 291), (144, 34361319488, 174), (153, 24, 205), (164, 2149621840, 177), (168, 108584, 207), (176, 6, 138), (187, 2150113376, 179), (203, 41, 242), (206, 57, 244), (209, 73, 246), (212, 89, 248), (215, 105, 250), (222, 5, 359), (225, 206158979093, 361), (228, 549756887077, 363), (231, 137441583220, 293), (241, 34363416724, 296), (248, 4296548436, 287), (258, 137439485955, 387), (261, 1649268514835, 389), (264, 51543285859, 395), (278, 1, 418), (280, 4295516177, 420), (281, 34360795169, 422), (282, 4, 274), (289, 20, 277), (292, 2, 326), (293, 18, 329), (296, 34, 332), (306, 7, 444), (332, 4295499812, 280), (345, 0, 162), (352, 16, 165), (362, 21475385383, 449)], [(13, 8590467099, 1090), (17, 25770860587, 1091), (20, 34361335867, 1092), (24, 34361843787, 1093), (27, 2150113371, 1094), (30, 2150637675, 1095), (33, 8593612923, 1096), (36, 51543810187, 1097), (39, 51544334491, 1098), (42, 51544858795, 1099), (45, 51545383099, 1100), (48, 51545907403, 1101), (51, 51546431707, 1102), (54, 51546956011, 1103), (57, 32220127483, 1104), (60, 12893299099, 1114), (63, 12893823403, 1115), (66, 12894347707, 1116), (69, 12894872011, 1117), (72, 12895396315, 1118), (75, 12895920619, 1119), (78, 12896444923, 1120), (81, 2159550987, 1121), (84, 34372346507, 1129), (87, 34372870811, 1130), (90, 1236964237995, 1131), (93, 1236964745915, 1132), (96, 4309656267, 1133), (99, 4310196955, 1134), (102, 6995075819, 1135), (105, 55850836731, 1136), (108, 1236967383835, 1138), (111, 4312294203, 1140), (114, 4312818507, 1141), (117, 64442868571, 1142), (120, 64443392875, 1143), (123, 64443917179, 1144), (126, 64444441483, 1145), (129, 64444982171, 1146), (132, 1030813148075, 1147), (135, 4316472251, 1148), (138, 4316996555, 1149), (141, 64447063067, 1154), (144, 34382816299, 1155), (147, 4318569531, 1156), (150, 8614061147, 1158), (153, 25794454635, 1159), (156, 34384929915, 1160), (159, 34385437835, 1161), (162, 2173707419, 1162), (165, 2174231723, 1163), (168, 8617206971, 1164), (171, 360805049547, 1165), (174, 2175804635, 1166), (177, 2176328939, 1167), (180, 85928731899, 1168), (203, 267, 1105), (214, 283, 1106), (217, 315, 1108), (236, 299, 1107), (239, 331, 1109), (256, 4459, 1111), (260, 379, 1112), (272, 395, 1113), (275, 347, 1110), (324, 539, 1122), (327, 555, 1123), (330, 571, 1124), (333, 587, 1125), (336, 603, 1126), (354, 619, 1127), (357, 635, 1128), (433, 779, 1137), (458, 987, 1150), (467, 1003, 1151), (470, 1019, 1152), (476, 811, 1139), (482, 1035, 1153), (533, 5195, 1157)], [], [], [], []]
def jCcs : List (List (Nat × Nat × Nat)) := [[(29, 6, 125)], [], [], [], [], [], [], [], [(19, 6, 201)], [], [(7, 0, 119), (23, 8, 195), (30, 9, 233), (37, 4, 266), (47, 2, 318), (54, 5, 352), (61, 3, 380), (68, 1, 411), (91, 7, 436)], [], [(7, 10, 111), (10, 11, 1083)], [], [], []]
def jCys : List (List (Nat × Nat × Nat)) := [[(29, 2, 125)], [], [], [], [], [], [], [], [], [], [(91, 3, 436)], [], [], [], [], []]
def jCks : List (List (Nat × Int × Nat)) := [[(38, (-1), 127)], [(52, (-4611686018427387904), 960)], [], [(53, (-4611686018427387904), 913)], [(57, (-4611686018427387904), 590), (123, 8, 995)], [(42, (-1), 802)], [], [], [], [(40, (-1), 557), (46, (-4611686018427387904), 562), (83, (-1000000000), 584), (85, 1000000000, 585)], [(119, (-1), 538), (121, 1000000000, 539), (123, (-2), 540), (135, (-4611686018427387904), 629), (309, (-11), 990), (315, (-3), 996)], [(183, (-1), 1089), (189, 7, 1340), (195, 2, 1345), (197, (-999), 1346), (199, 999, 1347), (201, 255, 1352), (206, 97, 1369), (208, 122, 1370), (210, 48, 1386), (212, 57, 1387), (228, 99, 1379), (230, 120, 1380), (232, 112, 1381), (234, 115, 1382), (311, 3, 1357), (322, 4, 1459), (346, (-1000000000), 1488), (348, 1000000000, 1489), (379, (-4611686018427387904), 1467), (409, 1125899906842624, 1556), (411, (-2), 1547), (444, 11, 1593), (497, 5, 1656), (499, 8, 1665), (515, (-11), 1690), (520, (-3), 1699)], [(23, 4294967295, 1755)], [], [], []]
def jCis : List (List (Nat × Int × Nat)) := [[], [], [], [], [], [], [], [], [], [], [], [], [], [(265, 1431655765, 617), (266, 858993459, 618), (267, 252645135, 619)], [], []]
def jCos : List (List (Nat × Nat × Nat)) := [[(3, 0, 124)], [(3, 0, 416)], [(3, 0, 323)], [(3, 0, 385)], [(3, 0, 271)], [(3, 0, 357)], [(3, 0, 135)], [(3, 0, 442)], [(3, 0, 200)], [(3, 0, 238)], [(1, 0, 116)], [(7, 0, 1088)], [], [], [], []]
def jCqs : List (List (Nat × Nat × Nat)) := [[(47, 0, 1030)], [(29, 0, 956)], [], [], [(66, 0, 898)], [(98, 0, 839)], [(28, 0, 1035)], [], [], [], [(365, 0, 1077)], [], [], [], [], []]
def jCms : List (List (Nat × Nat × Nat × Nat)) := [[(40, zJ7_fill_d0a16, 128, 0), (46, zX6_init, 132, 1), (53, zX6_take, 1031, 0), (57, zX6_names, 751, 0), (61, zJ7_fill_53178, 759, 0), (64, zX6_weightBy, 760, 0), (68, zX0_reachOf, 747, 0), (72, zX0_weighRules, 755, 0)], [(35, zX4_take, 957, 0), (41, zX4_openBy, 958, 0), (45, zX4_weigh, 959, 0), (54, zX1_hear, 961, 0), (58, zX4_pick, 965, 0)], [(34, zJ7_fill_53178, 818, 0), (40, zX2_grow, 819, 0), (44, zX2_spread, 827, 0), (47, zX2_turn, 823, 0)], [(34, zX4_canTake, 911, 0), (40, zJ6_bitCount_0f7a4, 912, 0), (58, zX3_merge, 914, 0), (62, zJ7_fill_53178, 918, 0), (68, zX3_follow, 927, 0), (72, zX3_headTotal, 919, 0), (76, zX3_firstJudge, 923, 0)], [(47, zX0_isIn, 549, 0), (51, zX9_burdenOf, 553, 0), (62, zX4_openBy, 591, 0), (72, zJ7_fill_53178, 595, 0), (78, zX4_force, 598, 0), (82, zJ6_bitCount_0f7a4, 614, 0), (88, zX4_isOpen, 939, 0), (92, zX4_listCases, 606, 0), (95, zX4_canTake, 610, 0), (98, zX4_weighFrom, 620, 0), (102, zJ9_max_f86c9, 624, 0), (108, zX4_leads, 870, 0), (112, zX4_shareFrom, 886, 0)], [(32, zJ7_fill_d0a16, 797, 0), (38, zX5_firstPay, 798, 0), (44, zX5_findTight, 805, 0), (53, zX2_find, 814, 0), (65, zX5_leastSlack, 831, 0), (69, zX5_keep, 835, 0), (73, zX5_raise, 842, 0), (77, zX4_isOpen, 803, 0), (84, zJ9_min_f86c9, 804, 0), (90, zJ7_fill_53178, 809, 0), (92, zX5_slack, 810, 0)], [], [(22, zJ7_fill_d0a16, 1017, 0)], [(21, zX6_init, 202, 1), (44, zX6_clear, 666, 0), (47, zX8_step, 670, 0), (50, zX8_expr, 699, 0), (54, zX8_sum, 703, 0), (57, zX8_part, 715, 0), (63, zX6_add, 723, 0), (67, zX6_landHere, 739, 0), (71, zX8_product, 707, 0), (74, zX8_factor, 711, 0), (77, zX8_atom, 719, 0), (80, zX8_enter, 727, 0), (83, zX8_leave, 731, 0), (90, zX8_function, 735, 0), (93, zX8_isLetter, 674, 0), (96, zX8_word, 677, 0), (99, zX8_isDigit, 689, 0), (102, zX8_digits, 692, 0), (105, zX8_isSign, 696, 0), (108, zX8_nameOfOne, 681, 0), (111, zX8_nameOfThree, 685, 0)], [(42, zX9_read, 558, 0), (48, zJ9_max_f86c9, 575, 0), (72, zX9_leaf, 563, 0), (75, zJ9_abs_067f4, 566, 0), (79, zX9_join, 569, 0), (87, zX9_fail, 586, 0), (94, zJ9_min_f86c9, 572, 0), (97, zJ9_floorDiv_f86c9, 578, 0), (100, zJ9_floorMod_f86c9, 581, 0)], [(9, zX0_init, 121, 0), (25, zX8_init, 197, 1), (32, zX9_init, 235, 1), (39, zX4_init, 268, 1), (49, zX2_init, 320, 1), (56, zX5_init, 354, 1), (63, zX3_init, 382, 1), (70, zX1_init, 413, 1), (97, zX7_init, 439, 1), (98, zX10_isSide, 513, 0), (102, zX10_isSeat, 516, 0), (105, zX10_changed, 519, 0), (108, zX0_seat, 523, 0), (115, zX10_isPair, 535, 0), (129, zX10_refreshPlan, 541, 0), (137, zX9_burdenOf, 630, 0), (141, zX0_forcedBeside, 635, 0), (147, zX4_isOpen, 643, 0), (150, zX8_add, 651, 0), (157, zX10_isRule, 659, 0), (160, zX8_parse, 662, 0), (172, zX0_refusalOf, 743, 0), (181, zX6_clear, 768, 0), (184, zX0_weighRules, 773, 0), (190, zX6_names, 774, 0), (193, zX0_namersOf, 775, 0), (196, zX0_reachOf, 779, 0), (199, zX9_read, 784, 0), (218, zX5_make, 793, 0), (234, zX4_pick, 866, 0), (238, zX10_refreshShares, 878, 0), (244, zX4_take, 894, 0), (251, zX4_weigh, 602, 0), (255, zX10_refreshNextOnes, 903, 0), (267, zX4_heavierThan, 935, 0), (271, zX4_closeHeavier, 940, 0), (275, zX10_refreshDiary, 948, 0), (285, zX2_find, 974, 0), (299, zX4_closeJudge, 979, 0), (303, zX10_isSheet, 987, 0), (311, zX4_follows, 991, 0), (317, zX4_sumOf, 997, 0), (321, zX3_placeOf, 1001, 0), (325, zX4_sharedOf, 1005, 0), (328, zX7_become, 1013, 0), (335, zX7_set, 1018, 0), (339, zX0_take, 1026, 0), (342, zX4_openPairs, 1036, 0), (347, zJ6_bitCount_0f7a4, 1048, 0), (353, zX0_marked, 1049, 0), (356, zX0_owned, 1053, 0), (359, zX7_holds, 1065, 0), (371, zJ9_abs_067f4, 1082, 0), (377, zX4_load, 545, 0), (381, zX4_share, 882, 0), (384, zX3_find, 907, 0), (386, zX1_write, 952, 0)], [(185, zX11_in, 1337, 0), (191, zX11_isWho, 1334, 0), (220, zX11_byteAt, 1362, 0), (224, zX11_isThree, 1375, 0), (242, zX11_isLetter, 1366, 0), (246, zX11_word, 1371, 0), (250, zX11_isDigit, 1383, 0), (253, zX11_isSignByte, 1388, 0), (263, zX11_isSign, 1419, 0), (266, zX11_fail, 1411, 0), (269, zX11_next, 1358, 0), (278, zX11_sum, 1395, 0), (281, zX11_part, 1407, 0), (285, zX11_takes, 1427, 0), (289, zX11_expression, 1391, 0), (292, zX11_product, 1399, 0), (295, zX11_factor, 1403, 0), (298, zX11_ofTwo, 1415, 0), (301, zX11_opens, 1423, 0), (305, zX11_names, 1439, 0), (308, zX11_weight, 1447, 0), (313, zX11_trades, 1431, 0), (316, zX11_comesTo, 1435, 0), (319, zX11_isHeavy, 1443, 0), (339, zX11_valueOf_, 1476, 0), (343, zX11_valueOf, 1472, 0), (350, zX11_fails, 1490, 0), (360, zX11_named, 1480, 0), (363, zX11_limited, 1484, 0), (367, zJ9_floorDiv_f86c9, 1494, 0), (373, zJ9_floorMod_f86c9, 1495, 0), (376, zX11_isPair, 1464, 0), (381, zX11_asked, 1468, 0), (384, zX11_isJudge, 1535, 0), (387, zX11_isCase, 1539, 0), (390, zX11_forcedOf, 1512, 0), (394, zX11_burdenOf, 1504, 0), (397, zX11_isOpen, 1531, 0), (401, zX11_tellsBurdens, 1523, 0), (404, zX11_opens_, 1527, 0), (407, zX11_costs, 1519, 0), (413, zX11_total, 1548, 0), (417, zX11_least, 1552, 0), (420, zX11_toldOr, 1557, 0), (424, zX11_picks, 1569, 0), (427, zX11_with, 1577, 0), (430, zX11_lacking, 1581, 0), (436, zX11_enters, 1602, 0), (440, zX11_walks, 1598, 0), (446, zX11_lists, 1594, 0), (449, zJ9_max_f86c9, 1614, 0), (452, zJ9_min_f86c9, 1615, 0), (455, zX11_heaviest, 1610, 0), (461, zX11_finds, 1644, 0), (464, zX11_greatest, 1640, 0), (473, zX11_slack, 1632, 0), (479, zX11_casesIn, 1624, 0), (485, zX11_marking, 1636, 0), (488, zX11_rise, 1648, 0), (491, zX11_begins, 1620, 0), (494, zX11_isLast, 1628, 0), (501, zX11_daysOf, 1666, 0), (504, zJ6_bitCount_0f7a4, 1678, 0), (509, zX11_casesMany, 1695, 0), (512, zX11_isSheet, 1687, 0), (517, zX11_reads, 1691, 0), (522, zX11_placeOf, 1700, 0), (525, zX11_copies, 1716, 0), (529, zX11_keeps, 1712, 0), (536, zX11_openMany, 1719, 0), (539, zX11_marksOf, 1731, 0)], [(9, zX10_init, 113, 0), (12, zX11_init, 1085, 0), (13, zX10_here, 509, 0), (17, zX11_here, 1330, 0), (18, zX10_trait, 527, 0), (22, zX11_trait, 1341, 0), (25, zX10_tell, 531, 0), (29, zX11_tell, 1543, 0), (30, zX10_burden, 625, 0), (34, zX11_burden, 1500, 0), (35, zX10_mark, 631, 0), (38, zX11_mark, 1508, 0), (39, zX10_open, 639, 0), (43, zX11_open, 1515, 0), (44, zX10_feed, 647, 0), (48, zX11_feed, 1348, 0), (49, zX10_text, 655, 0), (52, zX11_text, 1353, 0), (53, zX10_empty, 764, 0), (56, zX11_empty, 1451, 0), (57, zX10_told, 769, 0), (60, zX11_told, 1455, 0), (61, zX10_value, 780, 0), (65, zX11_value, 1460, 0), (66, zX10_why, 785, 0), (69, zX11_why, 1496, 0), (70, zX10_solve, 789, 0), (74, zX11_solve, 1616, 0), (75, zX10_round, 846, 0), (78, zX11_round, 1652, 0), (79, zX10_price, 850, 0), (82, zX11_price, 1657, 0), (83, zX10_total, 854, 0), (87, zX11_total, 1560, 0), (88, zX10_many, 858, 0), (91, zX11_many, 1561, 0), (92, zX10_best, 862, 0), (95, zX11_best, 1565, 0), (96, zX10_kind, 874, 0), (99, zX11_kind, 1573, 0), (100, zX10_room, 890, 0), (103, zX11_room, 1585, 0), (104, zX10_next, 899, 0), (107, zX11_next_, 1589, 0), (108, zX10_fair, 931, 0), (112, zX11_fair, 1606, 0), (113, zX10_days, 944, 0), (116, zX11_days, 1661, 0), (117, zX10_day, 966, 0), (120, zX11_day, 1670, 0), (121, zX10_lack, 970, 0), (124, zX11_lack, 1674, 0), (125, zX10_without, 975, 0), (128, zX11_without, 1679, 0), (129, zX10_tells, 983, 0), (132, zX11_tells, 1683, 0), (133, zX10_film, 1009, 0), (136, zX11_film, 1704, 0), (137, zX10_image, 1022, 0), (140, zX11_image, 1708, 0), (141, zX10_back, 1040, 0), (144, zX11_back, 1723, 0), (145, zX10_count, 1044, 0), (148, zX11_count, 1727, 0), (149, zX10_sheet, 1057, 0), (152, zX11_sheet, 1735, 0), (153, zX10_put, 1061, 0), (157, zX11_put, 1739, 0), (158, zX10_item, 1069, 0), (161, zX11_item, 1743, 0), (162, zX10_copy, 1073, 0), (166, zX11_copy, 1747, 0), (167, zX10_lay, 1078, 0), (170, zX11_lay, 1751, 0)], [], [], []]
/-- the methods that are called: number; the places of: its code, static or instanceMethod, selects, initialized -/
def jMw : List (Nat × Nat × Nat × Nat × Nat) := [(zX0_init, 123, 122, 0, 96), (zX0_take, 1029, 1027, 1028, 96), (zX0_seat, 526, 524, 525, 96), (zX0_isIn, 552, 550, 551, 96), (zX0_forcedBeside, 638, 636, 637, 96), (zX0_marked, 1052, 1050, 1051, 96), (zX0_owned, 1056, 1054, 1055, 96), (zX0_namersOf, 778, 776, 777, 96), (zX0_reachOf, 750, 748, 749, 96), (zX0_weighRules, 758, 756, 757, 96), (zX0_refusalOf, 746, 744, 745, 96), (zX1_init, 415, 414, 0, 105), (zX1_write, 955, 953, 954, 105), (zX1_hear, 964, 963, 38, 105), (zX2_init, 322, 321, 0, 102), (zX2_find, 817, 815, 816, 102), (zX2_grow, 822, 821, 23, 102), (zX2_turn, 826, 825, 24, 102), (zX2_spread, 830, 829, 25, 102), (zX3_init, 384, 383, 0, 104), (zX3_find, 910, 908, 909, 104), (zX3_merge, 917, 916, 33, 104), (zX3_headTotal, 922, 921, 34, 104), (zX3_firstJudge, 926, 925, 35, 104), (zX3_follow, 930, 929, 36, 104), (zX3_placeOf, 1004, 1002, 1003, 104), (zX4_init, 270, 269, 0, 101), (zX4_load, 548, 546, 547, 101), (zX4_take, 897, 895, 896, 101), (zX4_openBy, 594, 592, 593, 101), (zX4_force, 601, 600, 3, 101), (zX4_isOpen, 646, 644, 645, 101), (zX4_openPairs, 1039, 1037, 1038, 101), (zX4_closeJudge, 982, 980, 981, 101), (zX4_closeHeavier, 943, 941, 942, 101), (zX4_heavierThan, 938, 936, 937, 101), (zX4_weigh, 605, 603, 604, 101), (zX4_listCases, 609, 608, 4, 101), (zX4_canTake, 613, 611, 612, 101), (zX4_weighFrom, 623, 622, 5, 101), (zX4_leads, 873, 872, 29, 101), (zX4_pick, 869, 867, 868, 101), (zX4_share, 885, 883, 884, 101), (zX4_shareFrom, 889, 888, 31, 101), (zX4_follows, 994, 992, 993, 101), (zX4_sumOf, 1000, 998, 999, 101), (zX4_sharedOf, 1008, 1006, 1007, 101), (zX5_init, 356, 355, 0, 103), (zX5_make, 796, 794, 795, 103), (zX5_firstPay, 801, 800, 20, 103), (zX5_slack, 813, 812, 22, 103), (zX5_findTight, 808, 807, 21, 103), (zX5_leastSlack, 834, 833, 26, 103), (zX5_keep, 838, 837, 27, 103), (zX5_raise, 845, 844, 28, 103), (zX6_init, 134, 133, 0, 98), (zX6_clear, 669, 667, 668, 98), (zX6_take, 1034, 1032, 1033, 98), (zX6_add, 726, 724, 725, 98), (zX6_landHere, 742, 740, 741, 98), (zX6_names, 754, 752, 753, 98), (zX6_weightBy, 763, 761, 762, 98), (zX7_init, 441, 440, 0, 106), (zX7_become, 1016, 1014, 1015, 106), (zX7_holds, 1068, 1066, 1067, 106), (zX7_set, 1021, 1019, 1020, 106), (zX8_init, 199, 198, 0, 99), (zX8_add, 654, 652, 653, 99), (zX8_parse, 665, 663, 664, 99), (zX8_expr, 702, 701, 11, 99), (zX8_sum, 706, 705, 12, 99), (zX8_product, 710, 709, 13, 99), (zX8_factor, 714, 713, 14, 99), (zX8_atom, 722, 721, 16, 99), (zX8_function, 738, 737, 19, 99), (zX8_part, 718, 717, 15, 99), (zX8_enter, 730, 729, 17, 99), (zX8_leave, 734, 733, 18, 99), (zX8_step, 673, 672, 6, 99), (zX8_word, 680, 679, 7, 99), (zX8_nameOfOne, 684, 683, 8, 99), (zX8_nameOfThree, 688, 687, 9, 99), (zX8_digits, 695, 694, 10, 99), (zX8_isLetter, 676, 675, 0, 99), (zX8_isDigit, 691, 690, 0, 99), (zX8_isSign, 698, 697, 0, 99), (zX9_init, 237, 236, 0, 100), (zX9_burdenOf, 556, 554, 555, 100), (zX9_read, 561, 559, 560, 100), (zX9_leaf, 565, 564, 0, 100), (zX9_join, 571, 570, 0, 100), (zX9_fail, 589, 588, 2, 100), (zX10_init, 115, 114, 0, 95), (zX10_here, 512, 510, 511, 95), (zX10_trait, 530, 528, 529, 95), (zX10_tell, 534, 532, 533, 95), (zX10_burden, 628, 626, 627, 95), (zX10_mark, 634, 632, 633, 95), (zX10_open, 642, 640, 641, 95), (zX10_feed, 650, 648, 649, 95), (zX10_text, 658, 656, 657, 95), (zX10_empty, 767, 765, 766, 95), (zX10_told, 772, 770, 771, 95), (zX10_value, 783, 781, 782, 95), (zX10_why, 788, 786, 787, 95), (zX10_solve, 792, 790, 791, 95), (zX10_round, 849, 847, 848, 95), (zX10_price, 853, 851, 852, 95), (zX10_total, 857, 855, 856, 95), (zX10_many, 861, 859, 860, 95), (zX10_best, 865, 863, 864, 95), (zX10_kind, 877, 875, 876, 95), (zX10_room, 893, 891, 892, 95), (zX10_next, 902, 900, 901, 95), (zX10_fair, 934, 932, 933, 95), (zX10_days, 947, 945, 946, 95), (zX10_day, 969, 967, 968, 95), (zX10_lack, 973, 971, 972, 95), (zX10_without, 978, 976, 977, 95), (zX10_tells, 986, 984, 985, 95), (zX10_film, 1012, 1010, 1011, 95), (zX10_image, 1025, 1023, 1024, 95), (zX10_back, 1043, 1041, 1042, 95), (zX10_count, 1047, 1045, 1046, 95), (zX10_sheet, 1060, 1058, 1059, 95), (zX10_put, 1064, 1062, 1063, 95), (zX10_item, 1072, 1070, 1071, 95), (zX10_copy, 1076, 1074, 1075, 95), (zX10_lay, 1081, 1079, 1080, 95), (zX10_isSide, 515, 514, 0, 95), (zX10_isSeat, 518, 517, 0, 95), (zX10_isPair, 537, 536, 0, 95), (zX10_isRule, 661, 660, 0, 95), (zX10_isSheet, 989, 988, 0, 95), (zX10_changed, 522, 521, 0, 95), (zX10_refreshPlan, 544, 543, 1, 95), (zX10_refreshShares, 881, 880, 30, 95), (zX10_refreshNextOnes, 906, 905, 32, 95), (zX10_refreshDiary, 951, 950, 37, 95), (zX11_in, 1339, 1338, 0, 107), (zX11_init, 1087, 1086, 0, 107), (zX11_isWho, 1336, 1335, 0, 107), (zX11_isPair, 1466, 1465, 0, 107), (zX11_isJudge, 1538, 1537, 69, 107), (zX11_isCase, 1542, 1541, 70, 107), (zX11_here, 1333, 1331, 1332, 107), (zX11_trait, 1344, 1342, 1343, 107), (zX11_feed, 1351, 1349, 1350, 107), (zX11_byteAt, 1365, 1364, 40, 107), (zX11_isLetter, 1368, 1367, 0, 107), (zX11_isDigit, 1385, 1384, 0, 107), (zX11_isThree, 1378, 1377, 42, 107), (zX11_word, 1374, 1373, 41, 107), (zX11_isSignByte, 1390, 1389, 0, 107), (zX11_next, 1361, 1360, 39, 107), (zX11_fail, 1414, 1413, 48, 107), (zX11_isSign, 1422, 1421, 50, 107), (zX11_takes, 1430, 1429, 52, 107), (zX11_part, 1410, 1409, 47, 107), (zX11_opens, 1426, 1425, 51, 107), (zX11_expression, 1394, 1393, 43, 107), (zX11_sum, 1398, 1397, 44, 107), (zX11_product, 1402, 1401, 45, 107), (zX11_factor, 1406, 1405, 46, 107), (zX11_ofTwo, 1418, 1417, 49, 107), (zX11_names, 1442, 1441, 55, 107), (zX11_comesTo, 1438, 1437, 54, 107), (zX11_weight, 1450, 1449, 57, 107), (zX11_trades, 1434, 1433, 53, 107), (zX11_isHeavy, 1446, 1445, 56, 107), (zX11_text, 1356, 1354, 1355, 107), (zX11_empty, 1454, 1452, 1453, 107), (zX11_told, 1458, 1456, 1457, 107), (zX11_fails, 1493, 1492, 63, 107), (zX11_valueOf, 1475, 1474, 59, 107), (zX11_named, 1483, 1482, 61, 107), (zX11_limited, 1487, 1486, 62, 107), (zX11_valueOf_, 1479, 1478, 60, 107), (zX11_asked, 1471, 1470, 58, 107), (zX11_value, 1463, 1461, 1462, 107), (zX11_why, 1499, 1497, 1498, 107), (zX11_burdenOf, 1507, 1506, 64, 107), (zX11_forcedOf, 1514, 1513, 0, 107), (zX11_isOpen, 1534, 1533, 68, 107), (zX11_tellsBurdens, 1526, 1525, 66, 107), (zX11_opens_, 1530, 1529, 67, 107), (zX11_costs, 1522, 1521, 65, 107), (zX11_burden, 1503, 1501, 1502, 107), (zX11_mark, 1511, 1509, 1510, 107), (zX11_open, 1518, 1516, 1517, 107), (zX11_openMany, 1722, 1721, 92, 107), (zX11_least, 1555, 1554, 71, 107), (zX11_toldOr, 1559, 1558, 0, 107), (zX11_picks, 1572, 1571, 72, 107), (zX11_tell, 1546, 1544, 1545, 107), (zX11_total, 1551, 1549, 1550, 107), (zX11_many, 1564, 1562, 1563, 107), (zX11_best, 1568, 1566, 1567, 107), (zX11_with, 1580, 1579, 73, 107), (zX11_lacking, 1584, 1583, 74, 107), (zX11_kind, 1576, 1574, 1575, 107), (zX11_room, 1588, 1586, 1587, 107), (zX11_enters, 1605, 1604, 77, 107), (zX11_walks, 1601, 1600, 76, 107), (zX11_lists, 1597, 1596, 75, 107), (zX11_next_, 1592, 1590, 1591, 107), (zX11_heaviest, 1613, 1612, 78, 107), (zX11_fair, 1609, 1607, 1608, 107), (zX11_finds, 1647, 1646, 85, 107), (zX11_greatest, 1643, 1642, 84, 107), (zX11_marking, 1639, 1638, 83, 107), (zX11_casesIn, 1627, 1626, 80, 107), (zX11_slack, 1635, 1634, 82, 107), (zX11_rise, 1651, 1650, 86, 107), (zX11_begins, 1623, 1622, 79, 107), (zX11_isLast, 1631, 1630, 81, 107), (zX11_solve, 1619, 1617, 1618, 107), (zX11_round, 1655, 1653, 1654, 107), (zX11_price, 1660, 1658, 1659, 107), (zX11_daysOf, 1669, 1668, 87, 107), (zX11_days, 1664, 1662, 1663, 107), (zX11_day, 1673, 1671, 1672, 107), (zX11_lack, 1677, 1675, 1676, 107), (zX11_without, 1682, 1680, 1681, 107), (zX11_casesMany, 1698, 1697, 89, 107), (zX11_reads, 1694, 1693, 88, 107), (zX11_tells, 1686, 1684, 1685, 107), (zX11_placeOf, 1703, 1702, 90, 107), (zX11_film, 1707, 1705, 1706, 107), (zX11_copies, 1718, 1717, 0, 107), (zX11_keeps, 1715, 1714, 91, 107), (zX11_image, 1711, 1709, 1710, 107), (zX11_back, 1726, 1724, 1725, 107), (zX11_marksOf, 1734, 1733, 93, 107), (zX11_count, 1730, 1728, 1729, 107), (zX11_isSheet, 1689, 1688, 0, 107), (zX11_sheet, 1738, 1736, 1737, 107), (zX11_put, 1742, 1740, 1741, 107), (zX11_item, 1746, 1744, 1745, 107), (zX11_copy, 1750, 1748, 1749, 107), (zX11_lay, 1754, 1752, 1753, 107), (zJ6_bitCount_0f7a4, 616, 615, 0, 109), (zJ9_floorDiv_f86c9, 580, 579, 0, 108), (zJ9_floorMod_f86c9, 583, 582, 0, 108), (zJ9_abs_067f4, 568, 567, 0, 108), (zJ9_max_f86c9, 577, 576, 0, 108), (zJ9_min_f86c9, 574, 573, 0, 108), (zJ7_fill_d0a16, 130, 129, 0, 97), (zJ7_fill_53178, 597, 596, 0, 97)]
def jNests : List Jvm.Cond := [(Jvm.Cond.methodLinkNest "CourtMatcher$Court" (46 : Nat) ({ cls := "CourtMatcher$Rule", name := "<init>", desc := "()V" } : Jvm.MethodName) "CourtMatcher"), (Jvm.Cond.methodLinkNest "CourtMatcher$Tape" (21 : Nat) ({ cls := "CourtMatcher$Rule", name := "<init>", desc := "()V" } : Jvm.MethodName) "CourtMatcher"), (Jvm.Cond.methodLinkNest "CourtMatcher" (25 : Nat) ({ cls := "CourtMatcher$Tape", name := "<init>", desc := "()V" } : Jvm.MethodName) "CourtMatcher"), (Jvm.Cond.methodLinkNest "CourtMatcher" (32 : Nat) ({ cls := "CourtMatcher$Teller", name := "<init>", desc := "()V" } : Jvm.MethodName) "CourtMatcher"), (Jvm.Cond.methodLinkNest "CourtMatcher" (39 : Nat) ({ cls := "CourtMatcher$Plan", name := "<init>", desc := "()V" } : Jvm.MethodName) "CourtMatcher"), (Jvm.Cond.methodLinkNest "CourtMatcher" (49 : Nat) ({ cls := "CourtMatcher$Greatest", name := "<init>", desc := "()V" } : Jvm.MethodName) "CourtMatcher"), (Jvm.Cond.methodLinkNest "CourtMatcher" (56 : Nat) ({ cls := "CourtMatcher$Rounds", name := "<init>", desc := "()V" } : Jvm.MethodName) "CourtMatcher"), (Jvm.Cond.methodLinkNest "CourtMatcher" (63 : Nat) ({ cls := "CourtMatcher$NextOnes", name := "<init>", desc := "()V" } : Jvm.MethodName) "CourtMatcher"), (Jvm.Cond.methodLinkNest "CourtMatcher" (70 : Nat) ({ cls := "CourtMatcher$Diary", name := "<init>", desc := "()V" } : Jvm.MethodName) "CourtMatcher"), (Jvm.Cond.methodLinkNest "CourtMatcher" (97 : Nat) ({ cls := "CourtMatcher$Sheet", name := "<init>", desc := "()V" } : Jvm.MethodName) "CourtMatcher")]
def jNestP : List Nat := [132, 202, 197, 235, 268, 320, 354, 382, 413, 439]
def jInsP : List (Nat × Nat) := [(120, 96), (412, 105), (319, 102), (381, 104), (267, 101), (353, 103), (131, 98), (438, 106), (196, 99), (234, 100), (112, 95), (1084, 107)]
def jLayP : List (List Nat) := [[180, 182, 184, 186, 188, 190, 192], [425, 427, 429, 431, 433], [337, 339, 341, 343, 345, 347, 349], [396, 398, 400, 402, 404, 406, 408], [297, 299, 301, 303, 305, 307, 309, 311, 313, 315], [367, 369, 371, 373, 375, 377], [148, 150, 152, 154, 156], [450, 452, 454], [214, 216, 218, 220, 222, 224, 226, 228, 230], [251, 253, 255, 257, 259, 261, 263], [474, 476, 478, 480, 482, 484, 486, 488, 490, 492, 494, 496, 498, 500, 502, 504, 506], [1169, 1171, 1173, 1175, 1177, 1179, 1181, 1183, 1185, 1187, 1189, 1191, 1193, 1195, 1197, 1199, 1201, 1203, 1205, 1207, 1209, 1211, 1213, 1215, 1217, 1219, 1221, 1223, 1225, 1227, 1229, 1231, 1233, 1235, 1237, 1239, 1241, 1243, 1245, 1247, 1249, 1251, 1253, 1255, 1257, 1259, 1261, 1263, 1265, 1267, 1269, 1271, 1273, 1275, 1277, 1279, 1281, 1283, 1285, 1287, 1289, 1291, 1293, 1295, 1297, 1299, 1301, 1303, 1305, 1307, 1309, 1311, 1313, 1315, 1317, 1319, 1321, 1323, 1325, 1327]]
/-- a field's row in its class's table -/
def jTf (f : Nat) : String × String × String × Bool := (jVc.getD (jFc f) (RX0, TX0, 7)).2.1 (jFj f)
def jTo (pc : Nat) (off : Int) : Int := (pc : Int) + off
def jCn (c : Jvm.ClassFile.Cond) : Nat := match c with
  | .eq => 0
  | .ne => 1
  | .lt => 2
  | .ge => 3
  | .gt => 4
  | .le => 5
/-- what an instruction of the code is to the abstract machine -/
def jRes (own pc : Nat) (cc : ByteArray) (r : Instr) (n : Nat) : Option (Instr × Nat) := match r with
  | .iload_n k => some (.iload k.val, n)
  | .iload k => some (.iload k, n)
  | .lload_n k => some (.lload k.val, n)
  | .lload k => some (.lload k, n)
  | .aload_n k => some (.aload k.val, n)
  | .aload k => some (.aload k, n)
  | .istore_n k => some (.istore k.val, n)
  | .istore k => some (.istore k, n)
  | .lstore_n k => some (.lstore k.val, n)
  | .lstore k => some (.lstore k, n)
  | .astore_n k => some (.astore k.val, n)
  | .astore k => some (.astore k, n)
  | .iinc i v => some (.iinc i v, n)
  | .iconst v => if v.bmod 4294967296 = v then some (.iconst v, n) else none
  | .bipush v => if v.bmod 256 = v then some (.iconst v, n) else none
  | .sipush v => if v.bmod 65536 = v then some (.iconst v, n) else none
  | .lconst k => some (.sipush (k.val : Int), n)
  | .ldc2_w i => ((jCks.getD own []).lookup i).map (fun q => (.sipush q.1, n))
  | .ldc i => ((jCis.getD own []).lookup i).map (fun q => (.iconst q.1, n))
  | .ldc_w i => ((jCis.getD own []).lookup i).map (fun q => (.iconst q.1, n))
  | .goto off => if 0 ≤ jTo pc off then some (.goto (jTo pc off), n) else none
  | .ifCond c off => if 0 ≤ jTo pc off then some (.ifCond c (jTo pc off), n) else none
  | .if_icmp c off => if 0 ≤ jTo pc off then some (.if_icmp c (jTo pc off), n) else none
  | .tableswitch d lo hi os => if 0 ≤ jTo pc d ∧ os.toList.all (fun o => decide (0 ≤ jTo pc o)) = true then some (.tableswitch (jTo pc d) lo hi (os.map (jTo pc)), n) else none
  | .lookupswitch d ps => if (ps.toList.zip (ps.toList.drop 1)).all (fun (a, next) => a.1 < next.1) = true ∧ 0 ≤ jTo pc d ∧ ps.toList.all (fun q => decide (0 ≤ jTo pc q.2)) = true then some (.lookupswitch (jTo pc d) (ps.map (fun q => (q.1, jTo pc q.2))), n) else none
  | .lcmp => (match decode cc (pc + 1) with
    | .ok (.ifCond c off, 3) => if 0 ≤ jTo (pc + 1) off then some (.multianewarray (jCn c) (jTo (pc + 1) off).toNat, n + 3) else none
    | _ => none)
  | .getfield i => ((jCfs.getD own []).lookup i).map (fun q => (.getfield q.1, n))
  | .putfield i => ((jCfs.getD own []).lookup i).bind (fun q => if (jFg q.1 = 3 ∨ jFg q.1 = 4) → jFc q.1 = own then some (.putfield q.1, n) else none)
  | .new i => ((jCcs.getD own []).lookup i).map (fun q => (.new q.1, n))
  | .anewarray i => ((jCys.getD own []).lookup i).map (fun q => (.anewarray q.1, n))
  | .invokevirtual i => ((jCms.getD own []).lookup i).bind (fun q => if jKi q.1 = 1 ∧ q.2.2 = 0 then some (.invokestatic q.1, n) else none)
  | .invokestatic i => (match (jCqs.getD own []).lookup i with
    | some _ => some (.swap, n)
    | none => ((jCms.getD own []).lookup i).bind (fun q => if jKi q.1 = 0 ∧ q.2.2 = 0 then some (.invokestatic q.1, n) else none))
  | .invokespecial i => (match (jCos.getD own []).lookup i with
    | some _ => some (.pop, n)
    | none => ((jCms.getD own []).lookup i).bind (fun q => if jKi q.1 = 2 then some (.invokestatic q.1, n) else none))
  | .dup => some (.dup, n)
  | .dup2 => some (.dup2, n)
  | .pop2 => some (.pop2, n)
  | .iadd => some (.iadd, n)
  | .isub => some (.isub, n)
  | .imul => some (.imul, n)
  | .iand => some (.iand, n)
  | .ior => some (.ior, n)
  | .ixor => some (.ixor, n)
  | .ishl => some (.ishl, n)
  | .ishr => some (.ishr, n)
  | .iushr => some (.iushr, n)
  | .idiv => some (.idiv, n)
  | .irem => some (.irem, n)
  | .i2l => some (.i2l, n)
  | .l2i => some (.l2i, n)
  | .i2b => some (.i2b, n)
  | .lneg => some (.lneg, n)
  | .ladd => some (.ladd, n)
  | .lsub => some (.lsub, n)
  | .lmul => some (.lmul, n)
  | .land => some (.land, n)
  | .lor => some (.lor, n)
  | .lxor => some (.lxor, n)
  | .lshl => some (.lshl, n)
  | .ldiv => some (.ldiv, n)
  | .lrem => some (.lrem, n)
  | .arraylength => some (.arraylength, n)
  | .iaload => some (.iaload, n)
  | .laload => some (.laload, n)
  | .aaload => some (.aaload, n)
  | .iastore => some (.iastore, n)
  | .lastore => some (.lastore, n)
  | .aastore => some (.aastore, n)
  | .newarray ty => some (.newarray ty, n)
  | .ireturn => some (.ireturn, n)
  | .lreturn => some (.lreturn, n)
  | .return_ => some (.return_, n)
  | _ => none
/-- an instruction's length -/
def jLen (r : Instr) (n : Nat) : Bool := match r with
  | .tableswitch _ _ _ _ => true
  | .lookupswitch _ _ => true
  | .bipush _ => Nat.beq n 2
  | .iload _ => Nat.beq n 2
  | .lload _ => Nat.beq n 2
  | .aload _ => Nat.beq n 2
  | .istore _ => Nat.beq n 2
  | .lstore _ => Nat.beq n 2
  | .astore _ => Nat.beq n 2
  | .newarray _ => Nat.beq n 2
  | .ldc _ => Nat.beq n 2
  | .sipush _ => Nat.beq n 3
  | .ldc_w _ => Nat.beq n 3
  | .ldc2_w _ => Nat.beq n 3
  | .goto _ => Nat.beq n 3
  | .ifCond _ _ => Nat.beq n 3
  | .if_icmp _ _ => Nat.beq n 3
  | .getfield _ => Nat.beq n 3
  | .putfield _ => Nat.beq n 3
  | .new _ => Nat.beq n 3
  | .anewarray _ => Nat.beq n 3
  | .invokevirtual _ => Nat.beq n 3
  | .invokestatic _ => Nat.beq n 3
  | .invokespecial _ => Nat.beq n 3
  | .iinc _ _ => Nat.beq n 3
  | _ => Nat.beq n 1
def jIs (o : Option (Instr × Nat)) (ai : Instr) (n : Nat) : Bool := match o with
  | some (a, k) => decide (a = ai) && Nat.beq k n
  | none => false
def jChk (own : Nat) (cc : ByteArray) (l : List (Nat × Instr × Nat)) : Bool := l.all (fun q => match decode cc q.1 with
  | .ok (r, n) => jLen r n && jIs (jRes own q.1 cc r n) q.2.1 q.2.2
  | _ => false)
theorem jdX0_init : jChk 0 cX0_init jcX0_init = true := by decide +kernel
theorem jdX0_take : jChk 0 cX0_take jcX0_take = true := by decide +kernel
theorem jdX0_seat : jChk 0 cX0_seat jcX0_seat = true := by decide +kernel
theorem jdX0_isIn : jChk 0 cX0_isIn jcX0_isIn = true := by decide +kernel
theorem jdX0_forcedBeside : jChk 0 cX0_forcedBeside jcX0_forcedBeside = true := by decide +kernel
theorem jdX0_marked : jChk 0 cX0_marked jcX0_marked = true := by decide +kernel
theorem jdX0_owned : jChk 0 cX0_owned jcX0_owned = true := by decide +kernel
theorem jdX0_namersOf : jChk 0 cX0_namersOf jcX0_namersOf = true := by decide +kernel
theorem jdX0_reachOf : jChk 0 cX0_reachOf jcX0_reachOf = true := by decide +kernel
theorem jdX0_weighRules : jChk 0 cX0_weighRules jcX0_weighRules = true := by decide +kernel
theorem jdX0_refusalOf : jChk 0 cX0_refusalOf jcX0_refusalOf = true := by decide +kernel
theorem jdX1_init : jChk 1 cX1_init jcX1_init = true := by decide +kernel
theorem jdX1_write : jChk 1 cX1_write jcX1_write = true := by decide +kernel
theorem jdX1_hear : jChk 1 cX1_hear jcX1_hear = true := by decide +kernel
theorem jdX2_init : jChk 2 cX2_init jcX2_init = true := by decide +kernel
theorem jdX2_find : jChk 2 cX2_find jcX2_find = true := by decide +kernel
theorem jdX2_grow : jChk 2 cX2_grow jcX2_grow = true := by decide +kernel
theorem jdX2_turn : jChk 2 cX2_turn jcX2_turn = true := by decide +kernel
theorem jdX2_spread : jChk 2 cX2_spread jcX2_spread = true := by decide +kernel
theorem jdX3_init : jChk 3 cX3_init jcX3_init = true := by decide +kernel
theorem jdX3_find : jChk 3 cX3_find jcX3_find = true := by decide +kernel
theorem jdX3_merge : jChk 3 cX3_merge jcX3_merge = true := by decide +kernel
theorem jdX3_headTotal : jChk 3 cX3_headTotal jcX3_headTotal = true := by decide +kernel
theorem jdX3_firstJudge : jChk 3 cX3_firstJudge jcX3_firstJudge = true := by decide +kernel
theorem jdX3_follow : jChk 3 cX3_follow jcX3_follow = true := by decide +kernel
theorem jdX3_placeOf : jChk 3 cX3_placeOf jcX3_placeOf = true := by decide +kernel
theorem jdX4_init : jChk 4 cX4_init jcX4_init = true := by decide +kernel
theorem jdX4_load : jChk 4 cX4_load jcX4_load = true := by decide +kernel
theorem jdX4_take : jChk 4 cX4_take jcX4_take = true := by decide +kernel
theorem jdX4_openBy : jChk 4 cX4_openBy jcX4_openBy = true := by decide +kernel
theorem jdX4_force : jChk 4 cX4_force jcX4_force = true := by decide +kernel
theorem jdX4_isOpen : jChk 4 cX4_isOpen jcX4_isOpen = true := by decide +kernel
theorem jdX4_openPairs : jChk 4 cX4_openPairs jcX4_openPairs = true := by decide +kernel
theorem jdX4_closeJudge : jChk 4 cX4_closeJudge jcX4_closeJudge = true := by decide +kernel
theorem jdX4_closeHeavier : jChk 4 cX4_closeHeavier jcX4_closeHeavier = true := by decide +kernel
theorem jdX4_heavierThan : jChk 4 cX4_heavierThan jcX4_heavierThan = true := by decide +kernel
theorem jdX4_weigh : jChk 4 cX4_weigh jcX4_weigh = true := by decide +kernel
theorem jdX4_listCases : jChk 4 cX4_listCases jcX4_listCases = true := by decide +kernel
theorem jdX4_canTake : jChk 4 cX4_canTake jcX4_canTake = true := by decide +kernel
theorem jdX4_weighFrom : jChk 4 cX4_weighFrom jcX4_weighFrom = true := by decide +kernel
theorem jdX4_leads : jChk 4 cX4_leads jcX4_leads = true := by decide +kernel
theorem jdX4_pick : jChk 4 cX4_pick jcX4_pick = true := by decide +kernel
theorem jdX4_share : jChk 4 cX4_share jcX4_share = true := by decide +kernel
theorem jdX4_shareFrom : jChk 4 cX4_shareFrom jcX4_shareFrom = true := by decide +kernel
theorem jdX4_follows : jChk 4 cX4_follows jcX4_follows = true := by decide +kernel
theorem jdX4_sumOf : jChk 4 cX4_sumOf jcX4_sumOf = true := by decide +kernel
theorem jdX4_sharedOf : jChk 4 cX4_sharedOf jcX4_sharedOf = true := by decide +kernel
theorem jdX5_init : jChk 5 cX5_init jcX5_init = true := by decide +kernel
theorem jdX5_make : jChk 5 cX5_make jcX5_make = true := by decide +kernel
theorem jdX5_firstPay : jChk 5 cX5_firstPay jcX5_firstPay = true := by decide +kernel
theorem jdX5_slack : jChk 5 cX5_slack jcX5_slack = true := by decide +kernel
theorem jdX5_findTight : jChk 5 cX5_findTight jcX5_findTight = true := by decide +kernel
theorem jdX5_leastSlack : jChk 5 cX5_leastSlack jcX5_leastSlack = true := by decide +kernel
theorem jdX5_keep : jChk 5 cX5_keep jcX5_keep = true := by decide +kernel
theorem jdX5_raise : jChk 5 cX5_raise jcX5_raise = true := by decide +kernel
theorem jdX6_init : jChk 6 cX6_init jcX6_init = true := by decide +kernel
theorem jdX6_clear : jChk 6 cX6_clear jcX6_clear = true := by decide +kernel
theorem jdX6_take : jChk 6 cX6_take jcX6_take = true := by decide +kernel
theorem jdX6_add : jChk 6 cX6_add jcX6_add = true := by decide +kernel
theorem jdX6_landHere : jChk 6 cX6_landHere jcX6_landHere = true := by decide +kernel
theorem jdX6_names : jChk 6 cX6_names jcX6_names = true := by decide +kernel
theorem jdX6_weightBy : jChk 6 cX6_weightBy jcX6_weightBy = true := by decide +kernel
theorem jdX7_init : jChk 7 cX7_init jcX7_init = true := by decide +kernel
theorem jdX7_become : jChk 7 cX7_become jcX7_become = true := by decide +kernel
theorem jdX7_holds : jChk 7 cX7_holds jcX7_holds = true := by decide +kernel
theorem jdX7_set : jChk 7 cX7_set jcX7_set = true := by decide +kernel
theorem jdX8_init : jChk 8 cX8_init jcX8_init = true := by decide +kernel
theorem jdX8_add : jChk 8 cX8_add jcX8_add = true := by decide +kernel
theorem jdX8_parse : jChk 8 cX8_parse jcX8_parse = true := by decide +kernel
theorem jdX8_expr : jChk 8 cX8_expr jcX8_expr = true := by decide +kernel
theorem jdX8_sum : jChk 8 cX8_sum jcX8_sum = true := by decide +kernel
theorem jdX8_product : jChk 8 cX8_product jcX8_product = true := by decide +kernel
theorem jdX8_factor : jChk 8 cX8_factor jcX8_factor = true := by decide +kernel
theorem jdX8_atom : jChk 8 cX8_atom jcX8_atom = true := by decide +kernel
theorem jdX8_function : jChk 8 cX8_function jcX8_function = true := by decide +kernel
theorem jdX8_part : jChk 8 cX8_part jcX8_part = true := by decide +kernel
theorem jdX8_enter : jChk 8 cX8_enter jcX8_enter = true := by decide +kernel
theorem jdX8_leave : jChk 8 cX8_leave jcX8_leave = true := by decide +kernel
theorem jdX8_step : jChk 8 cX8_step jcX8_step = true := by decide +kernel
theorem jdX8_word : jChk 8 cX8_word jcX8_word = true := by decide +kernel
theorem jdX8_nameOfOne : jChk 8 cX8_nameOfOne jcX8_nameOfOne = true := by decide +kernel
theorem jdX8_nameOfThree : jChk 8 cX8_nameOfThree jcX8_nameOfThree = true := by decide +kernel
theorem jdX8_digits : jChk 8 cX8_digits jcX8_digits = true := by decide +kernel
theorem jdX8_isLetter : jChk 8 cX8_isLetter jcX8_isLetter = true := by decide +kernel
theorem jdX8_isDigit : jChk 8 cX8_isDigit jcX8_isDigit = true := by decide +kernel
theorem jdX8_isSign : jChk 8 cX8_isSign jcX8_isSign = true := by decide +kernel
theorem jdX9_init : jChk 9 cX9_init jcX9_init = true := by decide +kernel
theorem jdX9_burdenOf : jChk 9 cX9_burdenOf jcX9_burdenOf = true := by decide +kernel
theorem jdX9_read : jChk 9 cX9_read jcX9_read = true := by decide +kernel
theorem jdX9_leaf : jChk 9 cX9_leaf jcX9_leaf = true := by decide +kernel
theorem jdX9_join : jChk 9 cX9_join jcX9_join = true := by decide +kernel
theorem jdX9_fail : jChk 9 cX9_fail jcX9_fail = true := by decide +kernel
theorem jdX10_init : jChk 10 cX10_init jcX10_init = true := by decide +kernel
theorem jdX10_here : jChk 10 cX10_here jcX10_here = true := by decide +kernel
theorem jdX10_trait : jChk 10 cX10_trait jcX10_trait = true := by decide +kernel
theorem jdX10_tell : jChk 10 cX10_tell jcX10_tell = true := by decide +kernel
theorem jdX10_burden : jChk 10 cX10_burden jcX10_burden = true := by decide +kernel
theorem jdX10_mark : jChk 10 cX10_mark jcX10_mark = true := by decide +kernel
theorem jdX10_open : jChk 10 cX10_open jcX10_open = true := by decide +kernel
theorem jdX10_feed : jChk 10 cX10_feed jcX10_feed = true := by decide +kernel
theorem jdX10_text : jChk 10 cX10_text jcX10_text = true := by decide +kernel
theorem jdX10_empty : jChk 10 cX10_empty jcX10_empty = true := by decide +kernel
theorem jdX10_told : jChk 10 cX10_told jcX10_told = true := by decide +kernel
theorem jdX10_value : jChk 10 cX10_value jcX10_value = true := by decide +kernel
theorem jdX10_why : jChk 10 cX10_why jcX10_why = true := by decide +kernel
theorem jdX10_solve : jChk 10 cX10_solve jcX10_solve = true := by decide +kernel
theorem jdX10_round : jChk 10 cX10_round jcX10_round = true := by decide +kernel
theorem jdX10_price : jChk 10 cX10_price jcX10_price = true := by decide +kernel
theorem jdX10_total : jChk 10 cX10_total jcX10_total = true := by decide +kernel
theorem jdX10_many : jChk 10 cX10_many jcX10_many = true := by decide +kernel
theorem jdX10_best : jChk 10 cX10_best jcX10_best = true := by decide +kernel
theorem jdX10_kind : jChk 10 cX10_kind jcX10_kind = true := by decide +kernel
theorem jdX10_room : jChk 10 cX10_room jcX10_room = true := by decide +kernel
theorem jdX10_next : jChk 10 cX10_next jcX10_next = true := by decide +kernel
theorem jdX10_fair : jChk 10 cX10_fair jcX10_fair = true := by decide +kernel
theorem jdX10_days : jChk 10 cX10_days jcX10_days = true := by decide +kernel
theorem jdX10_day : jChk 10 cX10_day jcX10_day = true := by decide +kernel
theorem jdX10_lack : jChk 10 cX10_lack jcX10_lack = true := by decide +kernel
theorem jdX10_without : jChk 10 cX10_without jcX10_without = true := by decide +kernel
theorem jdX10_tells : jChk 10 cX10_tells jcX10_tells = true := by decide +kernel
theorem jdX10_film : jChk 10 cX10_film jcX10_film = true := by decide +kernel
theorem jdX10_image : jChk 10 cX10_image jcX10_image = true := by decide +kernel
theorem jdX10_back : jChk 10 cX10_back jcX10_back = true := by decide +kernel
theorem jdX10_count : jChk 10 cX10_count jcX10_count = true := by decide +kernel
theorem jdX10_sheet : jChk 10 cX10_sheet jcX10_sheet = true := by decide +kernel
theorem jdX10_put : jChk 10 cX10_put jcX10_put = true := by decide +kernel
theorem jdX10_item : jChk 10 cX10_item jcX10_item = true := by decide +kernel
theorem jdX10_copy : jChk 10 cX10_copy jcX10_copy = true := by decide +kernel
theorem jdX10_lay : jChk 10 cX10_lay jcX10_lay = true := by decide +kernel
theorem jdX10_isSide : jChk 10 cX10_isSide jcX10_isSide = true := by decide +kernel
theorem jdX10_isSeat : jChk 10 cX10_isSeat jcX10_isSeat = true := by decide +kernel
theorem jdX10_isPair : jChk 10 cX10_isPair jcX10_isPair = true := by decide +kernel
theorem jdX10_isRule : jChk 10 cX10_isRule jcX10_isRule = true := by decide +kernel
theorem jdX10_isSheet : jChk 10 cX10_isSheet jcX10_isSheet = true := by decide +kernel
theorem jdX10_changed : jChk 10 cX10_changed jcX10_changed = true := by decide +kernel
theorem jdX10_refreshPlan : jChk 10 cX10_refreshPlan jcX10_refreshPlan = true := by decide +kernel
theorem jdX10_refreshShares : jChk 10 cX10_refreshShares jcX10_refreshShares = true := by decide +kernel
theorem jdX10_refreshNextOnes : jChk 10 cX10_refreshNextOnes jcX10_refreshNextOnes = true := by decide +kernel
theorem jdX10_refreshDiary : jChk 10 cX10_refreshDiary jcX10_refreshDiary = true := by decide +kernel
theorem jdX11_in : jChk 11 cX11_in jcX11_in = true := by decide +kernel
theorem jdX11_init : jChk 11 cX11_init jcX11_init = true := by decide +kernel
theorem jdX11_isWho : jChk 11 cX11_isWho jcX11_isWho = true := by decide +kernel
theorem jdX11_isPair : jChk 11 cX11_isPair jcX11_isPair = true := by decide +kernel
theorem jdX11_isJudge : jChk 11 cX11_isJudge jcX11_isJudge = true := by decide +kernel
theorem jdX11_isCase : jChk 11 cX11_isCase jcX11_isCase = true := by decide +kernel
theorem jdX11_here : jChk 11 cX11_here jcX11_here = true := by decide +kernel
theorem jdX11_trait : jChk 11 cX11_trait jcX11_trait = true := by decide +kernel
theorem jdX11_feed : jChk 11 cX11_feed jcX11_feed = true := by decide +kernel
theorem jdX11_byteAt : jChk 11 cX11_byteAt jcX11_byteAt = true := by decide +kernel
theorem jdX11_isLetter : jChk 11 cX11_isLetter jcX11_isLetter = true := by decide +kernel
theorem jdX11_isDigit : jChk 11 cX11_isDigit jcX11_isDigit = true := by decide +kernel
theorem jdX11_isThree : jChk 11 cX11_isThree jcX11_isThree = true := by decide +kernel
theorem jdX11_word : jChk 11 cX11_word jcX11_word = true := by decide +kernel
theorem jdX11_isSignByte : jChk 11 cX11_isSignByte jcX11_isSignByte = true := by decide +kernel
theorem jdX11_next : jChk 11 cX11_next jcX11_next = true := by decide +kernel
theorem jdX11_fail : jChk 11 cX11_fail jcX11_fail = true := by decide +kernel
theorem jdX11_isSign : jChk 11 cX11_isSign jcX11_isSign = true := by decide +kernel
theorem jdX11_takes : jChk 11 cX11_takes jcX11_takes = true := by decide +kernel
theorem jdX11_part : jChk 11 cX11_part jcX11_part = true := by decide +kernel
theorem jdX11_opens : jChk 11 cX11_opens jcX11_opens = true := by decide +kernel
theorem jdX11_expression : jChk 11 cX11_expression jcX11_expression = true := by decide +kernel
theorem jdX11_sum : jChk 11 cX11_sum jcX11_sum = true := by decide +kernel
theorem jdX11_product : jChk 11 cX11_product jcX11_product = true := by decide +kernel
theorem jdX11_factor : jChk 11 cX11_factor jcX11_factor = true := by decide +kernel
theorem jdX11_ofTwo : jChk 11 cX11_ofTwo jcX11_ofTwo = true := by decide +kernel
theorem jdX11_names : jChk 11 cX11_names jcX11_names = true := by decide +kernel
theorem jdX11_comesTo : jChk 11 cX11_comesTo jcX11_comesTo = true := by decide +kernel
theorem jdX11_weight : jChk 11 cX11_weight jcX11_weight = true := by decide +kernel
theorem jdX11_trades : jChk 11 cX11_trades jcX11_trades = true := by decide +kernel
theorem jdX11_isHeavy : jChk 11 cX11_isHeavy jcX11_isHeavy = true := by decide +kernel
theorem jdX11_text : jChk 11 cX11_text jcX11_text = true := by decide +kernel
theorem jdX11_empty : jChk 11 cX11_empty jcX11_empty = true := by decide +kernel
theorem jdX11_told : jChk 11 cX11_told jcX11_told = true := by decide +kernel
theorem jdX11_fails : jChk 11 cX11_fails jcX11_fails = true := by decide +kernel
theorem jdX11_valueOf : jChk 11 cX11_valueOf jcX11_valueOf = true := by decide +kernel
theorem jdX11_named : jChk 11 cX11_named jcX11_named = true := by decide +kernel
theorem jdX11_limited : jChk 11 cX11_limited jcX11_limited = true := by decide +kernel
theorem jdX11_valueOf_ : jChk 11 cX11_valueOf_ jcX11_valueOf_ = true := by decide +kernel
theorem jdX11_asked : jChk 11 cX11_asked jcX11_asked = true := by decide +kernel
theorem jdX11_value : jChk 11 cX11_value jcX11_value = true := by decide +kernel
theorem jdX11_why : jChk 11 cX11_why jcX11_why = true := by decide +kernel
theorem jdX11_burdenOf : jChk 11 cX11_burdenOf jcX11_burdenOf = true := by decide +kernel
theorem jdX11_forcedOf : jChk 11 cX11_forcedOf jcX11_forcedOf = true := by decide +kernel
theorem jdX11_isOpen : jChk 11 cX11_isOpen jcX11_isOpen = true := by decide +kernel
theorem jdX11_tellsBurdens : jChk 11 cX11_tellsBurdens jcX11_tellsBurdens = true := by decide +kernel
theorem jdX11_opens_ : jChk 11 cX11_opens_ jcX11_opens_ = true := by decide +kernel
theorem jdX11_costs : jChk 11 cX11_costs jcX11_costs = true := by decide +kernel
theorem jdX11_burden : jChk 11 cX11_burden jcX11_burden = true := by decide +kernel
theorem jdX11_mark : jChk 11 cX11_mark jcX11_mark = true := by decide +kernel
theorem jdX11_open : jChk 11 cX11_open jcX11_open = true := by decide +kernel
theorem jdX11_openMany : jChk 11 cX11_openMany jcX11_openMany = true := by decide +kernel
theorem jdX11_least : jChk 11 cX11_least jcX11_least = true := by decide +kernel
theorem jdX11_toldOr : jChk 11 cX11_toldOr jcX11_toldOr = true := by decide +kernel
theorem jdX11_picks : jChk 11 cX11_picks jcX11_picks = true := by decide +kernel
theorem jdX11_tell : jChk 11 cX11_tell jcX11_tell = true := by decide +kernel
theorem jdX11_total : jChk 11 cX11_total jcX11_total = true := by decide +kernel
theorem jdX11_many : jChk 11 cX11_many jcX11_many = true := by decide +kernel
theorem jdX11_best : jChk 11 cX11_best jcX11_best = true := by decide +kernel
theorem jdX11_with : jChk 11 cX11_with jcX11_with = true := by decide +kernel
theorem jdX11_lacking : jChk 11 cX11_lacking jcX11_lacking = true := by decide +kernel
theorem jdX11_kind : jChk 11 cX11_kind jcX11_kind = true := by decide +kernel
theorem jdX11_room : jChk 11 cX11_room jcX11_room = true := by decide +kernel
theorem jdX11_enters : jChk 11 cX11_enters jcX11_enters = true := by decide +kernel
theorem jdX11_walks : jChk 11 cX11_walks jcX11_walks = true := by decide +kernel
theorem jdX11_lists : jChk 11 cX11_lists jcX11_lists = true := by decide +kernel
theorem jdX11_next_ : jChk 11 cX11_next_ jcX11_next_ = true := by decide +kernel
theorem jdX11_heaviest : jChk 11 cX11_heaviest jcX11_heaviest = true := by decide +kernel
theorem jdX11_fair : jChk 11 cX11_fair jcX11_fair = true := by decide +kernel
theorem jdX11_finds : jChk 11 cX11_finds jcX11_finds = true := by decide +kernel
theorem jdX11_greatest : jChk 11 cX11_greatest jcX11_greatest = true := by decide +kernel
theorem jdX11_marking : jChk 11 cX11_marking jcX11_marking = true := by decide +kernel
theorem jdX11_casesIn : jChk 11 cX11_casesIn jcX11_casesIn = true := by decide +kernel
theorem jdX11_slack : jChk 11 cX11_slack jcX11_slack = true := by decide +kernel
theorem jdX11_rise : jChk 11 cX11_rise jcX11_rise = true := by decide +kernel
theorem jdX11_begins : jChk 11 cX11_begins jcX11_begins = true := by decide +kernel
theorem jdX11_isLast : jChk 11 cX11_isLast jcX11_isLast = true := by decide +kernel
theorem jdX11_solve : jChk 11 cX11_solve jcX11_solve = true := by decide +kernel
theorem jdX11_round : jChk 11 cX11_round jcX11_round = true := by decide +kernel
theorem jdX11_price : jChk 11 cX11_price jcX11_price = true := by decide +kernel
theorem jdX11_daysOf : jChk 11 cX11_daysOf jcX11_daysOf = true := by decide +kernel
theorem jdX11_days : jChk 11 cX11_days jcX11_days = true := by decide +kernel
theorem jdX11_day : jChk 11 cX11_day jcX11_day = true := by decide +kernel
theorem jdX11_lack : jChk 11 cX11_lack jcX11_lack = true := by decide +kernel
theorem jdX11_without : jChk 11 cX11_without jcX11_without = true := by decide +kernel
theorem jdX11_casesMany : jChk 11 cX11_casesMany jcX11_casesMany = true := by decide +kernel
theorem jdX11_reads : jChk 11 cX11_reads jcX11_reads = true := by decide +kernel
theorem jdX11_tells : jChk 11 cX11_tells jcX11_tells = true := by decide +kernel
theorem jdX11_placeOf : jChk 11 cX11_placeOf jcX11_placeOf = true := by decide +kernel
theorem jdX11_film : jChk 11 cX11_film jcX11_film = true := by decide +kernel
theorem jdX11_copies : jChk 11 cX11_copies jcX11_copies = true := by decide +kernel
theorem jdX11_keeps : jChk 11 cX11_keeps jcX11_keeps = true := by decide +kernel
theorem jdX11_image : jChk 11 cX11_image jcX11_image = true := by decide +kernel
theorem jdX11_back : jChk 11 cX11_back jcX11_back = true := by decide +kernel
theorem jdX11_marksOf : jChk 11 cX11_marksOf jcX11_marksOf = true := by decide +kernel
theorem jdX11_count : jChk 11 cX11_count jcX11_count = true := by decide +kernel
theorem jdX11_isSheet : jChk 11 cX11_isSheet jcX11_isSheet = true := by decide +kernel
theorem jdX11_sheet : jChk 11 cX11_sheet jcX11_sheet = true := by decide +kernel
theorem jdX11_put : jChk 11 cX11_put jcX11_put = true := by decide +kernel
theorem jdX11_item : jChk 11 cX11_item jcX11_item = true := by decide +kernel
theorem jdX11_copy : jChk 11 cX11_copy jcX11_copy = true := by decide +kernel
theorem jdX11_lay : jChk 11 cX11_lay jcX11_lay = true := by decide +kernel
theorem jdJ6_bitCount_0f7a4 : jChk 13 cJ6_bitCount_0f7a4 jcJ6_bitCount_0f7a4 = true := by decide +kernel
theorem jdJ9_floorDiv_f86c9 : jChk 14 cJ9_floorDiv_f86c9 jcJ9_floorDiv_f86c9 = true := by decide +kernel
theorem jdJ9_floorMod_f86c9 : jChk 14 cJ9_floorMod_f86c9 jcJ9_floorMod_f86c9 = true := by decide +kernel
theorem jdJ9_abs_067f4 : jChk 14 cJ9_abs_067f4 jcJ9_abs_067f4 = true := by decide +kernel
theorem jdJ9_max_f86c9 : jChk 14 cJ9_max_f86c9 jcJ9_max_f86c9 = true := by decide +kernel
theorem jdJ9_min_f86c9 : jChk 14 cJ9_min_f86c9 jcJ9_min_f86c9 = true := by decide +kernel
theorem jdJ7_fill_d0a16 : jChk 15 cJ7_fill_d0a16 jcJ7_fill_d0a16 = true := by decide +kernel
theorem jdJ7_fill_53178 : jChk 15 cJ7_fill_53178 jcJ7_fill_53178 = true := by decide +kernel
def jBW : List Jvm.Cond := lw_tbl.filter goodWord
def jHas (p : Nat) (c : Jvm.Cond) : Bool := decide (lw_tbl[p]? = some c)
theorem jHas_mem {p : Nat} {c : Jvm.Cond} (h : jHas p c = true) : c ∈ lw_tbl := List.mem_of_getElem? (of_decide_eq_true h)
theorem jCf_all : (List.range 16).all (fun own => (jCfs.getD own []).all (fun q => jHas q.2.2 (.fieldLink (jRn own) q.1 (jTf q.2.1).1 (jTf q.2.1).2.1 (jTf q.2.1).2.2.1) && decide (jFc q.2.1 < 12 ∧ jFj q.2.1 < jNf (jFc q.2.1) ∧ jFf (jFc q.2.1) (jFj q.2.1) = q.2.1))) = true := by decide +kernel
theorem jCc_all : (List.range 16).all (fun own => (jCcs.getD own []).all (fun q => jHas q.2.2 (.classLink (jRn own) q.1 (jRn q.2.1)) && decide (q.2.1 < 12))) = true := by decide +kernel
theorem jCy_all : (List.range 16).all (fun own => (jCys.getD own []).all (fun q => jHas q.2.2 (.classLink (jRn own) q.1 (jRn (q.2.1 + 4))) && decide (q.2.1 = 2 ∨ q.2.1 = 3))) = true := by decide +kernel
theorem jCk_all : (List.range 16).all (fun own => (jCks.getD own []).all (fun q => jHas q.2.2 (.constantLong (jRn own) q.1 (Int64.ofInt q.2.1)) && decide ((Int64.ofInt q.2.1).toInt = q.2.1))) = true := by decide +kernel
theorem jCi_all : (List.range 16).all (fun own => (jCis.getD own []).all (fun q => jHas q.2.2 (.constant (jRn own) q.1 (Int32.ofInt q.2.1)) && decide ((Int32.ofInt q.2.1).toInt = q.2.1))) = true := by decide +kernel
theorem jCo_all : (List.range 16).all (fun own => (jCos.getD own []).all (fun q => jHas q.2.2 (.methodLink (jRn own) q.1 Jvm.Lib.objectInit))) = true := by decide +kernel
theorem jCq_all : (List.range 16).all (fun own => (jCqs.getD own []).all (fun q => jHas q.2.2 (.methodLink (jRn own) q.1 arraycopyName))) = true := by decide +kernel
theorem jCm_all : (List.range 16).all (fun own => (jCms.getD own []).all (fun q => decide (q.2.1 ∈ jZs) && decide (jMd q.2.1 = 1 → jKi q.2.1 = 2) && (if q.2.2.2 = 0 then jHas q.2.2.1 (.methodLink (jRn own) q.1 (jYn q.2.1)) else (jHas q.2.2.1 (.methodLinkNest (jRn own) q.1 (jYn q.2.1) "CourtMatcher") && decide (Jvm.Cond.methodLinkNest (jRn own) q.1 (jYn q.2.1) "CourtMatcher" ∈ jNests))))) = true := by decide +kernel
theorem jMw_a : jMw.all (fun q => (if jKi q.1 = 0 then jHas q.2.2.1 (.static (jYn q.1)) else jHas q.2.2.1 (.instanceMethod (jYn q.1)))) = true := by decide +kernel
theorem jMw_b : jMw.all (fun q => (if jKi q.1 = 1 then jHas q.2.2.2.1 (.selects (jRn (jCl q.1)) (jYn q.1) (jYn q.1)) else true) && jHas q.2.2.2.2 (.initialized (jYn q.1).cls)) = true := by decide +kernel
theorem jMw_c : jMw.all (fun q => decide ((jYn q.1).cls = jRn (jCl q.1)) && decide (jKi q.1 = 2 → (jYn q.1).name = "<init>")) = true := by decide +kernel
theorem jMw_d : jMw.all (fun q => decide (jRy q.1 = (match jRt q.1 with
    | 0 => none
    | 1 => some .int
    | 2 => some .long
    | _ => some .boolean)) && decide (jMd q.1 ≠ 1 → jMc q.1 = 0) && decide (jKi q.1 ≠ 0 → jCl q.1 < 12 ∧ 1 ≤ jNa q.1) && decide (jMx q.1 ≤ 40) && decide (jRt q.1 ≤ 3) && decide (jKi q.1 ≤ 2) && decide (jMd q.1 ≤ 2) && decide (jCl q.1 < 16)) = true := by decide +kernel
theorem jRn_plain : jRns.all (fun c => decide (c ≠ "java/lang/invoke/MethodHandle") && decide (c ≠ "java/lang/invoke/VarHandle")) = true := by decide +kernel
theorem jMw_p : jMw.all (fun q => plainFor (jYn q.1)) = true := by decide +kernel
theorem jMw_e0 : ((jMw.drop 0).take 25).all (fun q => decide ((parseMethodDescriptor (jYn q.1).desc).map (fun d => d.parameters.length) = some (if jKi q.1 = 0 then jNa q.1 else jNa q.1 - 1))) = true := by decide +kernel
theorem jMw_e1 : ((jMw.drop 25).take 25).all (fun q => decide ((parseMethodDescriptor (jYn q.1).desc).map (fun d => d.parameters.length) = some (if jKi q.1 = 0 then jNa q.1 else jNa q.1 - 1))) = true := by decide +kernel
theorem jMw_e2 : ((jMw.drop 50).take 25).all (fun q => decide ((parseMethodDescriptor (jYn q.1).desc).map (fun d => d.parameters.length) = some (if jKi q.1 = 0 then jNa q.1 else jNa q.1 - 1))) = true := by decide +kernel
theorem jMw_e3 : ((jMw.drop 75).take 25).all (fun q => decide ((parseMethodDescriptor (jYn q.1).desc).map (fun d => d.parameters.length) = some (if jKi q.1 = 0 then jNa q.1 else jNa q.1 - 1))) = true := by decide +kernel
theorem jMw_e4 : ((jMw.drop 100).take 25).all (fun q => decide ((parseMethodDescriptor (jYn q.1).desc).map (fun d => d.parameters.length) = some (if jKi q.1 = 0 then jNa q.1 else jNa q.1 - 1))) = true := by decide +kernel
theorem jMw_e5 : ((jMw.drop 125).take 25).all (fun q => decide ((parseMethodDescriptor (jYn q.1).desc).map (fun d => d.parameters.length) = some (if jKi q.1 = 0 then jNa q.1 else jNa q.1 - 1))) = true := by decide +kernel
theorem jMw_e6 : ((jMw.drop 150).take 25).all (fun q => decide ((parseMethodDescriptor (jYn q.1).desc).map (fun d => d.parameters.length) = some (if jKi q.1 = 0 then jNa q.1 else jNa q.1 - 1))) = true := by decide +kernel
theorem jMw_e7 : ((jMw.drop 175).take 25).all (fun q => decide ((parseMethodDescriptor (jYn q.1).desc).map (fun d => d.parameters.length) = some (if jKi q.1 = 0 then jNa q.1 else jNa q.1 - 1))) = true := by decide +kernel
theorem jMw_e8 : ((jMw.drop 200).take 25).all (fun q => decide ((parseMethodDescriptor (jYn q.1).desc).map (fun d => d.parameters.length) = some (if jKi q.1 = 0 then jNa q.1 else jNa q.1 - 1))) = true := by decide +kernel
theorem jMw_e9 : ((jMw.drop 225).take 25).all (fun q => decide ((parseMethodDescriptor (jYn q.1).desc).map (fun d => d.parameters.length) = some (if jKi q.1 = 0 then jNa q.1 else jNa q.1 - 1))) = true := by decide +kernel
theorem jMw_zs : jZs.all (fun z => decide (z = zL_law) || (jMw.map (fun q => q.1)).contains z) = true := by decide +kernel
theorem jNest_all : (jNests.zip jNestP).all (fun q => jHas q.2 q.1) = true ∧ jNests.length = jNestP.length := by decide +kernel
theorem jIns_all : (List.range 12).all (fun c => jHas (jInsP.getD c (0, 0)).1 (.instantiable (jRn c) (jNf c)) && jHas (jInsP.getD c (0, 0)).2 (.initialized (jRn c)) && decide (((jVc.getD c (RX0, TX0, 7)).1, (jVc.getD c (RX0, TX0, 7)).2.2) = (jRn c, jNf c))) = true := by decide +kernel
theorem jLay_all : (List.range 12).all (fun c => (List.range (jNf c)).all (fun j => jHas ((jLayP.getD c []).getD j 0) (u_lay (jRn c) (jVc.getD c (RX0, TX0, 7)).2.1 j))) = true := by decide +kernel
theorem jOdd_all : (jHas 117 (.instanceMethod Jvm.Lib.objectInit) && jHas 118 (.code Jvm.Lib.objectInit ⟨#[0xb1]⟩ 1 none) && jHas 841 (.native arraycopyName) && jHas 840 (.static arraycopyName) && jHas 110 (.initialized "java/lang/System") && jHas 159 (.arrayClass .int) && jHas 160 (.arrayClass .long) && jHas 126 (.arrayOver (.object RX6)) && jHas 437 (.arrayOver (.object RX7))) = true := by decide +kernel
def jTc (c : Nat) : u_T := (jVc.getD c (RX0, TX0, 7)).2.1
theorem jLayR : (List.range 161).all (fun k => if jKd k < 12 then (List.range (jNf (jKd k))).all (fun j => decide ((jFg (jFf (jKd k) j) = 3 → jKd ((k : Int) + jFo (jFf (jKd k) j)) = jFt (jFf (jKd k) j)) ∧ (jFg (jFf (jKd k) j) = 4 → jKd ((k : Int) + jFo (jFf (jKd k) j)) = 20 + jFt (jFf (jKd k) j) ∧ jLn ((k : Int) + jFo (jFf (jKd k) j)) = jFl (jFf (jKd k) j) ∧ jFt (jFf (jKd k) j) < 4))) else true) = true := by decide +kernel
theorem jFlds : (List.range 12).all (fun c => (List.range (jNf c)).all (fun j => decide (jFc (jFf c j) = c ∧ jFj (jFf c j) = j ∧ jFg (jFf c j) ≤ 5 ∧ (jFg (jFf c j) = 0 → jTy c j = .int ∧ (jTc c j).2.2.2 = false) ∧ (jFg (jFf c j) = 1 → jTy c j = .long ∧ (jTc c j).2.2.2 = false) ∧ (jFg (jFf c j) = 2 → jTy c j = .boolean ∧ (jTc c j).2.2.2 = false) ∧ (jFg (jFf c j) = 5 → (jTy c j).isReference = true ∧ (jTc c j).2.2.2 = false) ∧ (3 ≤ jFg (jFf c j) ∧ jFg (jFf c j) ≤ 4 → (jTy c j).isReference = true ∧ (jTc c j).2.2.2 = true ∧ (jTc c j).1 = jRn c)))) = true := by decide +kernel
theorem jKd_ln : (List.range 161).all (fun k => decide (0 ≤ jLn k ∧ jLn k ≤ 20000 ∧ (jKd k < 12 → (jLn k).toNat = jNf (jKd k)) ∧ (jKd k < 12 ∨ jKd k = 20 ∨ jKd k = 21 ∨ jKd k = 22 ∨ jKd k = 23))) = true := by decide +kernel
theorem jTy_ok (c : Nat) (hc : c < 12) : ∀ k, k < jNf c → parseFieldDescriptor (jTc c k).2.2.1 = some (jTy c k) := by
  match c, hc with
  | 0, _ => exact tyX0_ok
  | 1, _ => exact tyX1_ok
  | 2, _ => exact tyX2_ok
  | 3, _ => exact tyX3_ok
  | 4, _ => exact tyX4_ok
  | 5, _ => exact tyX5_ok
  | 6, _ => exact tyX6_ok
  | 7, _ => exact tyX7_ok
  | 8, _ => exact tyX8_ok
  | 9, _ => exact tyX9_ok
  | 10, _ => exact tyX10_ok
  | 11, _ => exact tyX11_ok
theorem jNm_ok (c : Nat) (hc : c < 12) : ∀ a, a < jNf c → ∀ b, b < jNf c → a ≠ b → (jTc c a).2.1 ≠ (jTc c b).2.1 := by
  match c, hc with
  | 0, _ => exact nmX0
  | 1, _ => exact nmX1
  | 2, _ => exact nmX2
  | 3, _ => exact nmX3
  | 4, _ => exact nmX4
  | 5, _ => exact nmX5
  | 6, _ => exact nmX6
  | 7, _ => exact nmX7
  | 8, _ => exact nmX8
  | 9, _ => exact nmX9
  | 10, _ => exact nmX10
  | 11, _ => exact nmX11
def jPc (z : Nat) : Prop := Jvm.Cond.code (jYn z) (jBy z) (jMx z) (jRy z) ∈ lw_tbl
theorem jSub_1 {c : Jvm.Cond} (h : c ∈ tables_1_1) : c ∈ lw_tbl := List.mem_append_right _ (List.mem_append_left _ h)
theorem jSub_2 {c : Jvm.Cond} (h : c ∈ tables_1_2) : c ∈ lw_tbl := List.mem_append_right _ (List.mem_append_right _ (List.mem_append_left _ h))
theorem jSub_3 {c : Jvm.Cond} (h : c ∈ tables_1_3) : c ∈ lw_tbl := List.mem_append_right _ (List.mem_append_right _ (List.mem_append_right _ (List.mem_append_left _ h)))
theorem jSub_4 {c : Jvm.Cond} (h : c ∈ tables_1_4) : c ∈ lw_tbl := List.mem_append_right _ (List.mem_append_right _ (List.mem_append_right _ (List.mem_append_right _ (List.mem_append_left _ h))))
theorem jSub_5 {c : Jvm.Cond} (h : c ∈ tables_1_5) : c ∈ lw_tbl := List.mem_append_right _ (List.mem_append_right _ (List.mem_append_right _ (List.mem_append_right _ (List.mem_append_right _ (List.mem_append_left _ h)))))
theorem jSub_6 {c : Jvm.Cond} (h : c ∈ tables_1_6) : c ∈ lw_tbl := List.mem_append_right _ (List.mem_append_right _ (List.mem_append_right _ (List.mem_append_right _ (List.mem_append_right _ (List.mem_append_right _ (List.mem_append_left _ h))))))
theorem jSub_7 {c : Jvm.Cond} (h : c ∈ tables_1_7) : c ∈ lw_tbl := List.mem_append_right _ (List.mem_append_right _ (List.mem_append_right _ (List.mem_append_right _ (List.mem_append_right _ (List.mem_append_right _ (List.mem_append_right _ h))))))
theorem jpX0_init : jPc zX0_init := jSub_1 (List.mem_of_getElem? (i := 29) rfl)
theorem jpX0_take : jPc zX0_take := jSub_4 (List.mem_of_getElem? (i := 215) rfl)
theorem jpX0_seat : jPc zX0_seat := jSub_2 (List.mem_of_getElem? (i := 192) rfl)
theorem jpX0_isIn : jPc zX0_isIn := jSub_2 (List.mem_of_getElem? (i := 218) rfl)
theorem jpX0_forcedBeside : jPc zX0_forcedBeside := jSub_3 (List.mem_of_getElem? (i := 64) rfl)
theorem jpX0_marked : jPc zX0_marked := jSub_4 (List.mem_of_getElem? (i := 238) rfl)
theorem jpX0_owned : jPc zX0_owned := jSub_5 (List.mem_of_getElem? (i := 2) rfl)
theorem jpX0_namersOf : jPc zX0_namersOf := jSub_3 (List.mem_of_getElem? (i := 204) rfl)
theorem jpX0_reachOf : jPc zX0_reachOf := jSub_3 (List.mem_of_getElem? (i := 176) rfl)
theorem jpX0_weighRules : jPc zX0_weighRules := jSub_3 (List.mem_of_getElem? (i := 184) rfl)
theorem jpX0_refusalOf : jPc zX0_refusalOf := jSub_3 (List.mem_of_getElem? (i := 172) rfl)
theorem jpX1_init : jPc zX1_init := jSub_2 (List.mem_of_getElem? (i := 81) rfl)
theorem jpX1_write : jPc zX1_write := jSub_4 (List.mem_of_getElem? (i := 141) rfl)
theorem jpX1_hear : jPc zX1_hear := jSub_4 (List.mem_of_getElem? (i := 150) rfl)
theorem jpX2_init : jPc zX2_init := jSub_1 (List.mem_of_getElem? (i := 228) rfl)
theorem jpX2_find : jPc zX2_find := jSub_4 (List.mem_of_getElem? (i := 3) rfl)
theorem jpX2_grow : jPc zX2_grow := jSub_4 (List.mem_of_getElem? (i := 8) rfl)
theorem jpX2_turn : jPc zX2_turn := jSub_4 (List.mem_of_getElem? (i := 12) rfl)
theorem jpX2_spread : jPc zX2_spread := jSub_4 (List.mem_of_getElem? (i := 16) rfl)
theorem jpX3_init : jPc zX3_init := jSub_2 (List.mem_of_getElem? (i := 50) rfl)
theorem jpX3_find : jPc zX3_find := jSub_4 (List.mem_of_getElem? (i := 96) rfl)
theorem jpX3_merge : jPc zX3_merge := jSub_4 (List.mem_of_getElem? (i := 103) rfl)
theorem jpX3_headTotal : jPc zX3_headTotal := jSub_4 (List.mem_of_getElem? (i := 108) rfl)
theorem jpX3_firstJudge : jPc zX3_firstJudge := jSub_4 (List.mem_of_getElem? (i := 112) rfl)
theorem jpX3_follow : jPc zX3_follow := jSub_4 (List.mem_of_getElem? (i := 116) rfl)
theorem jpX3_placeOf : jPc zX3_placeOf := jSub_4 (List.mem_of_getElem? (i := 190) rfl)
theorem jpX4_init : jPc zX4_init := jSub_1 (List.mem_of_getElem? (i := 176) rfl)
theorem jpX4_load : jPc zX4_load := jSub_2 (List.mem_of_getElem? (i := 214) rfl)
theorem jpX4_take : jPc zX4_take := jSub_4 (List.mem_of_getElem? (i := 83) rfl)
theorem jpX4_openBy : jPc zX4_openBy := jSub_3 (List.mem_of_getElem? (i := 20) rfl)
theorem jpX4_force : jPc zX4_force := jSub_3 (List.mem_of_getElem? (i := 27) rfl)
theorem jpX4_isOpen : jPc zX4_isOpen := jSub_3 (List.mem_of_getElem? (i := 72) rfl)
theorem jpX4_openPairs : jPc zX4_openPairs := jSub_4 (List.mem_of_getElem? (i := 225) rfl)
theorem jpX4_closeJudge : jPc zX4_closeJudge := jSub_4 (List.mem_of_getElem? (i := 168) rfl)
theorem jpX4_closeHeavier : jPc zX4_closeHeavier := jSub_4 (List.mem_of_getElem? (i := 129) rfl)
theorem jpX4_heavierThan : jPc zX4_heavierThan := jSub_4 (List.mem_of_getElem? (i := 124) rfl)
theorem jpX4_weigh : jPc zX4_weigh := jSub_3 (List.mem_of_getElem? (i := 31) rfl)
theorem jpX4_listCases : jPc zX4_listCases := jSub_3 (List.mem_of_getElem? (i := 35) rfl)
theorem jpX4_canTake : jPc zX4_canTake := jSub_3 (List.mem_of_getElem? (i := 39) rfl)
theorem jpX4_weighFrom : jPc zX4_weighFrom := jSub_3 (List.mem_of_getElem? (i := 49) rfl)
theorem jpX4_leads : jPc zX4_leads := jSub_4 (List.mem_of_getElem? (i := 59) rfl)
theorem jpX4_pick : jPc zX4_pick := jSub_4 (List.mem_of_getElem? (i := 55) rfl)
theorem jpX4_share : jPc zX4_share := jSub_4 (List.mem_of_getElem? (i := 71) rfl)
theorem jpX4_shareFrom : jPc zX4_shareFrom := jSub_4 (List.mem_of_getElem? (i := 75) rfl)
theorem jpX4_follows : jPc zX4_follows := jSub_4 (List.mem_of_getElem? (i := 180) rfl)
theorem jpX4_sumOf : jPc zX4_sumOf := jSub_4 (List.mem_of_getElem? (i := 186) rfl)
theorem jpX4_sharedOf : jPc zX4_sharedOf := jSub_4 (List.mem_of_getElem? (i := 194) rfl)
theorem jpX5_init : jPc zX5_init := jSub_2 (List.mem_of_getElem? (i := 22) rfl)
theorem jpX5_make : jPc zX5_make := jSub_3 (List.mem_of_getElem? (i := 222) rfl)
theorem jpX5_firstPay : jPc zX5_firstPay := jSub_3 (List.mem_of_getElem? (i := 227) rfl)
theorem jpX5_slack : jPc zX5_slack := jSub_3 (List.mem_of_getElem? (i := 239) rfl)
theorem jpX5_findTight : jPc zX5_findTight := jSub_3 (List.mem_of_getElem? (i := 234) rfl)
theorem jpX5_leastSlack : jPc zX5_leastSlack := jSub_4 (List.mem_of_getElem? (i := 20) rfl)
theorem jpX5_keep : jPc zX5_keep := jSub_4 (List.mem_of_getElem? (i := 24) rfl)
theorem jpX5_raise : jPc zX5_raise := jSub_4 (List.mem_of_getElem? (i := 31) rfl)
theorem jpX6_init : jPc zX6_init := jSub_1 (List.mem_of_getElem? (i := 40) rfl)
theorem jpX6_clear : jPc zX6_clear := jSub_3 (List.mem_of_getElem? (i := 95) rfl)
theorem jpX6_take : jPc zX6_take := jSub_4 (List.mem_of_getElem? (i := 220) rfl)
theorem jpX6_add : jPc zX6_add := jSub_3 (List.mem_of_getElem? (i := 152) rfl)
theorem jpX6_landHere : jPc zX6_landHere := jSub_3 (List.mem_of_getElem? (i := 168) rfl)
theorem jpX6_names : jPc zX6_names := jSub_3 (List.mem_of_getElem? (i := 180) rfl)
theorem jpX6_weightBy : jPc zX6_weightBy := jSub_3 (List.mem_of_getElem? (i := 189) rfl)
theorem jpX7_init : jPc zX7_init := jSub_2 (List.mem_of_getElem? (i := 107) rfl)
theorem jpX7_become : jPc zX7_become := jSub_4 (List.mem_of_getElem? (i := 202) rfl)
theorem jpX7_holds : jPc zX7_holds := jSub_5 (List.mem_of_getElem? (i := 14) rfl)
theorem jpX7_set : jPc zX7_set := jSub_4 (List.mem_of_getElem? (i := 207) rfl)
theorem jpX8_init : jPc zX8_init := jSub_1 (List.mem_of_getElem? (i := 105) rfl)
theorem jpX8_add : jPc zX8_add := jSub_3 (List.mem_of_getElem? (i := 80) rfl)
theorem jpX8_parse : jPc zX8_parse := jSub_3 (List.mem_of_getElem? (i := 91) rfl)
theorem jpX8_expr : jPc zX8_expr := jSub_3 (List.mem_of_getElem? (i := 128) rfl)
theorem jpX8_sum : jPc zX8_sum := jSub_3 (List.mem_of_getElem? (i := 132) rfl)
theorem jpX8_product : jPc zX8_product := jSub_3 (List.mem_of_getElem? (i := 136) rfl)
theorem jpX8_factor : jPc zX8_factor := jSub_3 (List.mem_of_getElem? (i := 140) rfl)
theorem jpX8_atom : jPc zX8_atom := jSub_3 (List.mem_of_getElem? (i := 148) rfl)
theorem jpX8_function : jPc zX8_function := jSub_3 (List.mem_of_getElem? (i := 164) rfl)
theorem jpX8_part : jPc zX8_part := jSub_3 (List.mem_of_getElem? (i := 144) rfl)
theorem jpX8_enter : jPc zX8_enter := jSub_3 (List.mem_of_getElem? (i := 156) rfl)
theorem jpX8_leave : jPc zX8_leave := jSub_3 (List.mem_of_getElem? (i := 160) rfl)
theorem jpX8_step : jPc zX8_step := jSub_3 (List.mem_of_getElem? (i := 99) rfl)
theorem jpX8_word : jPc zX8_word := jSub_3 (List.mem_of_getElem? (i := 106) rfl)
theorem jpX8_nameOfOne : jPc zX8_nameOfOne := jSub_3 (List.mem_of_getElem? (i := 110) rfl)
theorem jpX8_nameOfThree : jPc zX8_nameOfThree := jSub_3 (List.mem_of_getElem? (i := 114) rfl)
theorem jpX8_digits : jPc zX8_digits := jSub_3 (List.mem_of_getElem? (i := 121) rfl)
theorem jpX8_isLetter : jPc zX8_isLetter := jSub_3 (List.mem_of_getElem? (i := 102) rfl)
theorem jpX8_isDigit : jPc zX8_isDigit := jSub_3 (List.mem_of_getElem? (i := 117) rfl)
theorem jpX8_isSign : jPc zX8_isSign := jSub_3 (List.mem_of_getElem? (i := 124) rfl)
theorem jpX9_init : jPc zX9_init := jSub_1 (List.mem_of_getElem? (i := 143) rfl)
theorem jpX9_burdenOf : jPc zX9_burdenOf := jSub_2 (List.mem_of_getElem? (i := 222) rfl)
theorem jpX9_read : jPc zX9_read := jSub_2 (List.mem_of_getElem? (i := 227) rfl)
theorem jpX9_leaf : jPc zX9_leaf := jSub_2 (List.mem_of_getElem? (i := 231) rfl)
theorem jpX9_join : jPc zX9_join := jSub_2 (List.mem_of_getElem? (i := 237) rfl)
theorem jpX9_fail : jPc zX9_fail := jSub_3 (List.mem_of_getElem? (i := 15) rfl)
theorem jpX10_init : jPc zX10_init := jSub_1 (List.mem_of_getElem? (i := 21) rfl)
theorem jpX10_here : jPc zX10_here := jSub_2 (List.mem_of_getElem? (i := 178) rfl)
theorem jpX10_trait : jPc zX10_trait := jSub_2 (List.mem_of_getElem? (i := 196) rfl)
theorem jpX10_tell : jPc zX10_tell := jSub_2 (List.mem_of_getElem? (i := 200) rfl)
theorem jpX10_burden : jPc zX10_burden := jSub_3 (List.mem_of_getElem? (i := 54) rfl)
theorem jpX10_mark : jPc zX10_mark := jSub_3 (List.mem_of_getElem? (i := 60) rfl)
theorem jpX10_open : jPc zX10_open := jSub_3 (List.mem_of_getElem? (i := 68) rfl)
theorem jpX10_feed : jPc zX10_feed := jSub_3 (List.mem_of_getElem? (i := 76) rfl)
theorem jpX10_text : jPc zX10_text := jSub_3 (List.mem_of_getElem? (i := 84) rfl)
theorem jpX10_empty : jPc zX10_empty := jSub_3 (List.mem_of_getElem? (i := 193) rfl)
theorem jpX10_told : jPc zX10_told := jSub_3 (List.mem_of_getElem? (i := 198) rfl)
theorem jpX10_value : jPc zX10_value := jSub_3 (List.mem_of_getElem? (i := 209) rfl)
theorem jpX10_why : jPc zX10_why := jSub_3 (List.mem_of_getElem? (i := 214) rfl)
theorem jpX10_solve : jPc zX10_solve := jSub_3 (List.mem_of_getElem? (i := 218) rfl)
theorem jpX10_round : jPc zX10_round := jSub_4 (List.mem_of_getElem? (i := 35) rfl)
theorem jpX10_price : jPc zX10_price := jSub_4 (List.mem_of_getElem? (i := 39) rfl)
theorem jpX10_total : jPc zX10_total := jSub_4 (List.mem_of_getElem? (i := 43) rfl)
theorem jpX10_many : jPc zX10_many := jSub_4 (List.mem_of_getElem? (i := 47) rfl)
theorem jpX10_best : jPc zX10_best := jSub_4 (List.mem_of_getElem? (i := 51) rfl)
theorem jpX10_kind : jPc zX10_kind := jSub_4 (List.mem_of_getElem? (i := 63) rfl)
theorem jpX10_room : jPc zX10_room := jSub_4 (List.mem_of_getElem? (i := 79) rfl)
theorem jpX10_next : jPc zX10_next := jSub_4 (List.mem_of_getElem? (i := 88) rfl)
theorem jpX10_fair : jPc zX10_fair := jSub_4 (List.mem_of_getElem? (i := 120) rfl)
theorem jpX10_days : jPc zX10_days := jSub_4 (List.mem_of_getElem? (i := 133) rfl)
theorem jpX10_day : jPc zX10_day := jSub_4 (List.mem_of_getElem? (i := 155) rfl)
theorem jpX10_lack : jPc zX10_lack := jSub_4 (List.mem_of_getElem? (i := 159) rfl)
theorem jpX10_without : jPc zX10_without := jSub_4 (List.mem_of_getElem? (i := 164) rfl)
theorem jpX10_tells : jPc zX10_tells := jSub_4 (List.mem_of_getElem? (i := 172) rfl)
theorem jpX10_film : jPc zX10_film := jSub_4 (List.mem_of_getElem? (i := 198) rfl)
theorem jpX10_image : jPc zX10_image := jSub_4 (List.mem_of_getElem? (i := 211) rfl)
theorem jpX10_back : jPc zX10_back := jSub_4 (List.mem_of_getElem? (i := 229) rfl)
theorem jpX10_count : jPc zX10_count := jSub_4 (List.mem_of_getElem? (i := 233) rfl)
theorem jpX10_sheet : jPc zX10_sheet := jSub_5 (List.mem_of_getElem? (i := 6) rfl)
theorem jpX10_put : jPc zX10_put := jSub_5 (List.mem_of_getElem? (i := 10) rfl)
theorem jpX10_item : jPc zX10_item := jSub_5 (List.mem_of_getElem? (i := 18) rfl)
theorem jpX10_copy : jPc zX10_copy := jSub_5 (List.mem_of_getElem? (i := 22) rfl)
theorem jpX10_lay : jPc zX10_lay := jSub_5 (List.mem_of_getElem? (i := 27) rfl)
theorem jpX10_isSide : jPc zX10_isSide := jSub_2 (List.mem_of_getElem? (i := 181) rfl)
theorem jpX10_isSeat : jPc zX10_isSeat := jSub_2 (List.mem_of_getElem? (i := 184) rfl)
theorem jpX10_isPair : jPc zX10_isPair := jSub_2 (List.mem_of_getElem? (i := 203) rfl)
theorem jpX10_isRule : jPc zX10_isRule := jSub_3 (List.mem_of_getElem? (i := 87) rfl)
theorem jpX10_isSheet : jPc zX10_isSheet := jSub_4 (List.mem_of_getElem? (i := 175) rfl)
theorem jpX10_changed : jPc zX10_changed := jSub_2 (List.mem_of_getElem? (i := 188) rfl)
theorem jpX10_refreshPlan : jPc zX10_refreshPlan := jSub_2 (List.mem_of_getElem? (i := 210) rfl)
theorem jpX10_refreshShares : jPc zX10_refreshShares := jSub_4 (List.mem_of_getElem? (i := 67) rfl)
theorem jpX10_refreshNextOnes : jPc zX10_refreshNextOnes := jSub_4 (List.mem_of_getElem? (i := 92) rfl)
theorem jpX10_refreshDiary : jPc zX10_refreshDiary := jSub_4 (List.mem_of_getElem? (i := 137) rfl)
theorem jpX11_in : jPc zX11_in := jSub_6 (List.mem_of_getElem? (i := 45) rfl)
theorem jpX11_init : jPc zX11_init := jSub_5 (List.mem_of_getElem? (i := 33) rfl)
theorem jpX11_isWho : jPc zX11_isWho := jSub_6 (List.mem_of_getElem? (i := 42) rfl)
theorem jpX11_isPair : jPc zX11_isPair := jSub_6 (List.mem_of_getElem? (i := 172) rfl)
theorem jpX11_isJudge : jPc zX11_isJudge := jSub_7 (List.mem_of_getElem? (i := 4) rfl)
theorem jpX11_isCase : jPc zX11_isCase := jSub_7 (List.mem_of_getElem? (i := 8) rfl)
theorem jpX11_here : jPc zX11_here := jSub_6 (List.mem_of_getElem? (i := 39) rfl)
theorem jpX11_trait : jPc zX11_trait := jSub_6 (List.mem_of_getElem? (i := 50) rfl)
theorem jpX11_feed : jPc zX11_feed := jSub_6 (List.mem_of_getElem? (i := 57) rfl)
theorem jpX11_byteAt : jPc zX11_byteAt := jSub_6 (List.mem_of_getElem? (i := 71) rfl)
theorem jpX11_isLetter : jPc zX11_isLetter := jSub_6 (List.mem_of_getElem? (i := 74) rfl)
theorem jpX11_isDigit : jPc zX11_isDigit := jSub_6 (List.mem_of_getElem? (i := 91) rfl)
theorem jpX11_isThree : jPc zX11_isThree := jSub_6 (List.mem_of_getElem? (i := 84) rfl)
theorem jpX11_word : jPc zX11_word := jSub_6 (List.mem_of_getElem? (i := 80) rfl)
theorem jpX11_isSignByte : jPc zX11_isSignByte := jSub_6 (List.mem_of_getElem? (i := 96) rfl)
theorem jpX11_next : jPc zX11_next := jSub_6 (List.mem_of_getElem? (i := 67) rfl)
theorem jpX11_fail : jPc zX11_fail := jSub_6 (List.mem_of_getElem? (i := 120) rfl)
theorem jpX11_isSign : jPc zX11_isSign := jSub_6 (List.mem_of_getElem? (i := 128) rfl)
theorem jpX11_takes : jPc zX11_takes := jSub_6 (List.mem_of_getElem? (i := 136) rfl)
theorem jpX11_part : jPc zX11_part := jSub_6 (List.mem_of_getElem? (i := 116) rfl)
theorem jpX11_opens : jPc zX11_opens := jSub_6 (List.mem_of_getElem? (i := 132) rfl)
theorem jpX11_expression : jPc zX11_expression := jSub_6 (List.mem_of_getElem? (i := 100) rfl)
theorem jpX11_sum : jPc zX11_sum := jSub_6 (List.mem_of_getElem? (i := 104) rfl)
theorem jpX11_product : jPc zX11_product := jSub_6 (List.mem_of_getElem? (i := 108) rfl)
theorem jpX11_factor : jPc zX11_factor := jSub_6 (List.mem_of_getElem? (i := 112) rfl)
theorem jpX11_ofTwo : jPc zX11_ofTwo := jSub_6 (List.mem_of_getElem? (i := 124) rfl)
theorem jpX11_names : jPc zX11_names := jSub_6 (List.mem_of_getElem? (i := 148) rfl)
theorem jpX11_comesTo : jPc zX11_comesTo := jSub_6 (List.mem_of_getElem? (i := 144) rfl)
theorem jpX11_weight : jPc zX11_weight := jSub_6 (List.mem_of_getElem? (i := 156) rfl)
theorem jpX11_trades : jPc zX11_trades := jSub_6 (List.mem_of_getElem? (i := 140) rfl)
theorem jpX11_isHeavy : jPc zX11_isHeavy := jSub_6 (List.mem_of_getElem? (i := 152) rfl)
theorem jpX11_text : jPc zX11_text := jSub_6 (List.mem_of_getElem? (i := 62) rfl)
theorem jpX11_empty : jPc zX11_empty := jSub_6 (List.mem_of_getElem? (i := 160) rfl)
theorem jpX11_told : jPc zX11_told := jSub_6 (List.mem_of_getElem? (i := 164) rfl)
theorem jpX11_fails : jPc zX11_fails := jSub_6 (List.mem_of_getElem? (i := 199) rfl)
theorem jpX11_valueOf : jPc zX11_valueOf := jSub_6 (List.mem_of_getElem? (i := 181) rfl)
theorem jpX11_named : jPc zX11_named := jSub_6 (List.mem_of_getElem? (i := 189) rfl)
theorem jpX11_limited : jPc zX11_limited := jSub_6 (List.mem_of_getElem? (i := 193) rfl)
theorem jpX11_valueOf_ : jPc zX11_valueOf_ := jSub_6 (List.mem_of_getElem? (i := 185) rfl)
theorem jpX11_asked : jPc zX11_asked := jSub_6 (List.mem_of_getElem? (i := 177) rfl)
theorem jpX11_value : jPc zX11_value := jSub_6 (List.mem_of_getElem? (i := 169) rfl)
theorem jpX11_why : jPc zX11_why := jSub_6 (List.mem_of_getElem? (i := 205) rfl)
theorem jpX11_burdenOf : jPc zX11_burdenOf := jSub_6 (List.mem_of_getElem? (i := 213) rfl)
theorem jpX11_forcedOf : jPc zX11_forcedOf := jSub_6 (List.mem_of_getElem? (i := 220) rfl)
theorem jpX11_isOpen : jPc zX11_isOpen := jSub_7 (List.mem_of_getElem? (i := 0) rfl)
theorem jpX11_tellsBurdens : jPc zX11_tellsBurdens := jSub_6 (List.mem_of_getElem? (i := 232) rfl)
theorem jpX11_opens_ : jPc zX11_opens_ := jSub_6 (List.mem_of_getElem? (i := 236) rfl)
theorem jpX11_costs : jPc zX11_costs := jSub_6 (List.mem_of_getElem? (i := 228) rfl)
theorem jpX11_burden : jPc zX11_burden := jSub_6 (List.mem_of_getElem? (i := 209) rfl)
theorem jpX11_mark : jPc zX11_mark := jSub_6 (List.mem_of_getElem? (i := 217) rfl)
theorem jpX11_open : jPc zX11_open := jSub_6 (List.mem_of_getElem? (i := 224) rfl)
theorem jpX11_openMany : jPc zX11_openMany := jSub_7 (List.mem_of_getElem? (i := 188) rfl)
theorem jpX11_least : jPc zX11_least := jSub_7 (List.mem_of_getElem? (i := 21) rfl)
theorem jpX11_toldOr : jPc zX11_toldOr := jSub_7 (List.mem_of_getElem? (i := 25) rfl)
theorem jpX11_picks : jPc zX11_picks := jSub_7 (List.mem_of_getElem? (i := 38) rfl)
theorem jpX11_tell : jPc zX11_tell := jSub_7 (List.mem_of_getElem? (i := 12) rfl)
theorem jpX11_total : jPc zX11_total := jSub_7 (List.mem_of_getElem? (i := 17) rfl)
theorem jpX11_many : jPc zX11_many := jSub_7 (List.mem_of_getElem? (i := 30) rfl)
theorem jpX11_best : jPc zX11_best := jSub_7 (List.mem_of_getElem? (i := 34) rfl)
theorem jpX11_with : jPc zX11_with := jSub_7 (List.mem_of_getElem? (i := 46) rfl)
theorem jpX11_lacking : jPc zX11_lacking := jSub_7 (List.mem_of_getElem? (i := 50) rfl)
theorem jpX11_kind : jPc zX11_kind := jSub_7 (List.mem_of_getElem? (i := 42) rfl)
theorem jpX11_room : jPc zX11_room := jSub_7 (List.mem_of_getElem? (i := 54) rfl)
theorem jpX11_enters : jPc zX11_enters := jSub_7 (List.mem_of_getElem? (i := 71) rfl)
theorem jpX11_walks : jPc zX11_walks := jSub_7 (List.mem_of_getElem? (i := 67) rfl)
theorem jpX11_lists : jPc zX11_lists := jSub_7 (List.mem_of_getElem? (i := 63) rfl)
theorem jpX11_next_ : jPc zX11_next_ := jSub_7 (List.mem_of_getElem? (i := 58) rfl)
theorem jpX11_heaviest : jPc zX11_heaviest := jSub_7 (List.mem_of_getElem? (i := 79) rfl)
theorem jpX11_fair : jPc zX11_fair := jSub_7 (List.mem_of_getElem? (i := 75) rfl)
theorem jpX11_finds : jPc zX11_finds := jSub_7 (List.mem_of_getElem? (i := 113) rfl)
theorem jpX11_greatest : jPc zX11_greatest := jSub_7 (List.mem_of_getElem? (i := 109) rfl)
theorem jpX11_marking : jPc zX11_marking := jSub_7 (List.mem_of_getElem? (i := 105) rfl)
theorem jpX11_casesIn : jPc zX11_casesIn := jSub_7 (List.mem_of_getElem? (i := 93) rfl)
theorem jpX11_slack : jPc zX11_slack := jSub_7 (List.mem_of_getElem? (i := 101) rfl)
theorem jpX11_rise : jPc zX11_rise := jSub_7 (List.mem_of_getElem? (i := 117) rfl)
theorem jpX11_begins : jPc zX11_begins := jSub_7 (List.mem_of_getElem? (i := 89) rfl)
theorem jpX11_isLast : jPc zX11_isLast := jSub_7 (List.mem_of_getElem? (i := 97) rfl)
theorem jpX11_solve : jPc zX11_solve := jSub_7 (List.mem_of_getElem? (i := 85) rfl)
theorem jpX11_round : jPc zX11_round := jSub_7 (List.mem_of_getElem? (i := 121) rfl)
theorem jpX11_price : jPc zX11_price := jSub_7 (List.mem_of_getElem? (i := 126) rfl)
theorem jpX11_daysOf : jPc zX11_daysOf := jSub_7 (List.mem_of_getElem? (i := 135) rfl)
theorem jpX11_days : jPc zX11_days := jSub_7 (List.mem_of_getElem? (i := 130) rfl)
theorem jpX11_day : jPc zX11_day := jSub_7 (List.mem_of_getElem? (i := 139) rfl)
theorem jpX11_lack : jPc zX11_lack := jSub_7 (List.mem_of_getElem? (i := 143) rfl)
theorem jpX11_without : jPc zX11_without := jSub_7 (List.mem_of_getElem? (i := 148) rfl)
theorem jpX11_casesMany : jPc zX11_casesMany := jSub_7 (List.mem_of_getElem? (i := 164) rfl)
theorem jpX11_reads : jPc zX11_reads := jSub_7 (List.mem_of_getElem? (i := 160) rfl)
theorem jpX11_tells : jPc zX11_tells := jSub_7 (List.mem_of_getElem? (i := 152) rfl)
theorem jpX11_placeOf : jPc zX11_placeOf := jSub_7 (List.mem_of_getElem? (i := 169) rfl)
theorem jpX11_film : jPc zX11_film := jSub_7 (List.mem_of_getElem? (i := 173) rfl)
theorem jpX11_copies : jPc zX11_copies := jSub_7 (List.mem_of_getElem? (i := 184) rfl)
theorem jpX11_keeps : jPc zX11_keeps := jSub_7 (List.mem_of_getElem? (i := 181) rfl)
theorem jpX11_image : jPc zX11_image := jSub_7 (List.mem_of_getElem? (i := 177) rfl)
theorem jpX11_back : jPc zX11_back := jSub_7 (List.mem_of_getElem? (i := 192) rfl)
theorem jpX11_marksOf : jPc zX11_marksOf := jSub_7 (List.mem_of_getElem? (i := 200) rfl)
theorem jpX11_count : jPc zX11_count := jSub_7 (List.mem_of_getElem? (i := 196) rfl)
theorem jpX11_isSheet : jPc zX11_isSheet := jSub_7 (List.mem_of_getElem? (i := 155) rfl)
theorem jpX11_sheet : jPc zX11_sheet := jSub_7 (List.mem_of_getElem? (i := 204) rfl)
theorem jpX11_put : jPc zX11_put := jSub_7 (List.mem_of_getElem? (i := 208) rfl)
theorem jpX11_item : jPc zX11_item := jSub_7 (List.mem_of_getElem? (i := 212) rfl)
theorem jpX11_copy : jPc zX11_copy := jSub_7 (List.mem_of_getElem? (i := 216) rfl)
theorem jpX11_lay : jPc zX11_lay := jSub_7 (List.mem_of_getElem? (i := 220) rfl)
theorem jpJ6_bitCount_0f7a4 : jPc zJ6_bitCount_0f7a4 := jSub_3 (List.mem_of_getElem? (i := 42) rfl)
theorem jpJ9_floorDiv_f86c9 : jPc zJ9_floorDiv_f86c9 := jSub_3 (List.mem_of_getElem? (i := 6) rfl)
theorem jpJ9_floorMod_f86c9 : jPc zJ9_floorMod_f86c9 := jSub_3 (List.mem_of_getElem? (i := 9) rfl)
theorem jpJ9_abs_067f4 : jPc zJ9_abs_067f4 := jSub_2 (List.mem_of_getElem? (i := 234) rfl)
theorem jpJ9_max_f86c9 : jPc zJ9_max_f86c9 := jSub_3 (List.mem_of_getElem? (i := 3) rfl)
theorem jpJ9_min_f86c9 : jPc zJ9_min_f86c9 := jSub_3 (List.mem_of_getElem? (i := 0) rfl)
theorem jpJ7_fill_d0a16 : jPc zJ7_fill_d0a16 := jSub_1 (List.mem_of_getElem? (i := 36) rfl)
theorem jpJ7_fill_53178 : jPc zJ7_fill_53178 := jSub_3 (List.mem_of_getElem? (i := 23) rfl)
theorem jPs_0 : ∀ z ∈ [zX0_init, zX0_take, zX0_seat, zX0_isIn, zX0_forcedBeside, zX0_marked, zX0_owned, zX0_namersOf, zX0_reachOf, zX0_weighRules, zX0_refusalOf, zX1_init, zX1_write, zX1_hear, zX2_init, zX2_find, zX2_grow, zX2_turn, zX2_spread, zX3_init, zX3_find, zX3_merge, zX3_headTotal, zX3_firstJudge, zX3_follow], jPc z := List.forall_mem_cons.mpr ⟨jpX0_init, List.forall_mem_cons.mpr ⟨jpX0_take, List.forall_mem_cons.mpr ⟨jpX0_seat, List.forall_mem_cons.mpr ⟨jpX0_isIn, List.forall_mem_cons.mpr ⟨jpX0_forcedBeside, List.forall_mem_cons.mpr ⟨jpX0_marked, List.forall_mem_cons.mpr ⟨jpX0_owned, List.forall_mem_cons.mpr ⟨jpX0_namersOf, List.forall_mem_cons.mpr ⟨jpX0_reachOf, List.forall_mem_cons.mpr ⟨jpX0_weighRules, List.forall_mem_cons.mpr ⟨jpX0_refusalOf, List.forall_mem_cons.mpr ⟨jpX1_init, List.forall_mem_cons.mpr ⟨jpX1_write, List.forall_mem_cons.mpr ⟨jpX1_hear, List.forall_mem_cons.mpr ⟨jpX2_init, List.forall_mem_cons.mpr ⟨jpX2_find, List.forall_mem_cons.mpr ⟨jpX2_grow, List.forall_mem_cons.mpr ⟨jpX2_turn, List.forall_mem_cons.mpr ⟨jpX2_spread, List.forall_mem_cons.mpr ⟨jpX3_init, List.forall_mem_cons.mpr ⟨jpX3_find, List.forall_mem_cons.mpr ⟨jpX3_merge, List.forall_mem_cons.mpr ⟨jpX3_headTotal, List.forall_mem_cons.mpr ⟨jpX3_firstJudge, List.forall_mem_cons.mpr ⟨jpX3_follow, fun _ h => absurd h List.not_mem_nil⟩⟩⟩⟩⟩⟩⟩⟩⟩⟩⟩⟩⟩⟩⟩⟩⟩⟩⟩⟩⟩⟩⟩⟩⟩
theorem jPs_1 : ∀ z ∈ [zX3_placeOf, zX4_init, zX4_load, zX4_take, zX4_openBy, zX4_force, zX4_isOpen, zX4_openPairs, zX4_closeJudge, zX4_closeHeavier, zX4_heavierThan, zX4_weigh, zX4_listCases, zX4_canTake, zX4_weighFrom, zX4_leads, zX4_pick, zX4_share, zX4_shareFrom, zX4_follows, zX4_sumOf, zX4_sharedOf, zX5_init, zX5_make, zX5_firstPay], jPc z := List.forall_mem_cons.mpr ⟨jpX3_placeOf, List.forall_mem_cons.mpr ⟨jpX4_init, List.forall_mem_cons.mpr ⟨jpX4_load, List.forall_mem_cons.mpr ⟨jpX4_take, List.forall_mem_cons.mpr ⟨jpX4_openBy, List.forall_mem_cons.mpr ⟨jpX4_force, List.forall_mem_cons.mpr ⟨jpX4_isOpen, List.forall_mem_cons.mpr ⟨jpX4_openPairs, List.forall_mem_cons.mpr ⟨jpX4_closeJudge, List.forall_mem_cons.mpr ⟨jpX4_closeHeavier, List.forall_mem_cons.mpr ⟨jpX4_heavierThan, List.forall_mem_cons.mpr ⟨jpX4_weigh, List.forall_mem_cons.mpr ⟨jpX4_listCases, List.forall_mem_cons.mpr ⟨jpX4_canTake, List.forall_mem_cons.mpr ⟨jpX4_weighFrom, List.forall_mem_cons.mpr ⟨jpX4_leads, List.forall_mem_cons.mpr ⟨jpX4_pick, List.forall_mem_cons.mpr ⟨jpX4_share, List.forall_mem_cons.mpr ⟨jpX4_shareFrom, List.forall_mem_cons.mpr ⟨jpX4_follows, List.forall_mem_cons.mpr ⟨jpX4_sumOf, List.forall_mem_cons.mpr ⟨jpX4_sharedOf, List.forall_mem_cons.mpr ⟨jpX5_init, List.forall_mem_cons.mpr ⟨jpX5_make, List.forall_mem_cons.mpr ⟨jpX5_firstPay, fun _ h => absurd h List.not_mem_nil⟩⟩⟩⟩⟩⟩⟩⟩⟩⟩⟩⟩⟩⟩⟩⟩⟩⟩⟩⟩⟩⟩⟩⟩⟩
theorem jPs_2 : ∀ z ∈ [zX5_slack, zX5_findTight, zX5_leastSlack, zX5_keep, zX5_raise, zX6_init, zX6_clear, zX6_take, zX6_add, zX6_landHere, zX6_names, zX6_weightBy, zX7_init, zX7_become, zX7_holds, zX7_set, zX8_init, zX8_add, zX8_parse, zX8_expr, zX8_sum, zX8_product, zX8_factor, zX8_atom, zX8_function], jPc z := List.forall_mem_cons.mpr ⟨jpX5_slack, List.forall_mem_cons.mpr ⟨jpX5_findTight, List.forall_mem_cons.mpr ⟨jpX5_leastSlack, List.forall_mem_cons.mpr ⟨jpX5_keep, List.forall_mem_cons.mpr ⟨jpX5_raise, List.forall_mem_cons.mpr ⟨jpX6_init, List.forall_mem_cons.mpr ⟨jpX6_clear, List.forall_mem_cons.mpr ⟨jpX6_take, List.forall_mem_cons.mpr ⟨jpX6_add, List.forall_mem_cons.mpr ⟨jpX6_landHere, List.forall_mem_cons.mpr ⟨jpX6_names, List.forall_mem_cons.mpr ⟨jpX6_weightBy, List.forall_mem_cons.mpr ⟨jpX7_init, List.forall_mem_cons.mpr ⟨jpX7_become, List.forall_mem_cons.mpr ⟨jpX7_holds, List.forall_mem_cons.mpr ⟨jpX7_set, List.forall_mem_cons.mpr ⟨jpX8_init, List.forall_mem_cons.mpr ⟨jpX8_add, List.forall_mem_cons.mpr ⟨jpX8_parse, List.forall_mem_cons.mpr ⟨jpX8_expr, List.forall_mem_cons.mpr ⟨jpX8_sum, List.forall_mem_cons.mpr ⟨jpX8_product, List.forall_mem_cons.mpr ⟨jpX8_factor, List.forall_mem_cons.mpr ⟨jpX8_atom, List.forall_mem_cons.mpr ⟨jpX8_function, fun _ h => absurd h List.not_mem_nil⟩⟩⟩⟩⟩⟩⟩⟩⟩⟩⟩⟩⟩⟩⟩⟩⟩⟩⟩⟩⟩⟩⟩⟩⟩
theorem jPs_3 : ∀ z ∈ [zX8_part, zX8_enter, zX8_leave, zX8_step, zX8_word, zX8_nameOfOne, zX8_nameOfThree, zX8_digits, zX8_isLetter, zX8_isDigit, zX8_isSign, zX9_init, zX9_burdenOf, zX9_read, zX9_leaf, zX9_join, zX9_fail, zX10_init, zX10_here, zX10_trait, zX10_tell, zX10_burden, zX10_mark, zX10_open, zX10_feed], jPc z := List.forall_mem_cons.mpr ⟨jpX8_part, List.forall_mem_cons.mpr ⟨jpX8_enter, List.forall_mem_cons.mpr ⟨jpX8_leave, List.forall_mem_cons.mpr ⟨jpX8_step, List.forall_mem_cons.mpr ⟨jpX8_word, List.forall_mem_cons.mpr ⟨jpX8_nameOfOne, List.forall_mem_cons.mpr ⟨jpX8_nameOfThree, List.forall_mem_cons.mpr ⟨jpX8_digits, List.forall_mem_cons.mpr ⟨jpX8_isLetter, List.forall_mem_cons.mpr ⟨jpX8_isDigit, List.forall_mem_cons.mpr ⟨jpX8_isSign, List.forall_mem_cons.mpr ⟨jpX9_init, List.forall_mem_cons.mpr ⟨jpX9_burdenOf, List.forall_mem_cons.mpr ⟨jpX9_read, List.forall_mem_cons.mpr ⟨jpX9_leaf, List.forall_mem_cons.mpr ⟨jpX9_join, List.forall_mem_cons.mpr ⟨jpX9_fail, List.forall_mem_cons.mpr ⟨jpX10_init, List.forall_mem_cons.mpr ⟨jpX10_here, List.forall_mem_cons.mpr ⟨jpX10_trait, List.forall_mem_cons.mpr ⟨jpX10_tell, List.forall_mem_cons.mpr ⟨jpX10_burden, List.forall_mem_cons.mpr ⟨jpX10_mark, List.forall_mem_cons.mpr ⟨jpX10_open, List.forall_mem_cons.mpr ⟨jpX10_feed, fun _ h => absurd h List.not_mem_nil⟩⟩⟩⟩⟩⟩⟩⟩⟩⟩⟩⟩⟩⟩⟩⟩⟩⟩⟩⟩⟩⟩⟩⟩⟩
theorem jPs_4 : ∀ z ∈ [zX10_text, zX10_empty, zX10_told, zX10_value, zX10_why, zX10_solve, zX10_round, zX10_price, zX10_total, zX10_many, zX10_best, zX10_kind, zX10_room, zX10_next, zX10_fair, zX10_days, zX10_day, zX10_lack, zX10_without, zX10_tells, zX10_film, zX10_image, zX10_back, zX10_count, zX10_sheet], jPc z := List.forall_mem_cons.mpr ⟨jpX10_text, List.forall_mem_cons.mpr ⟨jpX10_empty, List.forall_mem_cons.mpr ⟨jpX10_told, List.forall_mem_cons.mpr ⟨jpX10_value, List.forall_mem_cons.mpr ⟨jpX10_why, List.forall_mem_cons.mpr ⟨jpX10_solve, List.forall_mem_cons.mpr ⟨jpX10_round, List.forall_mem_cons.mpr ⟨jpX10_price, List.forall_mem_cons.mpr ⟨jpX10_total, List.forall_mem_cons.mpr ⟨jpX10_many, List.forall_mem_cons.mpr ⟨jpX10_best, List.forall_mem_cons.mpr ⟨jpX10_kind, List.forall_mem_cons.mpr ⟨jpX10_room, List.forall_mem_cons.mpr ⟨jpX10_next, List.forall_mem_cons.mpr ⟨jpX10_fair, List.forall_mem_cons.mpr ⟨jpX10_days, List.forall_mem_cons.mpr ⟨jpX10_day, List.forall_mem_cons.mpr ⟨jpX10_lack, List.forall_mem_cons.mpr ⟨jpX10_without, List.forall_mem_cons.mpr ⟨jpX10_tells, List.forall_mem_cons.mpr ⟨jpX10_film, List.forall_mem_cons.mpr ⟨jpX10_image, List.forall_mem_cons.mpr ⟨jpX10_back, List.forall_mem_cons.mpr ⟨jpX10_count, List.forall_mem_cons.mpr ⟨jpX10_sheet, fun _ h => absurd h List.not_mem_nil⟩⟩⟩⟩⟩⟩⟩⟩⟩⟩⟩⟩⟩⟩⟩⟩⟩⟩⟩⟩⟩⟩⟩⟩⟩
theorem jPs_5 : ∀ z ∈ [zX10_put, zX10_item, zX10_copy, zX10_lay, zX10_isSide, zX10_isSeat, zX10_isPair, zX10_isRule, zX10_isSheet, zX10_changed, zX10_refreshPlan, zX10_refreshShares, zX10_refreshNextOnes, zX10_refreshDiary, zX11_in, zX11_init, zX11_isWho, zX11_isPair, zX11_isJudge, zX11_isCase, zX11_here, zX11_trait, zX11_feed, zX11_byteAt, zX11_isLetter], jPc z := List.forall_mem_cons.mpr ⟨jpX10_put, List.forall_mem_cons.mpr ⟨jpX10_item, List.forall_mem_cons.mpr ⟨jpX10_copy, List.forall_mem_cons.mpr ⟨jpX10_lay, List.forall_mem_cons.mpr ⟨jpX10_isSide, List.forall_mem_cons.mpr ⟨jpX10_isSeat, List.forall_mem_cons.mpr ⟨jpX10_isPair, List.forall_mem_cons.mpr ⟨jpX10_isRule, List.forall_mem_cons.mpr ⟨jpX10_isSheet, List.forall_mem_cons.mpr ⟨jpX10_changed, List.forall_mem_cons.mpr ⟨jpX10_refreshPlan, List.forall_mem_cons.mpr ⟨jpX10_refreshShares, List.forall_mem_cons.mpr ⟨jpX10_refreshNextOnes, List.forall_mem_cons.mpr ⟨jpX10_refreshDiary, List.forall_mem_cons.mpr ⟨jpX11_in, List.forall_mem_cons.mpr ⟨jpX11_init, List.forall_mem_cons.mpr ⟨jpX11_isWho, List.forall_mem_cons.mpr ⟨jpX11_isPair, List.forall_mem_cons.mpr ⟨jpX11_isJudge, List.forall_mem_cons.mpr ⟨jpX11_isCase, List.forall_mem_cons.mpr ⟨jpX11_here, List.forall_mem_cons.mpr ⟨jpX11_trait, List.forall_mem_cons.mpr ⟨jpX11_feed, List.forall_mem_cons.mpr ⟨jpX11_byteAt, List.forall_mem_cons.mpr ⟨jpX11_isLetter, fun _ h => absurd h List.not_mem_nil⟩⟩⟩⟩⟩⟩⟩⟩⟩⟩⟩⟩⟩⟩⟩⟩⟩⟩⟩⟩⟩⟩⟩⟩⟩
theorem jPs_6 : ∀ z ∈ [zX11_isDigit, zX11_isThree, zX11_word, zX11_isSignByte, zX11_next, zX11_fail, zX11_isSign, zX11_takes, zX11_part, zX11_opens, zX11_expression, zX11_sum, zX11_product, zX11_factor, zX11_ofTwo, zX11_names, zX11_comesTo, zX11_weight, zX11_trades, zX11_isHeavy, zX11_text, zX11_empty, zX11_told, zX11_fails, zX11_valueOf], jPc z := List.forall_mem_cons.mpr ⟨jpX11_isDigit, List.forall_mem_cons.mpr ⟨jpX11_isThree, List.forall_mem_cons.mpr ⟨jpX11_word, List.forall_mem_cons.mpr ⟨jpX11_isSignByte, List.forall_mem_cons.mpr ⟨jpX11_next, List.forall_mem_cons.mpr ⟨jpX11_fail, List.forall_mem_cons.mpr ⟨jpX11_isSign, List.forall_mem_cons.mpr ⟨jpX11_takes, List.forall_mem_cons.mpr ⟨jpX11_part, List.forall_mem_cons.mpr ⟨jpX11_opens, List.forall_mem_cons.mpr ⟨jpX11_expression, List.forall_mem_cons.mpr ⟨jpX11_sum, List.forall_mem_cons.mpr ⟨jpX11_product, List.forall_mem_cons.mpr ⟨jpX11_factor, List.forall_mem_cons.mpr ⟨jpX11_ofTwo, List.forall_mem_cons.mpr ⟨jpX11_names, List.forall_mem_cons.mpr ⟨jpX11_comesTo, List.forall_mem_cons.mpr ⟨jpX11_weight, List.forall_mem_cons.mpr ⟨jpX11_trades, List.forall_mem_cons.mpr ⟨jpX11_isHeavy, List.forall_mem_cons.mpr ⟨jpX11_text, List.forall_mem_cons.mpr ⟨jpX11_empty, List.forall_mem_cons.mpr ⟨jpX11_told, List.forall_mem_cons.mpr ⟨jpX11_fails, List.forall_mem_cons.mpr ⟨jpX11_valueOf, fun _ h => absurd h List.not_mem_nil⟩⟩⟩⟩⟩⟩⟩⟩⟩⟩⟩⟩⟩⟩⟩⟩⟩⟩⟩⟩⟩⟩⟩⟩⟩
theorem jPs_7 : ∀ z ∈ [zX11_named, zX11_limited, zX11_valueOf_, zX11_asked, zX11_value, zX11_why, zX11_burdenOf, zX11_forcedOf, zX11_isOpen, zX11_tellsBurdens, zX11_opens_, zX11_costs, zX11_burden, zX11_mark, zX11_open, zX11_openMany, zX11_least, zX11_toldOr, zX11_picks, zX11_tell, zX11_total, zX11_many, zX11_best, zX11_with, zX11_lacking], jPc z := List.forall_mem_cons.mpr ⟨jpX11_named, List.forall_mem_cons.mpr ⟨jpX11_limited, List.forall_mem_cons.mpr ⟨jpX11_valueOf_, List.forall_mem_cons.mpr ⟨jpX11_asked, List.forall_mem_cons.mpr ⟨jpX11_value, List.forall_mem_cons.mpr ⟨jpX11_why, List.forall_mem_cons.mpr ⟨jpX11_burdenOf, List.forall_mem_cons.mpr ⟨jpX11_forcedOf, List.forall_mem_cons.mpr ⟨jpX11_isOpen, List.forall_mem_cons.mpr ⟨jpX11_tellsBurdens, List.forall_mem_cons.mpr ⟨jpX11_opens_, List.forall_mem_cons.mpr ⟨jpX11_costs, List.forall_mem_cons.mpr ⟨jpX11_burden, List.forall_mem_cons.mpr ⟨jpX11_mark, List.forall_mem_cons.mpr ⟨jpX11_open, List.forall_mem_cons.mpr ⟨jpX11_openMany, List.forall_mem_cons.mpr ⟨jpX11_least, List.forall_mem_cons.mpr ⟨jpX11_toldOr, List.forall_mem_cons.mpr ⟨jpX11_picks, List.forall_mem_cons.mpr ⟨jpX11_tell, List.forall_mem_cons.mpr ⟨jpX11_total, List.forall_mem_cons.mpr ⟨jpX11_many, List.forall_mem_cons.mpr ⟨jpX11_best, List.forall_mem_cons.mpr ⟨jpX11_with, List.forall_mem_cons.mpr ⟨jpX11_lacking, fun _ h => absurd h List.not_mem_nil⟩⟩⟩⟩⟩⟩⟩⟩⟩⟩⟩⟩⟩⟩⟩⟩⟩⟩⟩⟩⟩⟩⟩⟩⟩
theorem jPs_8 : ∀ z ∈ [zX11_kind, zX11_room, zX11_enters, zX11_walks, zX11_lists, zX11_next_, zX11_heaviest, zX11_fair, zX11_finds, zX11_greatest, zX11_marking, zX11_casesIn, zX11_slack, zX11_rise, zX11_begins, zX11_isLast, zX11_solve, zX11_round, zX11_price, zX11_daysOf, zX11_days, zX11_day, zX11_lack, zX11_without, zX11_casesMany], jPc z := List.forall_mem_cons.mpr ⟨jpX11_kind, List.forall_mem_cons.mpr ⟨jpX11_room, List.forall_mem_cons.mpr ⟨jpX11_enters, List.forall_mem_cons.mpr ⟨jpX11_walks, List.forall_mem_cons.mpr ⟨jpX11_lists, List.forall_mem_cons.mpr ⟨jpX11_next_, List.forall_mem_cons.mpr ⟨jpX11_heaviest, List.forall_mem_cons.mpr ⟨jpX11_fair, List.forall_mem_cons.mpr ⟨jpX11_finds, List.forall_mem_cons.mpr ⟨jpX11_greatest, List.forall_mem_cons.mpr ⟨jpX11_marking, List.forall_mem_cons.mpr ⟨jpX11_casesIn, List.forall_mem_cons.mpr ⟨jpX11_slack, List.forall_mem_cons.mpr ⟨jpX11_rise, List.forall_mem_cons.mpr ⟨jpX11_begins, List.forall_mem_cons.mpr ⟨jpX11_isLast, List.forall_mem_cons.mpr ⟨jpX11_solve, List.forall_mem_cons.mpr ⟨jpX11_round, List.forall_mem_cons.mpr ⟨jpX11_price, List.forall_mem_cons.mpr ⟨jpX11_daysOf, List.forall_mem_cons.mpr ⟨jpX11_days, List.forall_mem_cons.mpr ⟨jpX11_day, List.forall_mem_cons.mpr ⟨jpX11_lack, List.forall_mem_cons.mpr ⟨jpX11_without, List.forall_mem_cons.mpr ⟨jpX11_casesMany, fun _ h => absurd h List.not_mem_nil⟩⟩⟩⟩⟩⟩⟩⟩⟩⟩⟩⟩⟩⟩⟩⟩⟩⟩⟩⟩⟩⟩⟩⟩⟩
theorem jPs_9 : ∀ z ∈ [zX11_reads, zX11_tells, zX11_placeOf, zX11_film, zX11_copies, zX11_keeps, zX11_image, zX11_back, zX11_marksOf, zX11_count, zX11_isSheet, zX11_sheet, zX11_put, zX11_item, zX11_copy, zX11_lay, zJ6_bitCount_0f7a4, zJ9_floorDiv_f86c9, zJ9_floorMod_f86c9, zJ9_abs_067f4, zJ9_max_f86c9, zJ9_min_f86c9, zJ7_fill_d0a16, zJ7_fill_53178], jPc z := List.forall_mem_cons.mpr ⟨jpX11_reads, List.forall_mem_cons.mpr ⟨jpX11_tells, List.forall_mem_cons.mpr ⟨jpX11_placeOf, List.forall_mem_cons.mpr ⟨jpX11_film, List.forall_mem_cons.mpr ⟨jpX11_copies, List.forall_mem_cons.mpr ⟨jpX11_keeps, List.forall_mem_cons.mpr ⟨jpX11_image, List.forall_mem_cons.mpr ⟨jpX11_back, List.forall_mem_cons.mpr ⟨jpX11_marksOf, List.forall_mem_cons.mpr ⟨jpX11_count, List.forall_mem_cons.mpr ⟨jpX11_isSheet, List.forall_mem_cons.mpr ⟨jpX11_sheet, List.forall_mem_cons.mpr ⟨jpX11_put, List.forall_mem_cons.mpr ⟨jpX11_item, List.forall_mem_cons.mpr ⟨jpX11_copy, List.forall_mem_cons.mpr ⟨jpX11_lay, List.forall_mem_cons.mpr ⟨jpJ6_bitCount_0f7a4, List.forall_mem_cons.mpr ⟨jpJ9_floorDiv_f86c9, List.forall_mem_cons.mpr ⟨jpJ9_floorMod_f86c9, List.forall_mem_cons.mpr ⟨jpJ9_abs_067f4, List.forall_mem_cons.mpr ⟨jpJ9_max_f86c9, List.forall_mem_cons.mpr ⟨jpJ9_min_f86c9, List.forall_mem_cons.mpr ⟨jpJ7_fill_d0a16, List.forall_mem_cons.mpr ⟨jpJ7_fill_53178, fun _ h => absurd h List.not_mem_nil⟩⟩⟩⟩⟩⟩⟩⟩⟩⟩⟩⟩⟩⟩⟩⟩⟩⟩⟩⟩⟩⟩⟩⟩
end
section
/-! the law's own code, piece by piece -/
theorem jdL_law_0 : jChk 12 cL_law ((jcL_law.drop 0).take 30) = true := by decide +kernel
theorem jdL_law_1 : jChk 12 cL_law ((jcL_law.drop 30).take 30) = true := by decide +kernel
theorem jdL_law_2 : jChk 12 cL_law ((jcL_law.drop 60).take 30) = true := by decide +kernel
theorem jdL_law_3 : jChk 12 cL_law ((jcL_law.drop 90).take 30) = true := by decide +kernel
theorem jdL_law_4 : jChk 12 cL_law ((jcL_law.drop 120).take 30) = true := by decide +kernel
theorem jdL_law_5 : jChk 12 cL_law ((jcL_law.drop 150).take 30) = true := by decide +kernel
theorem jdL_law_6 : jChk 12 cL_law ((jcL_law.drop 180).take 30) = true := by decide +kernel
theorem jdL_law_7 : jChk 12 cL_law ((jcL_law.drop 210).take 30) = true := by decide +kernel
theorem jdL_law_8 : jChk 12 cL_law ((jcL_law.drop 240).take 30) = true := by decide +kernel
theorem jdL_law_9 : jChk 12 cL_law ((jcL_law.drop 270).take 30) = true := by decide +kernel
theorem jdL_law_10 : jChk 12 cL_law ((jcL_law.drop 300).take 30) = true := by decide +kernel
theorem jdL_law_11 : jChk 12 cL_law ((jcL_law.drop 330).take 30) = true := by decide +kernel
theorem jdL_law_12 : jChk 12 cL_law ((jcL_law.drop 360).take 30) = true := by decide +kernel
theorem jdL_law_13 : jChk 12 cL_law ((jcL_law.drop 390).take 30) = true := by decide +kernel
theorem jdL_law_14 : jChk 12 cL_law ((jcL_law.drop 420).take 30) = true := by decide +kernel
theorem jdL_law_15 : jChk 12 cL_law ((jcL_law.drop 450).take 30) = true := by decide +kernel
theorem jdL_law_16 : jChk 12 cL_law ((jcL_law.drop 480).take 30) = true := by decide +kernel
theorem jdL_law_17 : jChk 12 cL_law ((jcL_law.drop 510).take 30) = true := by decide +kernel
theorem jdL_law_18 : jChk 12 cL_law ((jcL_law.drop 540).take 30) = true := by decide +kernel
theorem jdL_law_19 : jChk 12 cL_law ((jcL_law.drop 570).take 30) = true := by decide +kernel
theorem jdL_law_20 : jChk 12 cL_law ((jcL_law.drop 600).take 30) = true := by decide +kernel
theorem jdL_law_21 : jChk 12 cL_law ((jcL_law.drop 630).take 30) = true := by decide +kernel
theorem jdL_law_22 : jChk 12 cL_law ((jcL_law.drop 660).take 30) = true := by decide +kernel
theorem jdL_law_23 : jChk 12 cL_law ((jcL_law.drop 690).take 30) = true := by decide +kernel
theorem jdL_law_24 : jChk 12 cL_law ((jcL_law.drop 720).take 30) = true := by decide +kernel
theorem jdL_law_25 : jChk 12 cL_law ((jcL_law.drop 750).take 30) = true := by decide +kernel
theorem jdL_law_26 : jChk 12 cL_law ((jcL_law.drop 780).take 30) = true := by decide +kernel
theorem jdL_law_27 : jChk 12 cL_law ((jcL_law.drop 810).take 30) = true := by decide +kernel
theorem jdL_law_28 : jChk 12 cL_law ((jcL_law.drop 840).take 30) = true := by decide +kernel
theorem jdL_law_29 : jChk 12 cL_law ((jcL_law.drop 870).take 30) = true := by decide +kernel
theorem jdL_law_30 : jChk 12 cL_law ((jcL_law.drop 900).take 30) = true := by decide +kernel
theorem jdL_law_31 : jChk 12 cL_law ((jcL_law.drop 930).take 30) = true := by decide +kernel
theorem jdL_law_32 : jChk 12 cL_law ((jcL_law.drop 960).take 30) = true := by decide +kernel
theorem jdL_law_33 : jChk 12 cL_law ((jcL_law.drop 990).take 30) = true := by decide +kernel
theorem jdL_law_34 : jChk 12 cL_law ((jcL_law.drop 1020).take 30) = true := by decide +kernel
theorem jdL_law_35 : jChk 12 cL_law ((jcL_law.drop 1050).take 30) = true := by decide +kernel
end
section
/-! THE TIE: abstract values, locals, cells, worlds against the machine's -/
def jRf (ws : va_W) (k : Int) (a : Nat) : Prop := 0 ≤ k ∧ ∃ e, ws[k.toNat]? = some (a, e)
def jVr (ws : va_W) (sb : Option (Nat × Nat)) : jV → Value → Prop
  | .inl a, w => ∃ x : Int32, w = .int x ∧ a = x.toInt
  | .inr (.inl a), w => ∃ x : Int64, w = .long x ∧ a = x.toInt
  | .inr (.inr (.inl (c, k))), w => jKd k = c ∧ ∃ a, w = .ref a ∧ jRf ws k a
  | .inr (.inr (.inr (t, n, k))), w => (t < 4 ∧ jKd k = 20 + t ∧ jLn k = n ∧ ∃ a, w = .ref a ∧ jRf ws k a) ∨ (t = 4 ∧ ∃ b L : Nat, sb = some (b, L) ∧ n = L ∧ k = -2 ∧ w = .ref b)
theorem jVr_cat {ws : va_W} {sb : Option (Nat × Nat)} {v : jV} {w : Value} (h : jVr ws sb v w) : w.category = jCat v := by
  match v, h with
  | .inl a, ⟨x, h, _⟩ => subst h; rfl
  | .inr (.inl a), ⟨x, h, _⟩ => subst h; rfl
  | .inr (.inr (.inl (c, k))), ⟨_, a, h, _⟩ => subst h; rfl
  | .inr (.inr (.inr (t, n, k))), h =>
    rcases h with ⟨_, _, _, a, h, _⟩ | ⟨_, b, L, _, _, _, h⟩ <;> (subst h; rfl)
def jEx (ws ws' : va_W) : Prop := ∀ (k a : Nat) (e : va_E), ws[k]? = some (a, e) → ∃ e', ws'[k]? = some (a, e')
theorem jEx_rf (ws : va_W) : jEx ws ws := fun _ _ e h => ⟨e, h⟩
theorem jEx_tr {a b c : va_W} (h : jEx a b) (g : jEx b c) : jEx a c := fun k x e q => by
  obtain ⟨e', q'⟩ := h k x e q
  exact g k x e' q'
theorem jEx_set {ws : va_W} {k a : Nat} {e : va_E} (h : ws[k]? = some (a, e)) (e' : va_E) : jEx ws (ws.set k (a, e')) := by
  intro j b f hj
  have hlt : k < ws.length := (List.getElem?_eq_some_iff.mp h).1
  by_cases hjk : j = k
  · subst hjk
    rw [h] at hj
    cases hj
    exact ⟨e', by simp [hlt]⟩
  · exact ⟨f, by rw [List.getElem?_set_ne (fun q => hjk q.symm)]; exact hj⟩
theorem jEx_app (ws l : va_W) : jEx ws (ws ++ l) := by
  intro k a e h
  have hlt : k < ws.length := (List.getElem?_eq_some_iff.mp h).1
  exact ⟨e, by rw [List.getElem?_append_left hlt]; exact h⟩
theorem jRf_ex {ws ws' : va_W} (h : jEx ws ws') {k : Int} {a : Nat} (g : jRf ws k a) : jRf ws' k a := by
  obtain ⟨g1, e, g2⟩ := g
  exact ⟨g1, h _ _ _ g2⟩
theorem jVr_ex {ws ws' : va_W} {sb : Option (Nat × Nat)} (h : jEx ws ws') {v : jV} {w : Value} (g : jVr ws sb v w) : jVr ws' sb v w := by
  match v, g with
  | .inl a, g => exact g
  | .inr (.inl a), g => exact g
  | .inr (.inr (.inl (c, k))), ⟨g1, a, g2, g3⟩ => exact ⟨g1, a, g2, jRf_ex h g3⟩
  | .inr (.inr (.inr (t, n, k))), g =>
    rcases g with ⟨g1, g2, g3, a, g4, g5⟩ | g
    · exact Or.inl ⟨g1, g2, g3, a, g4, jRf_ex h g5⟩
    · exact Or.inr g
/-! locals -/
def jLr (ws : va_W) (sb : Option (Nat × Nat)) (nL : Nat) (ls : jS) (lsR : Array Slot) : Prop :=
  ls.length = nL ∧ ∃ l, lv_has lsR nL l ∧ ∀ (i : Nat) (v : jV), ls[i]? = some (some v) → ∃ w, (i, w) ∈ l ∧ jVr ws sb v w
theorem jLr_ex {ws ws' : va_W} {sb : Option (Nat × Nat)} {nL : Nat} {ls : jS} {lsR : Array Slot} (h : jEx ws ws') (g : jLr ws sb nL ls lsR) : jLr ws' sb nL ls lsR := by
  obtain ⟨g1, l, g2, g3⟩ := g
  refine ⟨g1, l, g2, fun i v q => ?_⟩
  obtain ⟨w, a, b⟩ := g3 i v q
  exact ⟨w, a, jVr_ex h b⟩
theorem jLr_le {ws : va_W} {sb : Option (Nat × Nat)} {nL : Nat} {l0 ls : jS} {lsR : Array Slot} (h : jLe l0 ls) (g : jLr ws sb nL ls lsR) : jLr ws sb nL l0 lsR := by
  obtain ⟨g1, l, g2, g3⟩ := g
  exact ⟨h.1.trans g1, l, g2, fun i v q => g3 i v (h.2 i v q)⟩
theorem jLr_at {ws : va_W} {sb : Option (Nat × Nat)} {nL : Nat} {ls : jS} {lsR : Array Slot} (g : jLr ws sb nL ls lsR) {i : Nat} {v : jV} (h : ls[i]? = some (some v)) : ∃ w, lsR[i]? = some (.val w) ∧ jVr ws sb v w := by
  obtain ⟨g1, l, g2, g3⟩ := g
  obtain ⟨w, a, b⟩ := g3 i v h
  exact ⟨w, g2.2.2 _ a, b⟩
theorem jKl_len (ls : jS) (i : Nat) : (jKl ls i).length = ls.length := by
  unfold jKl
  split
  · rfl
  · split
    · simp
    · rfl
theorem jKl_at {ls : jS} {i j : Nat} {u : jV} (h : (jKl ls i)[j]? = some (some u)) : ls[j]? = some (some u) ∧ ¬ (j + 1 = i ∧ jCat u = 2) := by
  unfold jKl at h
  split at h
  · exact ⟨h, by omega⟩
  · rename_i i'
    split at h
    · rename_i x hx
      by_cases hj : j = i'
      · subst hj
        rw [List.getElem?_set] at h
        split at h
        · split at h <;> cases h
        · exact absurd rfl ‹_›
      · rw [List.getElem?_set_ne (fun q => hj q.symm)] at h
        exact ⟨h, by omega⟩
    · rename_i hx
      refine ⟨h, ?_⟩
      rintro ⟨hj, hc⟩
      have hj : j = i' := by omega
      subst hj
      match u, hc with
      | .inr (.inl a), _ => exact hx _ h
theorem jSt1_ok {ws : va_W} {sb : Option (Nat × Nat)} {ls ls' : jS} {l : List (Nat × Value)} {i : Nat} {v : jV} {w : Value} (h : ∀ (i : Nat) (v : jV), ls[i]? = some (some v) → ∃ w, (i, w) ∈ l ∧ jVr ws sb v w) (hs : jSt1 ls i v = some ls') (hv : jVr ws sb v w) :
    ls'.length = ls.length ∧ i < ls.length ∧ ∀ (j : Nat) (u : jV), ls'[j]? = some (some u) → ∃ x, (j, x) ∈ ((i, w) :: l.filter (fun q => !(q.1 == i) && !(q.1 + 1 == i && q.2.category == 2))) ∧ jVr ws sb u x := by
  unfold jSt1 at hs
  split at hs
  · rename_i hi
    cases hs
    refine ⟨by simp [jKl_len], hi, fun j u hj => ?_⟩
    by_cases hji : j = i
    · subst hji
      rw [List.getElem?_set] at hj
      split at hj
      · split at hj
        · cases hj
          exact ⟨w, List.mem_cons_self, hv⟩
        · cases hj
      · exact absurd rfl ‹_›
    · rw [List.getElem?_set_ne (fun q => hji q.symm)] at hj
      obtain ⟨h1, h2⟩ := jKl_at hj
      obtain ⟨x, hx, hr⟩ := h j u h1
      refine ⟨x, List.mem_cons_of_mem _ (List.mem_filter.mpr ⟨hx, ?_⟩), hr⟩
      have hc := jVr_cat hr
      simp only [Bool.and_eq_true, Bool.not_eq_true', beq_eq_false_iff_ne, ne_eq, Bool.and_eq_false_iff]
      refine ⟨hji, ?_⟩
      by_cases hq : j + 1 = i
      · exact Or.inr (fun z => h2 ⟨hq, by rw [← hc]; exact z⟩)
      · exact Or.inl hq
  · cases hs
theorem jSt2_ok {ws : va_W} {sb : Option (Nat × Nat)} {ls ls' : jS} {l : List (Nat × Value)} {i : Nat} {v : jV} {w : Value} (h : ∀ (i : Nat) (v : jV), ls[i]? = some (some v) → ∃ w, (i, w) ∈ l ∧ jVr ws sb v w) (hs : jSt2 ls i v = some ls') (hv : jVr ws sb v w) :
    ls'.length = ls.length ∧ i + 1 < ls.length ∧ ∀ (j : Nat) (u : jV), ls'[j]? = some (some u) → ∃ x, (j, x) ∈ ((i, w) :: l.filter (fun q => !(q.1 == i) && (!(q.1 == i + 1) && !(q.1 + 1 == i && q.2.category == 2)))) ∧ jVr ws sb u x := by
  unfold jSt2 at hs
  split at hs
  · rename_i hi
    cases hs
    refine ⟨by simp [jKl_len], hi, fun j u hj => ?_⟩
    by_cases hj1 : j = i + 1
    · subst hj1
      rw [List.getElem?_set] at hj
      split at hj
      · split at hj <;> cases hj
      · exact absurd rfl ‹_›
    · rw [List.getElem?_set_ne (fun q => hj1 q.symm)] at hj
      by_cases hji : j = i
      · subst hji
        rw [List.getElem?_set] at hj
        split at hj
        · split at hj
          · cases hj
            exact ⟨w, List.mem_cons_self, hv⟩
          · cases hj
        · exact absurd rfl ‹_›
      · rw [List.getElem?_set_ne (fun q => hji q.symm)] at hj
        obtain ⟨h1, h2⟩ := jKl_at hj
        obtain ⟨x, hx, hr⟩ := h j u h1
        refine ⟨x, List.mem_cons_of_mem _ (List.mem_filter.mpr ⟨hx, ?_⟩), hr⟩
        have hc := jVr_cat hr
        simp only [Bool.and_eq_true, Bool.not_eq_true', beq_eq_false_iff_ne, ne_eq, Bool.and_eq_false_iff]
        refine ⟨hji, hj1, ?_⟩
        by_cases hq : j + 1 = i
        · exact Or.inr (fun z => h2 ⟨hq, by rw [← hc]; exact z⟩)
        · exact Or.inl hq
  · cases hs
/-! cells -/
def jFv (fu : Bool) (ws : va_W) (k : Int) (f : Nat) (a : Int) (v : Value) : Prop :=
  ((jFg f = 0 ∨ jFg f = 2) ∧ ∃ x : Int32, v = .int x ∧ a = x.toInt)
  ∨ (jFg f = 1 ∧ ∃ x : Int64, v = .long x ∧ a = x.toInt)
  ∨ ((jFg f = 3 ∨ jFg f = 4) ∧ ((fu = false ∧ a = -1 ∧ v = .null) ∨ (a = k + jFo f ∧ ∃ q, v = .ref q ∧ jRf ws a q)))
  ∨ (jFg f = 5 ∧ ((fu = false ∧ a = -1 ∧ v = .null) ∨ (jKd a = jFt f ∧ ∃ q, v = .ref q ∧ jRf ws a q)))
theorem jFv_ex {fu : Bool} {ws ws' : va_W} {k : Int} {f : Nat} {a : Int} {v : Value} (h : jEx ws ws') (g : jFv fu ws k f a v) : jFv fu ws' k f a v := by
  rcases g with g | g | ⟨g0, g | ⟨g1, q, g2, g3⟩⟩ | ⟨g0, g | ⟨g1, q, g2, g3⟩⟩
  · exact Or.inl g
  · exact Or.inr (Or.inl g)
  · exact Or.inr (Or.inr (Or.inl ⟨g0, Or.inl g⟩))
  · exact Or.inr (Or.inr (Or.inl ⟨g0, Or.inr ⟨g1, q, g2, jRf_ex h g3⟩⟩))
  · exact Or.inr (Or.inr (Or.inr ⟨g0, Or.inl g⟩))
  · exact Or.inr (Or.inr (Or.inr ⟨g0, Or.inr ⟨g1, q, g2, jRf_ex h g3⟩⟩))
/-- a place of an array of references -/
def jAv (fu : Bool) (ws : va_W) (c : Nat) (a : Int) (o : Option Nat) : Prop := (fu = false ∧ a = -1 ∧ o = none) ∨ (jKd a = c ∧ ∃ q, o = some q ∧ jRf ws a q)
theorem jAv_ex {fu : Bool} {ws ws' : va_W} {c : Nat} {a : Int} {o : Option Nat} (h : jEx ws ws') (g : jAv fu ws c a o) : jAv fu ws' c a o := by
  rcases g with g | ⟨g1, q, g2, g3⟩
  · exact Or.inl g
  · exact Or.inr ⟨g1, q, g2, jRf_ex h g3⟩
def jEn (fu : Bool) (ws : va_W) (tys : List (ClassId × FieldType)) (k : Nat) (m : jM) (e : va_E) : Prop :=
  (jKd k < 12 ∧ ∃ vs, e = .inr (jKd k, vs) ∧ vs.length = jNf (jKd k) ∧ ∀ j : Nat, j < jNf (jKd k) → ∃ v, vs[j]? = some v ∧ jFv fu ws k (jFf (jKd k) j) (m k j) v)
  ∨ (jKd k = 20 ∧ ∃ (cA : ClassId) (f : Nat → Int32) (t0 : Nat), e = .inl (cA, (jLn k).toNat, .inl f) ∧ tys[t0]? = some (cA, .int) ∧ ∀ j : Nat, j < (jLn k).toNat → m k j = (f j).toInt)
  ∨ (jKd k = 21 ∧ ∃ (cA : ClassId) (f : Nat → Int64) (t0 : Nat), e = .inl (cA, (jLn k).toNat, .inr (.inl f)) ∧ tys[t0]? = some (cA, .long) ∧ ∀ j : Nat, j < (jLn k).toNat → m k j = (f j).toInt)
  ∨ ((jKd k = 22 ∨ jKd k = 23) ∧ ∃ (cA : ClassId) (f : Nat → Option Nat) (t0 : Nat), e = .inl (cA, (jLn k).toNat, .inr (.inr (.inr (.inr f)))) ∧ tys[t0]? = some (cA, .object (jRn (jKd k - 16))) ∧ ∀ j : Nat, j < (jLn k).toNat → jAv fu ws (jKd k - 16) (m k j) (f j))
theorem jEn_same {fu : Bool} {ws ws' : va_W} {tys tys' : List (ClassId × FieldType)} {k : Nat} {m m' : jM} {e : va_E} (h : jEx ws ws') (ht : ∀ (i : Nat) (q : ClassId × FieldType), tys[i]? = some q → tys'[i]? = some q) (hm : ∀ j, m' k j = m k j) (g : jEn fu ws tys k m e) : jEn fu ws' tys' k m' e := by
  rcases g with ⟨g0, vs, g1, g2, g3⟩ | ⟨g0, cA, f, t0, g1, g2, g3⟩ | ⟨g0, cA, f, t0, g1, g2, g3⟩ | ⟨g0, cA, f, t0, g1, g2, g3⟩
  · refine Or.inl ⟨g0, vs, g1, g2, fun j hj => ?_⟩
    obtain ⟨v, q1, q2⟩ := g3 j hj
    exact ⟨v, q1, by rw [hm]; exact jFv_ex h q2⟩
  · exact Or.inr (Or.inl ⟨g0, cA, f, t0, g1, ht _ _ g2, fun j hj => by rw [hm]; exact g3 j hj⟩)
  · exact Or.inr (Or.inr (Or.inl ⟨g0, cA, f, t0, g1, ht _ _ g2, fun j hj => by rw [hm]; exact g3 j hj⟩))
  · exact Or.inr (Or.inr (Or.inr ⟨g0, cA, f, t0, g1, ht _ _ g2, fun j hj => by rw [hm]; exact jAv_ex h (g3 j hj)⟩))
/-- the world -/
def jWd (fu : Bool) (ws : va_W) (tys : List (ClassId × FieldType)) (m : jM) : Prop :=
  m (-3) 0 = ws.length ∧ ws.length ≤ 161 ∧ (fu = true → ws.length = 161) ∧ ∀ (k a : Nat) (e : va_E), ws[k]? = some (a, e) → jEn fu ws tys k m e
theorem jWd_set {fu : Bool} {ws : va_W} {tys : List (ClassId × FieldType)} {m m' : jM} {k a : Nat} {e e' : va_E} (h : jWd fu ws tys m) (hk : ws[k]? = some (a, e)) (hm : ∀ (q j : Int), q ≠ k → m' q j = m q j) (he : jEn fu (ws.set k (a, e')) tys k m' e') : jWd fu (ws.set k (a, e')) tys m' := by
  obtain ⟨h1, h2, h3, h4⟩ := h
  have hx := jEx_set hk e'
  have hlt : k < ws.length := (List.getElem?_eq_some_iff.mp hk).1
  refine ⟨by rw [hm _ _ (by omega), List.length_set]; exact h1, by rw [List.length_set]; exact h2, fun q => by rw [List.length_set]; exact h3 q, fun j b f hj => ?_⟩
  by_cases hjk : j = k
  · subst hjk
    have : (ws.set j (a, e'))[j]? = some (a, e') := by simp [hlt]
    rw [this] at hj
    cases hj
    exact he
  · rw [List.getElem?_set_ne (fun q => hjk q.symm)] at hj
    exact jEn_same hx (fun _ _ q => q) (fun i => hm _ _ (by omega)) (h4 j b f hj)
theorem jUp_ne {m : jM} {k i v q j : Int} (h : q ≠ k) : jUp m k i v q j = m q j := by
  unfold jUp
  rw [if_neg (fun z => h z.1)]
theorem jUp_eq {m : jM} {k i v : Int} : jUp m k i v k i = v := by
  unfold jUp
  rw [if_pos ⟨rfl, rfl⟩]
theorem jUp_ni {m : jM} {k i v j : Int} (h : j ≠ i) : jUp m k i v k j = m k j := by
  unfold jUp
  rw [if_neg (fun z => h z.2)]
theorem jWd_iast {fu : Bool} {ws : va_W} {tys : List (ClassId × FieldType)} {m : jM} {k a i : Nat} {cA : ClassId} {n t0 : Nat} {f : Nat → Int32} (h : jWd fu ws tys m) (hk : ws[k]? = some (a, .inl (cA, n, .inl f))) (hd : jKd k = 20) (ht : tys[t0]? = some (cA, .int)) (hn : n = (jLn k).toNat) (hf : ∀ j : Nat, j < n → m k j = (f j).toInt) (x : Int32) :
    jWd fu (ws.set k (a, .inl (cA, n, .inl (upd f i x)))) tys (jUp m k i x.toInt) := by
  refine jWd_set h hk (fun q j hq => jUp_ne hq) (Or.inr (Or.inl ⟨hd, cA, _, t0, by rw [hn], ht, fun j hj => ?_⟩))
  by_cases hji : j = i
  · subst hji
    rw [jUp_eq]
    simp [upd]
  · rw [jUp_ni (by omega), hf j (by omega)]
    simp [upd, hji]
theorem jWd_last {fu : Bool} {ws : va_W} {tys : List (ClassId × FieldType)} {m : jM} {k a i : Nat} {cA : ClassId} {n t0 : Nat} {f : Nat → Int64} (h : jWd fu ws tys m) (hk : ws[k]? = some (a, .inl (cA, n, .inr (.inl f)))) (hd : jKd k = 21) (ht : tys[t0]? = some (cA, .long)) (hn : n = (jLn k).toNat) (hf : ∀ j : Nat, j < n → m k j = (f j).toInt) (x : Int64) :
    jWd fu (ws.set k (a, .inl (cA, n, .inr (.inl (vp_updL f i x))))) tys (jUp m k i x.toInt) := by
  refine jWd_set h hk (fun q j hq => jUp_ne hq) (Or.inr (Or.inr (Or.inl ⟨hd, cA, _, t0, by rw [hn], ht, fun j hj => ?_⟩)))
  by_cases hji : j = i
  · subst hji
    rw [jUp_eq]
    simp [vp_updL]
  · rw [jUp_ni (by omega), hf j (by omega)]
    simp [vp_updL, hji]
theorem jWd_aast {fu : Bool} {ws : va_W} {tys : List (ClassId × FieldType)} {m : jM} {k a i : Nat} {cA : ClassId} {n t0 q : Nat} {f : Nat → Option Nat} {b : Int} (h : jWd fu ws tys m) (hk : ws[k]? = some (a, .inl (cA, n, .inr (.inr (.inr (.inr f)))))) (hd : jKd k = 22 ∨ jKd k = 23) (ht : tys[t0]? = some (cA, .object (jRn (jKd k - 16)))) (hn : n = (jLn k).toNat) (hf : ∀ j : Nat, j < n → jAv fu ws (jKd k - 16) (m k j) (f j)) (hb : jKd b = jKd k - 16) (hq : jRf ws b q) :
    jWd fu (ws.set k (a, .inl (cA, n, .inr (.inr (.inr (.inr (va_up f i (some q)))))))) tys (jUp m k i b) := by
  have hx := jEx_set hk (.inl (cA, n, .inr (.inr (.inr (.inr (va_up f i (some q)))))))
  refine jWd_set h hk (fun q j hq => jUp_ne hq) (Or.inr (Or.inr (Or.inr ⟨hd, cA, _, t0, by rw [hn], ht, fun j hj => ?_⟩)))
  by_cases hji : j = i
  · subst hji
    rw [jUp_eq]
    exact Or.inr ⟨hb, q, by simp [va_up], jRf_ex hx hq⟩
  · rw [jUp_ni (by omega)]
    have := jAv_ex hx (hf j (by omega))
    simpa [va_up, hji] using this
theorem jWd_put {fu : Bool} {ws : va_W} {tys : List (ClassId × FieldType)} {m : jM} {k a j : Nat} {vs : List Value} {b : Int} {v : Value} (h : jWd fu ws tys m) (hk : ws[k]? = some (a, .inr (jKd k, vs))) (hd : jKd k < 12) (hl : vs.length = jNf (jKd k)) (hf : ∀ j : Nat, j < jNf (jKd k) → ∃ v, vs[j]? = some v ∧ jFv fu ws k (jFf (jKd k) j) (m k j) v) (hj : j < jNf (jKd k)) (hv : jFv fu ws k (jFf (jKd k) j) b v) :
    jWd fu (ws.set k (a, .inr (jKd k, vs.set j v))) tys (jUp m k j b) := by
  have hx := jEx_set hk (.inr (jKd k, vs.set j v))
  refine jWd_set h hk (fun q j hq => jUp_ne hq) (Or.inl ⟨hd, vs.set j v, rfl, by rw [List.length_set]; exact hl, fun i hi => ?_⟩)
  by_cases hji : i = j
  · subst hji
    refine ⟨v, by simp [hl, hj], ?_⟩
    rw [jUp_eq]
    exact jFv_ex hx hv
  · obtain ⟨v', q1, q2⟩ := hf i hi
    refine ⟨v', by rw [List.getElem?_set_ne (fun q => hji q.symm)]; exact q1, ?_⟩
    rw [jUp_ni (by omega)]
    exact jFv_ex hx q2
/-- what lies at a cell of a kind -/
theorem jWd_int {fu : Bool} {ws : va_W} {tys : List (ClassId × FieldType)} {m : jM} {k : Int} {a : Nat} (h : jWd fu ws tys m) (hr : jRf ws k a) (hd : jKd k = 20) : ∃ (cA : ClassId) (f : Nat → Int32) (t0 : Nat), ws[k.toNat]? = some (a, .inl (cA, (jLn k).toNat, .inl f)) ∧ tys[t0]? = some (cA, .int) ∧ ∀ j : Nat, j < (jLn k).toNat → m k j = (f j).toInt := by
  obtain ⟨h0, e, he⟩ := hr
  obtain ⟨k, rfl⟩ := Int.eq_ofNat_of_zero_le h0
  rcases h.2.2.2 _ _ _ he with ⟨g0, _⟩ | ⟨g0, cA, f, t0, g1, g2, g3⟩ | ⟨g0, _⟩ | ⟨g0, _⟩
  · exact absurd g0 (by simp only [Int.toNat_natCast]; omega)
  · subst g1; exact ⟨cA, f, t0, he, g2, g3⟩
  · exact absurd g0 (by simp only [Int.toNat_natCast]; omega)
  · exact absurd g0 (by simp only [Int.toNat_natCast]; omega)
theorem jWd_lng {fu : Bool} {ws : va_W} {tys : List (ClassId × FieldType)} {m : jM} {k : Int} {a : Nat} (h : jWd fu ws tys m) (hr : jRf ws k a) (hd : jKd k = 21) : ∃ (cA : ClassId) (f : Nat → Int64) (t0 : Nat), ws[k.toNat]? = some (a, .inl (cA, (jLn k).toNat, .inr (.inl f))) ∧ tys[t0]? = some (cA, .long) ∧ ∀ j : Nat, j < (jLn k).toNat → m k j = (f j).toInt := by
  obtain ⟨h0, e, he⟩ := hr
  obtain ⟨k, rfl⟩ := Int.eq_ofNat_of_zero_le h0
  rcases h.2.2.2 _ _ _ he with ⟨g0, _⟩ | ⟨g0, _⟩ | ⟨g0, cA, f, t0, g1, g2, g3⟩ | ⟨g0, _⟩
  · exact absurd g0 (by simp only [Int.toNat_natCast]; omega)
  · exact absurd g0 (by simp only [Int.toNat_natCast]; omega)
  · subst g1; exact ⟨cA, f, t0, he, g2, g3⟩
  · exact absurd g0 (by simp only [Int.toNat_natCast]; omega)
theorem jWd_ref {fu : Bool} {ws : va_W} {tys : List (ClassId × FieldType)} {m : jM} {k : Int} {a : Nat} (h : jWd fu ws tys m) (hr : jRf ws k a) (hd : jKd k = 22 ∨ jKd k = 23) : ∃ (cA : ClassId) (f : Nat → Option Nat) (t0 : Nat), ws[k.toNat]? = some (a, .inl (cA, (jLn k).toNat, .inr (.inr (.inr (.inr f))))) ∧ tys[t0]? = some (cA, .object (jRn (jKd k - 16))) ∧ ∀ j : Nat, j < (jLn k).toNat → jAv fu ws (jKd k - 16) (m k j) (f j) := by
  obtain ⟨h0, e, he⟩ := hr
  obtain ⟨k, rfl⟩ := Int.eq_ofNat_of_zero_le h0
  rcases h.2.2.2 _ _ _ he with ⟨g0, _⟩ | ⟨g0, _⟩ | ⟨g0, _⟩ | ⟨g0, cA, f, t0, g1, g2, g3⟩
  · exact absurd g0 (by simp only [Int.toNat_natCast]; omega)
  · exact absurd g0 (by simp only [Int.toNat_natCast]; omega)
  · exact absurd g0 (by simp only [Int.toNat_natCast]; omega)
  · subst g1; exact ⟨cA, f, t0, he, g2, g3⟩
theorem jWd_obj {fu : Bool} {ws : va_W} {tys : List (ClassId × FieldType)} {m : jM} {k : Int} {a : Nat} (h : jWd fu ws tys m) (hr : jRf ws k a) (hd : jKd k < 12) : ∃ vs, ws[k.toNat]? = some (a, .inr (jKd k, vs)) ∧ vs.length = jNf (jKd k) ∧ ∀ j : Nat, j < jNf (jKd k) → ∃ v, vs[j]? = some v ∧ jFv fu ws k (jFf (jKd k) j) (m k j) v := by
  obtain ⟨h0, e, he⟩ := hr
  obtain ⟨k, rfl⟩ := Int.eq_ofNat_of_zero_le h0
  rcases h.2.2.2 _ _ _ he with ⟨g0, vs, g1, g2, g3⟩ | ⟨g0, _⟩ | ⟨g0, _⟩ | ⟨g0, _⟩
  · subst g1; exact ⟨vs, he, g2, g3⟩
  · exact absurd g0 (by simp only [Int.toNat_natCast]; omega)
  · exact absurd g0 (by simp only [Int.toNat_natCast]; omega)
  · exact absurd g0 (by simp only [Int.toNat_natCast]; omega)
end
section
/-! numbers: the machine's ints and longs against Int -/
theorem jn_add (x y : Int32) : w32 (x.toInt + y.toInt) = (x + y).toInt := (Int32.toInt_add x y).symm
theorem jn_sub (x y : Int32) : w32 (x.toInt - y.toInt) = (x - y).toInt := (Int32.toInt_sub x y).symm
theorem jn_mul (x y : Int32) : w32 (x.toInt * y.toInt) = (x * y).toInt := (Int32.toInt_mul x y).symm
theorem jn_div (x y : Int32) : iDiv x.toInt y.toInt = (x / y).toInt := (Int32.toInt_div x y).symm
theorem jn_ofI (x : Int32) : Int32.ofInt x.toInt = x := Int32.ofInt_toInt x
theorem jn_ofL (x : Int64) : Int64.ofInt x.toInt = x := Int64.ofInt_toInt x
theorem jn_and (x y : Int32) : iAnd x.toInt y.toInt = (x &&& y).toInt := by unfold iAnd; rw [jn_ofI, jn_ofI]
theorem jn_or (x y : Int32) : iOr x.toInt y.toInt = (x ||| y).toInt := by unfold iOr; rw [jn_ofI, jn_ofI]
theorem jn_xor (x y : Int32) : iXor x.toInt y.toInt = (x ^^^ y).toInt := by unfold iXor; rw [jn_ofI, jn_ofI]
theorem jn_shl (x y : Int32) : iShl x.toInt y.toInt = (x <<< (y &&& 31)).toInt := by unfold iShl; rw [jn_ofI, jn_ofI]
theorem jn_shr (x y : Int32) : iShr x.toInt y.toInt = (x >>> (y &&& 31)).toInt := by unfold iShr; rw [jn_ofI, jn_ofI]
theorem jn_ushr (x y : Int32) : iUshr x.toInt y.toInt = ((x.toUInt32 >>> (y.toUInt32 &&& Int32.toUInt32 31)).toInt32).toInt := by unfold iUshr; rw [jn_ofI, jn_ofI]
theorem jn_rem (x y : Int32) : iRem x.toInt y.toInt = (x - x / y * y).toInt := by
  rw [Int32.toInt_sub, Int32.toInt_mul, Int32.toInt_div]
  unfold iRem
  have h1 := Int.tdiv_mul_add_tmod x.toInt y.toInt
  have h3 : ∀ u : Int32, u.toInt.bmod (2 ^ 32) = u.toInt := fun u => by rw [← Int32.toInt_ofInt, Int32.ofInt_toInt]
  have h2 : (x.toInt.tmod y.toInt).bmod (2 ^ 32) = x.toInt.tmod y.toInt := by
    have h4 := h3 (x % y)
    rwa [Int32.toInt_mod] at h4
  rw [Int.bmod_mul_bmod, Int.sub_bmod_bmod, ← h2]
  congr 1
  omega
theorem jn_ladd (x y : Int64) : w64 (x.toInt + y.toInt) = (x + y).toInt := (Int64.toInt_add x y).symm
theorem jn_lsub (x y : Int64) : w64 (x.toInt - y.toInt) = (x - y).toInt := (Int64.toInt_sub x y).symm
theorem jn_lmul (x y : Int64) : w64 (x.toInt * y.toInt) = (x * y).toInt := (Int64.toInt_mul x y).symm
theorem jn_lneg (x : Int64) : w64 (-x.toInt) = (-x).toInt := (Int64.toInt_neg x).symm
theorem jn_ldiv (x y : Int64) : lDiv x.toInt y.toInt = (x / y).toInt := (Int64.toInt_div x y).symm
theorem jn_land (x y : Int64) : lAnd x.toInt y.toInt = (x &&& y).toInt := by unfold lAnd; rw [jn_ofL, jn_ofL]
theorem jn_lor (x y : Int64) : lOr x.toInt y.toInt = (x ||| y).toInt := by unfold lOr; rw [jn_ofL, jn_ofL]
theorem jn_lxor (x y : Int64) : lXor x.toInt y.toInt = (x ^^^ y).toInt := by unfold lXor; rw [jn_ofL, jn_ofL]
theorem jn_lshl (x : Int64) (y : Int32) : lShl x.toInt y.toInt = (x <<< (y.toInt64 &&& 63)).toInt := by unfold lShl; rw [jn_ofL, jn_ofI]
theorem jn_lrem (x y : Int64) : lRem x.toInt y.toInt = (x - x / y * y).toInt := by
  rw [Int64.toInt_sub, Int64.toInt_mul, Int64.toInt_div]
  unfold lRem
  have h1 := Int.tdiv_mul_add_tmod x.toInt y.toInt
  have h3 : ∀ u : Int64, u.toInt.bmod (2 ^ 64) = u.toInt := fun u => by rw [← Int64.toInt_ofInt, Int64.ofInt_toInt]
  have h2 : (x.toInt.tmod y.toInt).bmod (2 ^ 64) = x.toInt.tmod y.toInt := by
    have h4 := h3 (x % y)
    rwa [Int64.toInt_mod] at h4
  rw [Int.bmod_mul_bmod, Int.sub_bmod_bmod, ← h2]
  congr 1
  omega
theorem jn_i2l (x : Int32) : x.toInt = (x.toInt64).toInt := by simp
theorem jn_l2i (x : Int64) : w32 x.toInt = (x.toInt32).toInt := by unfold w32; simp
theorem jn_i2b (x : Int32) : i2b x.toInt = (x.toInt8.toInt32).toInt := by unfold i2b; simp
theorem jn_iconst {v : Int} (h : v.bmod 4294967296 = v) : v = (Int32.ofInt v).toInt := by rw [Int32.toInt_ofInt]; exact h.symm
theorem jn_bipush {v : Int} (h : v.bmod 256 = v) : v = ((Int8.ofInt v).toInt32).toInt := by rw [Int8.toInt_toInt32, Int8.toInt_ofInt]; exact h.symm
theorem jn_sipush {v : Int} (h : v.bmod 65536 = v) : v = ((Int16.ofInt v).toInt32).toInt := by rw [Int16.toInt_toInt32, Int16.toInt_ofInt]; exact h.symm
theorem jn_lconst (k : Fin 2) : ((k.val : Nat) : Int) = (Int64.ofNat k.val).toInt := by
  match k with
  | 0 => rfl
  | 1 => rfl
theorem jn_iinc (x : Int32) (n : Int) : w32 (x.toInt + n) = (x + Int32.ofInt n).toInt := by
  rw [Int32.toInt_add, Int32.toInt_ofInt]
  unfold w32
  exact (Int.add_bmod_bmod).symm
theorem jn_lt {x y : Int32} : x < y ↔ x.toInt < y.toInt := Int32.lt_iff_toInt_lt
theorem jn_le {x y : Int32} : x ≤ y ↔ x.toInt ≤ y.toInt := Int32.le_iff_toInt_le
theorem jn_eq {x y : Int32} : x = y ↔ x.toInt = y.toInt := Int32.toInt_inj.symm
theorem jn_llt {x y : Int64} : x < y ↔ x.toInt < y.toInt := Int64.lt_iff_toInt_lt
theorem jn_leq {x y : Int64} : x = y ↔ x.toInt = y.toInt := Int64.toInt_inj.symm
theorem jn_0 : (0 : Int32).toInt = 0 := by decide
theorem jn_in {x : Int32} {n : Int} (h : 0 ≤ x.toInt ∧ x.toInt < n) : vp_in x n.toNat := vp_in_iff.mpr ⟨h.1, by omega⟩
theorem jn_cl {x : Int32} (h : 0 ≤ x.toInt) : (x.toNatClampNeg : Int) = x.toInt := by
  have hc : x.toNatClampNeg = x.toInt.toNat := rfl
  omega
/-- lcmp, then a branch -/
theorem jn_cmp (x y : Int64) : (lg_cmp x y).toInt = if y.toInt < x.toInt then 1 else if x.toInt = y.toInt then 0 else -1 := by
  unfold lg_cmp
  by_cases h : y < x
  · rw [if_pos h, if_pos (jn_llt.mp h)]; decide
  · rw [if_neg h, if_neg (fun q => h (jn_llt.mpr q))]
    by_cases h2 : x = y
    · rw [if_pos h2, if_pos (jn_leq.mp h2)]; decide
    · rw [if_neg h2, if_neg (fun q => h2 (jn_leq.mpr q))]; decide
theorem jn_w32 (a : Int) : w32 a = (Int32.ofInt (w32 a)).toInt := by rw [Int32.toInt_ofInt]; unfold w32; exact (Int.bmod_bmod).symm
end
section
/-! THE ROWS: one abstract step is steps of the machine -/
def jOf : Nat → Nat
  | 0 => 0
  | k + 1 => jOf k + (jLn k).toNat
def jSr (ws : va_W) (sb : Option (Nat × Nat)) : List jV → List Value → Prop
  | [], [] => True
  | v :: a, w :: b => jVr ws sb v w ∧ jSr ws sb a b
  | _, _ => False
theorem jSr_ex {ws ws' : va_W} {sb : Option (Nat × Nat)} (h : jEx ws ws') : ∀ {a : List jV} {b : List Value}, jSr ws sb a b → jSr ws' sb a b
  | [], [], g => g
  | _ :: _, _ :: _, g => ⟨jVr_ex h g.1, jSr_ex h g.2⟩
theorem jSr_cats {ws : va_W} {sb : Option (Nat × Nat)} : ∀ {a : List jV} {b : List Value}, jSr ws sb a b → (b.map fun v => v.category).sum = jCats a
  | [], [], _ => rfl
  | v :: a, w :: b, g => by
    have h1 := jVr_cat g.1
    have h2 := jSr_cats g.2
    simp only [List.map_cons, List.sum_cons, jCats] at h2 ⊢
    rw [h1, h2]
def jSx (s : State) (A : Nat → Prop) (H0 : Heap) (sb : Option (Nat × Nat)) (g : Int → Int) : Prop :=
  ∀ b L : Nat, sb = some (b, L) → L < 2 ^ 31 ∧ ∃ xs : Nat → Int32, va_X b L xs s H0 ∧ b < H0.size ∧ ¬ A b ∧ ∀ j : Nat, j < L → g j = (xs j).toInt
def jCx (p : Program) (R : Room) (s : State) (mi : MethodId) (args : Array Value) (meth : Method) (c : Code) (A : Nat → Prop) (H0 : Heap) (Ts : List Jvm.Cond) (z : Nat) (fu : Bool) (sb : Option (Nat × Nat)) (g : Int → Int) : Prop :=
  p.tables.exec = Jvm.exec ∧ c.code = jBy z ∧ c.maxLocals = jMx z ∧ s.vm.findClass (jRn (jCl z)) = some mi.cls ∧ (∀ w ∈ Ts, w.before args s = true) ∧ (∀ w ∈ jBW, w ∈ Ts) ∧ (∀ w ∈ jNests, va_Nw w s) ∧ (va_AO RX6 s ∧ va_AO RX7 s) ∧ (∀ q, H0.size ≤ q → A q) ∧ (1 ≤ R.frames ∧ 60 ≤ R.locals) ∧ (jMd z = 0 → fu = true) ∧ (jMd z = 1 → fu = false ∧ (meth.name = "<init>" ∨ jCl z = 12)) ∧ jSx s A H0 sb g
def jBd (R : Room) (z n0 : Nat) (ws : va_W) (m : jM) (cells slots : Nat) : Prop :=
  cells + n0 = ws.length ∧ slots + jOf n0 = jOf ws.length ∧ (jMd z = 1 → m (-2) (-7) = ((n0 + jMc z : Nat) : Int) ∧ jMc z ≤ R.cells ∧ jOf (n0 + jMc z) ≤ R.slots + jOf n0 ∧ n0 + jMc z ≤ 161 ∧ ws.length ≤ n0 + jMc z) ∧ (jMd z ≠ 1 → ws.length = n0)
def jRel (R : Room) (s : State) (D : va_G) (A : Nat → Prop) (H0 : Heap) (z : Nat) (fu : Bool) (sb : Option (Nat × Nat)) (g : Int → Int) (n0 : Nat) (ws0 : va_W) (H : Heap) (locs : List Loc) (cells slots : Nat) (ws : va_W) (tys : List (ClassId × FieldType)) (lsR : Array Slot) (stR : List Value) (ls : jS) (st : List jV) (m : jM) : Prop :=
  (va_P D jVc ws H ∧ va_D A ws ∧ va_K D jVc tys s ∧ va_S A H0 H locs ∧ jWd fu ws tys m) ∧ jLr ws sb (jMx z) ls lsR ∧ jSr ws sb st stR ∧ (∀ j, m (-2) j = g j) ∧ jBd R z n0 ws m cells slots ∧ jEx ws0 ws
def jP (p : Program) (l : Launch) (e : Env) (R : Room) (s : State) (mi : MethodId) (args : Array Value) (below : List Frame) (meth : Method) (c : Code) (Qf : State → Prop) (D : va_G) (A : Nat → Prop) (H0 : Heap) (z : Nat) (fu : Bool) (sb : Option (Nat × Nat)) (g : Int → Int) (n0 : Nat) (ws0 : va_W) (pc : Nat) (ls : jS) (st : List jV) (m : jM) : Prop :=
  ∀ (H : Heap) (locs : List Loc) (cells slots : Nat) (ws : va_W) (tys : List (ClassId × FieldType)) (lsR : Array Slot) (stR : List Value), jRel R s D A H0 z fu sb g n0 ws0 H locs cells slots ws tys lsR stR ls st m → W p l e R s mi args below meth c H locs cells slots Qf (F0 mi pc lsR stR)
section INV
variable {z : Nat} {C : Nat → List jV → jM → (Int → jM → Prop) → Prop} {X : Nat → jS → List jV → jM → Prop} {Q : Int → jM → Prop} {pc len : Nat} {ls : jS} {m : jM}
theorem jI1_inv {st : List jV} {k : Int → List jV → Option jE} (h : jStp z C X Q pc len ls m (jI1 st k)) : ∃ a r, st = .inl a :: r ∧ jStp z C X Q pc len ls m (k a r) := by
  match st, h with
  | .inl a :: r, h => exact ⟨a, r, rfl, h⟩
theorem jL1_inv {st : List jV} {k : Int → List jV → Option jE} (h : jStp z C X Q pc len ls m (jL1 st k)) : ∃ a r, st = .inr (.inl a) :: r ∧ jStp z C X Q pc len ls m (k a r) := by
  match st, h with
  | .inr (.inl a) :: r, h => exact ⟨a, r, rfl, h⟩
theorem jR1_inv {st : List jV} {k : (Nat × Int) ⊕ (Nat × Int × Int) → List jV → Option jE} (h : jStp z C X Q pc len ls m (jR1 st k)) : ∃ a r, st = .inr (.inr a) :: r ∧ jStp z C X Q pc len ls m (k a r) := by
  match st, h with
  | .inr (.inr a) :: r, h => exact ⟨a, r, rfl, h⟩
theorem jO1_inv {st : List jV} {k : Nat → Int → List jV → Option jE} (h : jStp z C X Q pc len ls m (jO1 st k)) : ∃ c a r, st = .inr (.inr (.inl (c, a))) :: r ∧ jStp z C X Q pc len ls m (k c a r) := by
  match st, h with
  | .inr (.inr (.inl (c, a))) :: r, h => exact ⟨c, a, r, rfl, h⟩
theorem jY1_inv {st : List jV} {k : Nat → Int → Int → List jV → Option jE} (h : jStp z C X Q pc len ls m (jY1 st k)) : ∃ t n a r, st = .inr (.inr (.inr (t, n, a))) :: r ∧ jStp z C X Q pc len ls m (k t n a r) := by
  match st, h with
  | .inr (.inr (.inr (t, n, a))) :: r, h => exact ⟨t, n, a, r, rfl, h⟩
theorem jV1_inv {st : List jV} {k : jV → List jV → Option jE} (h : jStp z C X Q pc len ls m (jV1 st k)) : ∃ v r, st = v :: r ∧ jStp z C X Q pc len ls m (k v r) := by
  match st, h with
  | v :: r, h => exact ⟨v, r, rfl, h⟩
theorem jLi_inv {i : Nat} {k : Int → Option jE} (h : jStp z C X Q pc len ls m (jLi ls i k)) : ∃ a, ls[i]? = some (some (.inl a)) ∧ jStp z C X Q pc len ls m (k a) := by
  unfold jLi at h
  split at h
  · exact ⟨_, ‹_›, h⟩
  · exact h.elim
theorem jLl_inv {i : Nat} {k : Int → Option jE} (h : jStp z C X Q pc len ls m (jLl ls i k)) : ∃ a, ls[i]? = some (some (.inr (.inl a))) ∧ jStp z C X Q pc len ls m (k a) := by
  unfold jLl at h
  split at h
  · exact ⟨_, ‹_›, h⟩
  · exact h.elim
theorem jLa_inv {i : Nat} {k : (Nat × Int) ⊕ (Nat × Int × Int) → Option jE} (h : jStp z C X Q pc len ls m (jLa ls i k)) : ∃ a, ls[i]? = some (some (.inr (.inr a))) ∧ jStp z C X Q pc len ls m (k a) := by
  unfold jLa at h
  split at h
  · exact ⟨_, ‹_›, h⟩
  · exact h.elim
theorem jIf_inv {c : Prop} [Decidable c] {e : Option jE} (h : jStp z C X Q pc len ls m (jIf c e)) : c ∧ jStp z C X Q pc len ls m e := by
  unfold jIf at h
  split at h
  · exact ⟨‹_›, h⟩
  · exact h.elim
theorem jLs_inv {o : Option jS} {p : Nat} {st : List jV} {m' : jM} (h : jStp z C X Q pc len ls m (jLs o p st m')) : ∃ ls', o = some ls' ∧ X p ls' st m' := by
  match o, h with
  | some ls', h =>
    simp only [jLs, jFor_eq] at h
    exact ⟨ls', rfl, h⟩
end INV
section ROWS
variable {p : Program} {l : Launch} {e : Env} {R : Room} {s : State} {mi : MethodId} {args : Array Value} {below : List Frame} {meth : Method} {c : Code} {Qf : State → Prop} {D : va_G} {A : Nat → Prop} {H0 : Heap} {Ts : List Jvm.Cond} {z : Nat} {fu : Bool} {sb : Option (Nat × Nat)} {g : Int → Int} {n0 : Nat} {ws0 : va_W}
variable {pc : Nat} {ls : jS} {st : List jV} {m : jM} {C : Nat → List jV → jM → (Int → jM → Prop) → Prop} {Q : Int → jM → Prop}
variable {H : Heap} {locs : List Loc} {cells slots : Nat} {ws : va_W} {tys : List (ClassId × FieldType)} {lsR : Array Slot} {stR : List Value}
theorem jRel_v {v : jV} {r : List jV} (h : jRel R s D A H0 z fu sb g n0 ws0 H locs cells slots ws tys lsR stR ls (v :: r) m) : ∃ w rR, stR = w :: rR ∧ jVr ws sb v w ∧ jRel R s D A H0 z fu sb g n0 ws0 H locs cells slots ws tys lsR rR ls r m := by
  obtain ⟨h1, h2, h3, h4⟩ := h
  match stR, h3 with
  | w :: rR, h3 => exact ⟨w, rR, rfl, h3.1, h1, h2, h3.2, h4⟩
theorem jRel_i {a : Int} {r : List jV} (h : jRel R s D A H0 z fu sb g n0 ws0 H locs cells slots ws tys lsR stR ls (.inl a :: r) m) : ∃ (x : Int32) (rR : List Value), stR = .int x :: rR ∧ a = x.toInt ∧ jRel R s D A H0 z fu sb g n0 ws0 H locs cells slots ws tys lsR rR ls r m := by
  obtain ⟨w, rR, rfl, ⟨x, rfl, hx⟩, h2⟩ := jRel_v h
  exact ⟨x, rR, rfl, hx, h2⟩
theorem jRel_l {a : Int} {r : List jV} (h : jRel R s D A H0 z fu sb g n0 ws0 H locs cells slots ws tys lsR stR ls (.inr (.inl a) :: r) m) : ∃ (x : Int64) (rR : List Value), stR = .long x :: rR ∧ a = x.toInt ∧ jRel R s D A H0 z fu sb g n0 ws0 H locs cells slots ws tys lsR rR ls r m := by
  obtain ⟨w, rR, rfl, ⟨x, rfl, hx⟩, h2⟩ := jRel_v h
  exact ⟨x, rR, rfl, hx, h2⟩
theorem jVr_ref {a : (Nat × Int) ⊕ (Nat × Int × Int)} {w : Value} (h : jVr ws sb (.inr (.inr a)) w) : ∃ q, w = .ref q := by
  match a, h with
  | .inl (c, k), ⟨_, q, h, _⟩ => exact ⟨q, h⟩
  | .inr (t, n, k), h =>
    rcases h with ⟨_, _, _, q, h, _⟩ | ⟨_, b, L, _, _, _, h⟩
    · exact ⟨q, h⟩
    · exact ⟨b, h⟩
theorem jRel_r {a : (Nat × Int) ⊕ (Nat × Int × Int)} {r : List jV} (h : jRel R s D A H0 z fu sb g n0 ws0 H locs cells slots ws tys lsR stR ls (.inr (.inr a) :: r) m) : ∃ (q : Nat) (rR : List Value), stR = .ref q :: rR ∧ jVr ws sb (.inr (.inr a)) (.ref q) ∧ jRel R s D A H0 z fu sb g n0 ws0 H locs cells slots ws tys lsR rR ls r m := by
  obtain ⟨w, rR, rfl, hv, h2⟩ := jRel_v h
  obtain ⟨q, rfl⟩ := jVr_ref hv
  exact ⟨q, rR, rfl, hv, h2⟩
theorem jRel_pv {v : jV} {w : Value} (h : jRel R s D A H0 z fu sb g n0 ws0 H locs cells slots ws tys lsR stR ls st m) (hv : jVr ws sb v w) : jRel R s D A H0 z fu sb g n0 ws0 H locs cells slots ws tys lsR (w :: stR) ls (v :: st) m :=
  ⟨h.1, h.2.1, ⟨hv, h.2.2.1⟩, h.2.2.2⟩
theorem jRel_pi {a : Int} {x : Int32} (h : jRel R s D A H0 z fu sb g n0 ws0 H locs cells slots ws tys lsR stR ls st m) (hv : a = x.toInt) : jRel R s D A H0 z fu sb g n0 ws0 H locs cells slots ws tys lsR (.int x :: stR) ls (.inl a :: st) m := jRel_pv h ⟨x, rfl, hv⟩
theorem jRel_pl {a : Int} {x : Int64} (h : jRel R s D A H0 z fu sb g n0 ws0 H locs cells slots ws tys lsR stR ls st m) (hv : a = x.toInt) : jRel R s D A H0 z fu sb g n0 ws0 H locs cells slots ws tys lsR (.long x :: stR) ls (.inr (.inl a) :: st) m := jRel_pv h ⟨x, rfl, hv⟩
theorem jRel_at {i : Nat} {v : jV} (h : jRel R s D A H0 z fu sb g n0 ws0 H locs cells slots ws tys lsR stR ls st m) (hv : ls[i]? = some (some v)) : ∃ w, lsR[i]? = some (.val w) ∧ jVr ws sb v w := jLr_at h.2.1 hv
/-- a store of one word: the machine's list of locals, and the tie behind it -/
theorem jRel_s1 {i : Nat} {v : jV} {w : Value} {ls' : jS} (h : jRel R s D A H0 z fu sb g n0 ws0 H locs cells slots ws tys lsR stR ls st m) (hs : jSt1 ls i v = some ls') (hv : jVr ws sb v w) :
    ∃ lv, lv_has lsR (jMx z) lv ∧ i < jMx z ∧ (∀ (k : Nat) (u : jV), ls[k]? = some (some u) → ∃ x, (k, x) ∈ lv ∧ jVr ws sb u x) ∧ ∀ lsR', lv_has lsR' (jMx z) ((i, w) :: lv.filter (fun q => !(q.1 == i) && !(q.1 + 1 == i && q.2.category == 2))) → jRel R s D A H0 z fu sb g n0 ws0 H locs cells slots ws tys lsR' stR ls' st m := by
  obtain ⟨h1, ⟨h2, lv, h3, h4⟩, h5⟩ := h
  obtain ⟨k1, k2, k3⟩ := jSt1_ok h4 hs hv
  exact ⟨lv, h3, by omega, h4, fun lsR' hl => ⟨h1, ⟨k1.trans h2, _, hl, k3⟩, h5⟩⟩
theorem jRel_s2 {i : Nat} {v : jV} {w : Value} {ls' : jS} (h : jRel R s D A H0 z fu sb g n0 ws0 H locs cells slots ws tys lsR stR ls st m) (hs : jSt2 ls i v = some ls') (hv : jVr ws sb v w) :
    ∃ lv, lv_has lsR (jMx z) lv ∧ i + 1 < jMx z ∧ ∀ lsR', lv_has lsR' (jMx z) ((i, w) :: lv.filter (fun q => !(q.1 == i) && (!(q.1 == i + 1) && !(q.1 + 1 == i && q.2.category == 2)))) → jRel R s D A H0 z fu sb g n0 ws0 H locs cells slots ws tys lsR' stR ls' st m := by
  obtain ⟨h1, ⟨h2, lv, h3, h4⟩, h5⟩ := h
  obtain ⟨k1, k2, k3⟩ := jSt2_ok h4 hs hv
  exact ⟨lv, h3, by omega, fun lsR' hl => ⟨h1, ⟨k1.trans h2, _, hl, k3⟩, h5⟩⟩
theorem jr_iadd (hc : jCx p R s mi args meth c A H0 Ts z fu sb g) (hd : decode (jBy z) pc = .ok (.iadd, 1)) (h : jStp z C (jP p l e R s mi args below meth c Qf D A H0 z fu sb g n0 ws0) Q pc 1 ls m (jEff z (.iadd) 1 pc ls st m)) : jP p l e R s mi args below meth c Qf D A H0 z fu sb g n0 ws0 pc ls st m := by
  obtain ⟨b, r, rfl, h1⟩ := jI1_inv h
  obtain ⟨a, r, rfl, h2⟩ := jI1_inv h1
  intro H locs cells slots ws tys lsR stR hr0
  obtain ⟨y, rR, rfl, rfl, hr1⟩ := jRel_i hr0
  obtain ⟨x, rR, rfl, rfl, hr2⟩ := jRel_i hr1
  refine lv_iadd hc.1 hc.2.1 hd ?_
  exact h2 _ _ _ _ _ _ _ _ (jRel_pi hr2 (jn_add x y))
theorem jr_isub (hc : jCx p R s mi args meth c A H0 Ts z fu sb g) (hd : decode (jBy z) pc = .ok (.isub, 1)) (h : jStp z C (jP p l e R s mi args below meth c Qf D A H0 z fu sb g n0 ws0) Q pc 1 ls m (jEff z (.isub) 1 pc ls st m)) : jP p l e R s mi args below meth c Qf D A H0 z fu sb g n0 ws0 pc ls st m := by
  obtain ⟨b, r, rfl, h1⟩ := jI1_inv h
  obtain ⟨a, r, rfl, h2⟩ := jI1_inv h1
  intro H locs cells slots ws tys lsR stR hr0
  obtain ⟨y, rR, rfl, rfl, hr1⟩ := jRel_i hr0
  obtain ⟨x, rR, rfl, rfl, hr2⟩ := jRel_i hr1
  refine lv_isub hc.1 hc.2.1 hd ?_
  exact h2 _ _ _ _ _ _ _ _ (jRel_pi hr2 (jn_sub x y))
theorem jr_imul (hc : jCx p R s mi args meth c A H0 Ts z fu sb g) (hd : decode (jBy z) pc = .ok (.imul, 1)) (h : jStp z C (jP p l e R s mi args below meth c Qf D A H0 z fu sb g n0 ws0) Q pc 1 ls m (jEff z (.imul) 1 pc ls st m)) : jP p l e R s mi args below meth c Qf D A H0 z fu sb g n0 ws0 pc ls st m := by
  obtain ⟨b, r, rfl, h1⟩ := jI1_inv h
  obtain ⟨a, r, rfl, h2⟩ := jI1_inv h1
  intro H locs cells slots ws tys lsR stR hr0
  obtain ⟨y, rR, rfl, rfl, hr1⟩ := jRel_i hr0
  obtain ⟨x, rR, rfl, rfl, hr2⟩ := jRel_i hr1
  refine lv_imul hc.1 hc.2.1 hd ?_
  exact h2 _ _ _ _ _ _ _ _ (jRel_pi hr2 (jn_mul x y))
theorem jr_iand (hc : jCx p R s mi args meth c A H0 Ts z fu sb g) (hd : decode (jBy z) pc = .ok (.iand, 1)) (h : jStp z C (jP p l e R s mi args below meth c Qf D A H0 z fu sb g n0 ws0) Q pc 1 ls m (jEff z (.iand) 1 pc ls st m)) : jP p l e R s mi args below meth c Qf D A H0 z fu sb g n0 ws0 pc ls st m := by
  obtain ⟨b, r, rfl, h1⟩ := jI1_inv h
  obtain ⟨a, r, rfl, h2⟩ := jI1_inv h1
  intro H locs cells slots ws tys lsR stR hr0
  obtain ⟨y, rR, rfl, rfl, hr1⟩ := jRel_i hr0
  obtain ⟨x, rR, rfl, rfl, hr2⟩ := jRel_i hr1
  refine lv_iand hc.1 hc.2.1 hd ?_
  exact h2 _ _ _ _ _ _ _ _ (jRel_pi hr2 (jn_and x y))
theorem jr_ior (hc : jCx p R s mi args meth c A H0 Ts z fu sb g) (hd : decode (jBy z) pc = .ok (.ior, 1)) (h : jStp z C (jP p l e R s mi args below meth c Qf D A H0 z fu sb g n0 ws0) Q pc 1 ls m (jEff z (.ior) 1 pc ls st m)) : jP p l e R s mi args below meth c Qf D A H0 z fu sb g n0 ws0 pc ls st m := by
  obtain ⟨b, r, rfl, h1⟩ := jI1_inv h
  obtain ⟨a, r, rfl, h2⟩ := jI1_inv h1
  intro H locs cells slots ws tys lsR stR hr0
  obtain ⟨y, rR, rfl, rfl, hr1⟩ := jRel_i hr0
  obtain ⟨x, rR, rfl, rfl, hr2⟩ := jRel_i hr1
  refine lv_ior hc.1 hc.2.1 hd ?_
  exact h2 _ _ _ _ _ _ _ _ (jRel_pi hr2 (jn_or x y))
theorem jr_ixor (hc : jCx p R s mi args meth c A H0 Ts z fu sb g) (hd : decode (jBy z) pc = .ok (.ixor, 1)) (h : jStp z C (jP p l e R s mi args below meth c Qf D A H0 z fu sb g n0 ws0) Q pc 1 ls m (jEff z (.ixor) 1 pc ls st m)) : jP p l e R s mi args below meth c Qf D A H0 z fu sb g n0 ws0 pc ls st m := by
  obtain ⟨b, r, rfl, h1⟩ := jI1_inv h
  obtain ⟨a, r, rfl, h2⟩ := jI1_inv h1
  intro H locs cells slots ws tys lsR stR hr0
  obtain ⟨y, rR, rfl, rfl, hr1⟩ := jRel_i hr0
  obtain ⟨x, rR, rfl, rfl, hr2⟩ := jRel_i hr1
  refine lv_ixor hc.1 hc.2.1 hd ?_
  exact h2 _ _ _ _ _ _ _ _ (jRel_pi hr2 (jn_xor x y))
theorem jr_ishl (hc : jCx p R s mi args meth c A H0 Ts z fu sb g) (hd : decode (jBy z) pc = .ok (.ishl, 1)) (h : jStp z C (jP p l e R s mi args below meth c Qf D A H0 z fu sb g n0 ws0) Q pc 1 ls m (jEff z (.ishl) 1 pc ls st m)) : jP p l e R s mi args below meth c Qf D A H0 z fu sb g n0 ws0 pc ls st m := by
  obtain ⟨b, r, rfl, h1⟩ := jI1_inv h
  obtain ⟨a, r, rfl, h2⟩ := jI1_inv h1
  intro H locs cells slots ws tys lsR stR hr0
  obtain ⟨y, rR, rfl, rfl, hr1⟩ := jRel_i hr0
  obtain ⟨x, rR, rfl, rfl, hr2⟩ := jRel_i hr1
  refine lv_ishl hc.1 hc.2.1 hd ?_
  exact h2 _ _ _ _ _ _ _ _ (jRel_pi hr2 (jn_shl x y))
theorem jr_ishr (hc : jCx p R s mi args meth c A H0 Ts z fu sb g) (hd : decode (jBy z) pc = .ok (.ishr, 1)) (h : jStp z C (jP p l e R s mi args below meth c Qf D A H0 z fu sb g n0 ws0) Q pc 1 ls m (jEff z (.ishr) 1 pc ls st m)) : jP p l e R s mi args below meth c Qf D A H0 z fu sb g n0 ws0 pc ls st m := by
  obtain ⟨b, r, rfl, h1⟩ := jI1_inv h
  obtain ⟨a, r, rfl, h2⟩ := jI1_inv h1
  intro H locs cells slots ws tys lsR stR hr0
  obtain ⟨y, rR, rfl, rfl, hr1⟩ := jRel_i hr0
  obtain ⟨x, rR, rfl, rfl, hr2⟩ := jRel_i hr1
  refine lv_ishr hc.1 hc.2.1 hd ?_
  exact h2 _ _ _ _ _ _ _ _ (jRel_pi hr2 (jn_shr x y))
theorem jr_iushr (hc : jCx p R s mi args meth c A H0 Ts z fu sb g) (hd : decode (jBy z) pc = .ok (.iushr, 1)) (h : jStp z C (jP p l e R s mi args below meth c Qf D A H0 z fu sb g n0 ws0) Q pc 1 ls m (jEff z (.iushr) 1 pc ls st m)) : jP p l e R s mi args below meth c Qf D A H0 z fu sb g n0 ws0 pc ls st m := by
  obtain ⟨b, r, rfl, h1⟩ := jI1_inv h
  obtain ⟨a, r, rfl, h2⟩ := jI1_inv h1
  intro H locs cells slots ws tys lsR stR hr0
  obtain ⟨y, rR, rfl, rfl, hr1⟩ := jRel_i hr0
  obtain ⟨x, rR, rfl, rfl, hr2⟩ := jRel_i hr1
  refine lv_iushr hc.1 hc.2.1 hd rfl ?_
  exact h2 _ _ _ _ _ _ _ _ (jRel_pi hr2 (jn_ushr x y))
theorem jr_idiv (hc : jCx p R s mi args meth c A H0 Ts z fu sb g) (hd : decode (jBy z) pc = .ok (.idiv, 1)) (h : jStp z C (jP p l e R s mi args below meth c Qf D A H0 z fu sb g n0 ws0) Q pc 1 ls m (jEff z (.idiv) 1 pc ls st m)) : jP p l e R s mi args below meth c Qf D A H0 z fu sb g n0 ws0 pc ls st m := by
  obtain ⟨b, r, rfl, h1⟩ := jI1_inv h
  obtain ⟨a, r, rfl, h2⟩ := jI1_inv h1
  intro H locs cells slots ws tys lsR stR hr0
  obtain ⟨y, rR, rfl, rfl, hr1⟩ := jRel_i hr0
  obtain ⟨x, rR, rfl, rfl, hr2⟩ := jRel_i hr1
  refine lv_idiv hc.1 hc.2.1 hd (fun q => h2.1 (by rw [q]; exact jn_0)) ?_
  exact h2.2 _ _ _ _ _ _ _ _ (jRel_pi hr2 (jn_div x y))
theorem jr_irem (hc : jCx p R s mi args meth c A H0 Ts z fu sb g) (hd : decode (jBy z) pc = .ok (.irem, 1)) (h : jStp z C (jP p l e R s mi args below meth c Qf D A H0 z fu sb g n0 ws0) Q pc 1 ls m (jEff z (.irem) 1 pc ls st m)) : jP p l e R s mi args below meth c Qf D A H0 z fu sb g n0 ws0 pc ls st m := by
  obtain ⟨b, r, rfl, h1⟩ := jI1_inv h
  obtain ⟨a, r, rfl, h2⟩ := jI1_inv h1
  intro H locs cells slots ws tys lsR stR hr0
  obtain ⟨y, rR, rfl, rfl, hr1⟩ := jRel_i hr0
  obtain ⟨x, rR, rfl, rfl, hr2⟩ := jRel_i hr1
  refine lv_irem hc.1 hc.2.1 hd (fun q => h2.1 (by rw [q]; exact jn_0)) ?_
  exact h2.2 _ _ _ _ _ _ _ _ (jRel_pi hr2 (jn_rem x y))
theorem jr_ladd (hc : jCx p R s mi args meth c A H0 Ts z fu sb g) (hd : decode (jBy z) pc = .ok (.ladd, 1)) (h : jStp z C (jP p l e R s mi args below meth c Qf D A H0 z fu sb g n0 ws0) Q pc 1 ls m (jEff z (.ladd) 1 pc ls st m)) : jP p l e R s mi args below meth c Qf D A H0 z fu sb g n0 ws0 pc ls st m := by
  obtain ⟨b, r, rfl, h1⟩ := jL1_inv h
  obtain ⟨a, r, rfl, h2⟩ := jL1_inv h1
  intro H locs cells slots ws tys lsR stR hr0
  obtain ⟨y, rR, rfl, rfl, hr1⟩ := jRel_l hr0
  obtain ⟨x, rR, rfl, rfl, hr2⟩ := jRel_l hr1
  refine lv_ladd hc.1 hc.2.1 hd ?_
  exact h2 _ _ _ _ _ _ _ _ (jRel_pl hr2 (jn_ladd x y))
theorem jr_lsub (hc : jCx p R s mi args meth c A H0 Ts z fu sb g) (hd : decode (jBy z) pc = .ok (.lsub, 1)) (h : jStp z C (jP p l e R s mi args below meth c Qf D A H0 z fu sb g n0 ws0) Q pc 1 ls m (jEff z (.lsub) 1 pc ls st m)) : jP p l e R s mi args below meth c Qf D A H0 z fu sb g n0 ws0 pc ls st m := by
  obtain ⟨b, r, rfl, h1⟩ := jL1_inv h
  obtain ⟨a, r, rfl, h2⟩ := jL1_inv h1
  intro H locs cells slots ws tys lsR stR hr0
  obtain ⟨y, rR, rfl, rfl, hr1⟩ := jRel_l hr0
  obtain ⟨x, rR, rfl, rfl, hr2⟩ := jRel_l hr1
  refine lv_lsub hc.1 hc.2.1 hd ?_
  exact h2 _ _ _ _ _ _ _ _ (jRel_pl hr2 (jn_lsub x y))
theorem jr_lmul (hc : jCx p R s mi args meth c A H0 Ts z fu sb g) (hd : decode (jBy z) pc = .ok (.lmul, 1)) (h : jStp z C (jP p l e R s mi args below meth c Qf D A H0 z fu sb g n0 ws0) Q pc 1 ls m (jEff z (.lmul) 1 pc ls st m)) : jP p l e R s mi args below meth c Qf D A H0 z fu sb g n0 ws0 pc ls st m := by
  obtain ⟨b, r, rfl, h1⟩ := jL1_inv h
  obtain ⟨a, r, rfl, h2⟩ := jL1_inv h1
  intro H locs cells slots ws tys lsR stR hr0
  obtain ⟨y, rR, rfl, rfl, hr1⟩ := jRel_l hr0
  obtain ⟨x, rR, rfl, rfl, hr2⟩ := jRel_l hr1
  refine lv_lmul hc.1 hc.2.1 hd ?_
  exact h2 _ _ _ _ _ _ _ _ (jRel_pl hr2 (jn_lmul x y))
theorem jr_land (hc : jCx p R s mi args meth c A H0 Ts z fu sb g) (hd : decode (jBy z) pc = .ok (.land, 1)) (h : jStp z C (jP p l e R s mi args below meth c Qf D A H0 z fu sb g n0 ws0) Q pc 1 ls m (jEff z (.land) 1 pc ls st m)) : jP p l e R s mi args below meth c Qf D A H0 z fu sb g n0 ws0 pc ls st m := by
  obtain ⟨b, r, rfl, h1⟩ := jL1_inv h
  obtain ⟨a, r, rfl, h2⟩ := jL1_inv h1
  intro H locs cells slots ws tys lsR stR hr0
  obtain ⟨y, rR, rfl, rfl, hr1⟩ := jRel_l hr0
  obtain ⟨x, rR, rfl, rfl, hr2⟩ := jRel_l hr1
  refine lv_land hc.1 hc.2.1 hd ?_
  exact h2 _ _ _ _ _ _ _ _ (jRel_pl hr2 (jn_land x y))
theorem jr_lor (hc : jCx p R s mi args meth c A H0 Ts z fu sb g) (hd : decode (jBy z) pc = .ok (.lor, 1)) (h : jStp z C (jP p l e R s mi args below meth c Qf D A H0 z fu sb g n0 ws0) Q pc 1 ls m (jEff z (.lor) 1 pc ls st m)) : jP p l e R s mi args below meth c Qf D A H0 z fu sb g n0 ws0 pc ls st m := by
  obtain ⟨b, r, rfl, h1⟩ := jL1_inv h
  obtain ⟨a, r, rfl, h2⟩ := jL1_inv h1
  intro H locs cells slots ws tys lsR stR hr0
  obtain ⟨y, rR, rfl, rfl, hr1⟩ := jRel_l hr0
  obtain ⟨x, rR, rfl, rfl, hr2⟩ := jRel_l hr1
  refine lv_lor hc.1 hc.2.1 hd ?_
  exact h2 _ _ _ _ _ _ _ _ (jRel_pl hr2 (jn_lor x y))
theorem jr_lxor (hc : jCx p R s mi args meth c A H0 Ts z fu sb g) (hd : decode (jBy z) pc = .ok (.lxor, 1)) (h : jStp z C (jP p l e R s mi args below meth c Qf D A H0 z fu sb g n0 ws0) Q pc 1 ls m (jEff z (.lxor) 1 pc ls st m)) : jP p l e R s mi args below meth c Qf D A H0 z fu sb g n0 ws0 pc ls st m := by
  obtain ⟨b, r, rfl, h1⟩ := jL1_inv h
  obtain ⟨a, r, rfl, h2⟩ := jL1_inv h1
  intro H locs cells slots ws tys lsR stR hr0
  obtain ⟨y, rR, rfl, rfl, hr1⟩ := jRel_l hr0
  obtain ⟨x, rR, rfl, rfl, hr2⟩ := jRel_l hr1
  refine lv_lxor hc.1 hc.2.1 hd ?_
  exact h2 _ _ _ _ _ _ _ _ (jRel_pl hr2 (jn_lxor x y))
theorem jr_ldiv (hc : jCx p R s mi args meth c A H0 Ts z fu sb g) (hd : decode (jBy z) pc = .ok (.ldiv, 1)) (h : jStp z C (jP p l e R s mi args below meth c Qf D A H0 z fu sb g n0 ws0) Q pc 1 ls m (jEff z (.ldiv) 1 pc ls st m)) : jP p l e R s mi args below meth c Qf D A H0 z fu sb g n0 ws0 pc ls st m := by
  obtain ⟨b, r, rfl, h1⟩ := jL1_inv h
  obtain ⟨a, r, rfl, h2⟩ := jL1_inv h1
  intro H locs cells slots ws tys lsR stR hr0
  obtain ⟨y, rR, rfl, rfl, hr1⟩ := jRel_l hr0
  obtain ⟨x, rR, rfl, rfl, hr2⟩ := jRel_l hr1
  refine lv_ldiv hc.1 hc.2.1 hd (fun q => h2.1 (by rw [q]; decide)) ?_
  exact h2.2 _ _ _ _ _ _ _ _ (jRel_pl hr2 (jn_ldiv x y))
theorem jr_lrem (hc : jCx p R s mi args meth c A H0 Ts z fu sb g) (hd : decode (jBy z) pc = .ok (.lrem, 1)) (h : jStp z C (jP p l e R s mi args below meth c Qf D A H0 z fu sb g n0 ws0) Q pc 1 ls m (jEff z (.lrem) 1 pc ls st m)) : jP p l e R s mi args below meth c Qf D A H0 z fu sb g n0 ws0 pc ls st m := by
  obtain ⟨b, r, rfl, h1⟩ := jL1_inv h
  obtain ⟨a, r, rfl, h2⟩ := jL1_inv h1
  intro H locs cells slots ws tys lsR stR hr0
  obtain ⟨y, rR, rfl, rfl, hr1⟩ := jRel_l hr0
  obtain ⟨x, rR, rfl, rfl, hr2⟩ := jRel_l hr1
  refine lv_lrem hc.1 hc.2.1 hd (fun q => h2.1 (by rw [q]; decide)) ?_
  exact h2.2 _ _ _ _ _ _ _ _ (jRel_pl hr2 (jn_lrem x y))
theorem jr_lshl (hc : jCx p R s mi args meth c A H0 Ts z fu sb g) (hd : decode (jBy z) pc = .ok (.lshl, 1)) (h : jStp z C (jP p l e R s mi args below meth c Qf D A H0 z fu sb g n0 ws0) Q pc 1 ls m (jEff z (.lshl) 1 pc ls st m)) : jP p l e R s mi args below meth c Qf D A H0 z fu sb g n0 ws0 pc ls st m := by
  obtain ⟨b, r, rfl, h1⟩ := jI1_inv h
  obtain ⟨a, r, rfl, h2⟩ := jL1_inv h1
  intro H locs cells slots ws tys lsR stR hr0
  obtain ⟨y, rR, rfl, rfl, hr1⟩ := jRel_i hr0
  obtain ⟨x, rR, rfl, rfl, hr2⟩ := jRel_l hr1
  refine lv_lshl hc.1 hc.2.1 hd rfl ?_
  exact h2 _ _ _ _ _ _ _ _ (jRel_pl hr2 (jn_lshl x y))
theorem jr_lneg (hc : jCx p R s mi args meth c A H0 Ts z fu sb g) (hd : decode (jBy z) pc = .ok (.lneg, 1)) (h : jStp z C (jP p l e R s mi args below meth c Qf D A H0 z fu sb g n0 ws0) Q pc 1 ls m (jEff z (.lneg) 1 pc ls st m)) : jP p l e R s mi args below meth c Qf D A H0 z fu sb g n0 ws0 pc ls st m := by
  obtain ⟨a, r, rfl, h1⟩ := jL1_inv h
  intro H locs cells slots ws tys lsR stR hr0
  obtain ⟨x, rR, rfl, rfl, hr1⟩ := jRel_l hr0
  refine lv_lneg hc.1 hc.2.1 hd ?_
  exact h1 _ _ _ _ _ _ _ _ (jRel_pl hr1 (jn_lneg x))
theorem jr_i2l (hc : jCx p R s mi args meth c A H0 Ts z fu sb g) (hd : decode (jBy z) pc = .ok (.i2l, 1)) (h : jStp z C (jP p l e R s mi args below meth c Qf D A H0 z fu sb g n0 ws0) Q pc 1 ls m (jEff z (.i2l) 1 pc ls st m)) : jP p l e R s mi args below meth c Qf D A H0 z fu sb g n0 ws0 pc ls st m := by
  obtain ⟨a, r, rfl, h1⟩ := jI1_inv h
  intro H locs cells slots ws tys lsR stR hr0
  obtain ⟨x, rR, rfl, rfl, hr1⟩ := jRel_i hr0
  refine lv_i2l hc.1 hc.2.1 hd rfl ?_
  exact h1 _ _ _ _ _ _ _ _ (jRel_pl hr1 (jn_i2l x))
theorem jr_l2i (hc : jCx p R s mi args meth c A H0 Ts z fu sb g) (hd : decode (jBy z) pc = .ok (.l2i, 1)) (h : jStp z C (jP p l e R s mi args below meth c Qf D A H0 z fu sb g n0 ws0) Q pc 1 ls m (jEff z (.l2i) 1 pc ls st m)) : jP p l e R s mi args below meth c Qf D A H0 z fu sb g n0 ws0 pc ls st m := by
  obtain ⟨a, r, rfl, h1⟩ := jL1_inv h
  intro H locs cells slots ws tys lsR stR hr0
  obtain ⟨x, rR, rfl, rfl, hr1⟩ := jRel_l hr0
  refine lv_l2i hc.1 hc.2.1 hd rfl ?_
  exact h1 _ _ _ _ _ _ _ _ (jRel_pi hr1 (jn_l2i x))
theorem jr_i2b (hc : jCx p R s mi args meth c A H0 Ts z fu sb g) (hd : decode (jBy z) pc = .ok (.i2b, 1)) (h : jStp z C (jP p l e R s mi args below meth c Qf D A H0 z fu sb g n0 ws0) Q pc 1 ls m (jEff z (.i2b) 1 pc ls st m)) : jP p l e R s mi args below meth c Qf D A H0 z fu sb g n0 ws0 pc ls st m := by
  obtain ⟨a, r, rfl, h1⟩ := jI1_inv h
  intro H locs cells slots ws tys lsR stR hr0
  obtain ⟨x, rR, rfl, rfl, hr1⟩ := jRel_i hr0
  refine lv_i2b hc.1 hc.2.1 hd rfl ?_
  exact h1 _ _ _ _ _ _ _ _ (jRel_pi hr1 (jn_i2b x))
theorem jr_iload_n {k : Fin 4} (hc : jCx p R s mi args meth c A H0 Ts z fu sb g) (hd : decode (jBy z) pc = .ok (.iload_n k, 1)) (h : jStp z C (jP p l e R s mi args below meth c Qf D A H0 z fu sb g n0 ws0) Q pc 1 ls m (jEff z (.iload k.val) 1 pc ls st m)) : jP p l e R s mi args below meth c Qf D A H0 z fu sb g n0 ws0 pc ls st m := by
  obtain ⟨a, ha, h1⟩ := jLi_inv h
  intro H locs cells slots ws tys lsR stR hr0
  obtain ⟨w, hw, ⟨x, rfl, hx⟩⟩ := jRel_at hr0 ha
  refine lv_iload_n hc.1 hc.2.1 hd rfl hw ?_
  exact h1 _ _ _ _ _ _ _ _ (jRel_pi hr0 hx)
theorem jr_lload_n {k : Fin 4} (hc : jCx p R s mi args meth c A H0 Ts z fu sb g) (hd : decode (jBy z) pc = .ok (.lload_n k, 1)) (h : jStp z C (jP p l e R s mi args below meth c Qf D A H0 z fu sb g n0 ws0) Q pc 1 ls m (jEff z (.lload k.val) 1 pc ls st m)) : jP p l e R s mi args below meth c Qf D A H0 z fu sb g n0 ws0 pc ls st m := by
  obtain ⟨a, ha, h1⟩ := jLl_inv h
  intro H locs cells slots ws tys lsR stR hr0
  obtain ⟨w, hw, ⟨x, rfl, hx⟩⟩ := jRel_at hr0 ha
  refine lv_lload_n hc.1 hc.2.1 hd rfl hw ?_
  exact h1 _ _ _ _ _ _ _ _ (jRel_pl hr0 hx)
theorem jr_aload_n {k : Fin 4} (hc : jCx p R s mi args meth c A H0 Ts z fu sb g) (hd : decode (jBy z) pc = .ok (.aload_n k, 1)) (h : jStp z C (jP p l e R s mi args below meth c Qf D A H0 z fu sb g n0 ws0) Q pc 1 ls m (jEff z (.aload k.val) 1 pc ls st m)) : jP p l e R s mi args below meth c Qf D A H0 z fu sb g n0 ws0 pc ls st m := by
  obtain ⟨a, ha, h1⟩ := jLa_inv h
  intro H locs cells slots ws tys lsR stR hr0
  obtain ⟨w, hw, hv⟩ := jRel_at hr0 ha
  obtain ⟨q, rfl⟩ := jVr_ref hv
  refine lv_aload_n hc.1 hc.2.1 hd rfl hw ?_
  exact h1 _ _ _ _ _ _ _ _ (jRel_pv hr0 hv)
theorem jr_iload {k : Nat} (hc : jCx p R s mi args meth c A H0 Ts z fu sb g) (hd : decode (jBy z) pc = .ok (.iload k, 2)) (h : jStp z C (jP p l e R s mi args below meth c Qf D A H0 z fu sb g n0 ws0) Q pc 2 ls m (jEff z (.iload k) 2 pc ls st m)) : jP p l e R s mi args below meth c Qf D A H0 z fu sb g n0 ws0 pc ls st m := by
  obtain ⟨a, ha, h1⟩ := jLi_inv h
  intro H locs cells slots ws tys lsR stR hr0
  obtain ⟨w, hw, ⟨x, rfl, hx⟩⟩ := jRel_at hr0 ha
  refine lv_iload hc.1 hc.2.1 hd  hw ?_
  exact h1 _ _ _ _ _ _ _ _ (jRel_pi hr0 hx)
theorem jr_lload {k : Nat} (hc : jCx p R s mi args meth c A H0 Ts z fu sb g) (hd : decode (jBy z) pc = .ok (.lload k, 2)) (h : jStp z C (jP p l e R s mi args below meth c Qf D A H0 z fu sb g n0 ws0) Q pc 2 ls m (jEff z (.lload k) 2 pc ls st m)) : jP p l e R s mi args below meth c Qf D A H0 z fu sb g n0 ws0 pc ls st m := by
  obtain ⟨a, ha, h1⟩ := jLl_inv h
  intro H locs cells slots ws tys lsR stR hr0
  obtain ⟨w, hw, ⟨x, rfl, hx⟩⟩ := jRel_at hr0 ha
  refine lv_lload hc.1 hc.2.1 hd  hw ?_
  exact h1 _ _ _ _ _ _ _ _ (jRel_pl hr0 hx)
theorem jr_aload {k : Nat} (hc : jCx p R s mi args meth c A H0 Ts z fu sb g) (hd : decode (jBy z) pc = .ok (.aload k, 2)) (h : jStp z C (jP p l e R s mi args below meth c Qf D A H0 z fu sb g n0 ws0) Q pc 2 ls m (jEff z (.aload k) 2 pc ls st m)) : jP p l e R s mi args below meth c Qf D A H0 z fu sb g n0 ws0 pc ls st m := by
  obtain ⟨a, ha, h1⟩ := jLa_inv h
  intro H locs cells slots ws tys lsR stR hr0
  obtain ⟨w, hw, hv⟩ := jRel_at hr0 ha
  obtain ⟨q, rfl⟩ := jVr_ref hv
  refine lv_aload hc.1 hc.2.1 hd  hw ?_
  exact h1 _ _ _ _ _ _ _ _ (jRel_pv hr0 hv)
theorem jr_istore_n {k : Fin 4} (hc : jCx p R s mi args meth c A H0 Ts z fu sb g) (hd : decode (jBy z) pc = .ok (.istore_n k, 1)) (h : jStp z C (jP p l e R s mi args below meth c Qf D A H0 z fu sb g n0 ws0) Q pc 1 ls m (jEff z (.istore k.val) 1 pc ls st m)) : jP p l e R s mi args below meth c Qf D A H0 z fu sb g n0 ws0 pc ls st m := by
  obtain ⟨a, r, rfl, h1⟩ := jI1_inv h
  obtain ⟨ls1, hs, h2⟩ := jLs_inv h1
  intro H locs cells slots ws tys lsR stR hr0
  obtain ⟨x, rR, rfl, rfl, hr1⟩ := jRel_i hr0
  obtain ⟨lv, k1, k2, -, k3⟩ := jRel_s1 (w := .int x) hr1 hs ⟨x, rfl, rfl⟩
  refine lv_istore_n hc.1 hc.2.1 hd rfl k1 k2 rfl (fun lsR2 hl => ?_)
  exact h2 _ _ _ _ _ _ _ _ (k3 lsR2 hl)
theorem jr_lstore_n {k : Fin 4} (hc : jCx p R s mi args meth c A H0 Ts z fu sb g) (hd : decode (jBy z) pc = .ok (.lstore_n k, 1)) (h : jStp z C (jP p l e R s mi args below meth c Qf D A H0 z fu sb g n0 ws0) Q pc 1 ls m (jEff z (.lstore k.val) 1 pc ls st m)) : jP p l e R s mi args below meth c Qf D A H0 z fu sb g n0 ws0 pc ls st m := by
  obtain ⟨a, r, rfl, h1⟩ := jL1_inv h
  obtain ⟨ls1, hs, h2⟩ := jLs_inv h1
  intro H locs cells slots ws tys lsR stR hr0
  obtain ⟨x, rR, rfl, rfl, hr1⟩ := jRel_l hr0
  obtain ⟨lv, k1, k2, k3⟩ := jRel_s2 (w := .long x) hr1 hs ⟨x, rfl, rfl⟩
  refine lv_lstore_n hc.1 hc.2.1 hd rfl k1 k2 rfl (fun lsR2 hl => ?_)
  exact h2 _ _ _ _ _ _ _ _ (k3 lsR2 hl)
theorem jr_astore_n {k : Fin 4} (hc : jCx p R s mi args meth c A H0 Ts z fu sb g) (hd : decode (jBy z) pc = .ok (.astore_n k, 1)) (h : jStp z C (jP p l e R s mi args below meth c Qf D A H0 z fu sb g n0 ws0) Q pc 1 ls m (jEff z (.astore k.val) 1 pc ls st m)) : jP p l e R s mi args below meth c Qf D A H0 z fu sb g n0 ws0 pc ls st m := by
  obtain ⟨a, r, rfl, h1⟩ := jR1_inv h
  obtain ⟨ls1, hs, h2⟩ := jLs_inv h1
  intro H locs cells slots ws tys lsR stR hr0
  obtain ⟨q, rR, rfl, hv, hr1⟩ := jRel_r hr0
  obtain ⟨lv, k1, k2, -, k3⟩ := jRel_s1 (w := .ref q) hr1 hs hv
  refine lv_astore_n hc.1 hc.2.1 hd rfl k1 k2 rfl (fun lsR2 hl => ?_)
  exact h2 _ _ _ _ _ _ _ _ (k3 lsR2 hl)
theorem jr_istore {k : Nat} (hc : jCx p R s mi args meth c A H0 Ts z fu sb g) (hd : decode (jBy z) pc = .ok (.istore k, 2)) (h : jStp z C (jP p l e R s mi args below meth c Qf D A H0 z fu sb g n0 ws0) Q pc 2 ls m (jEff z (.istore k) 2 pc ls st m)) : jP p l e R s mi args below meth c Qf D A H0 z fu sb g n0 ws0 pc ls st m := by
  obtain ⟨a, r, rfl, h1⟩ := jI1_inv h
  obtain ⟨ls1, hs, h2⟩ := jLs_inv h1
  intro H locs cells slots ws tys lsR stR hr0
  obtain ⟨x, rR, rfl, rfl, hr1⟩ := jRel_i hr0
  obtain ⟨lv, k1, k2, -, k3⟩ := jRel_s1 (w := .int x) hr1 hs ⟨x, rfl, rfl⟩
  refine lv_istore hc.1 hc.2.1 hd  k1 k2 rfl (fun lsR2 hl => ?_)
  exact h2 _ _ _ _ _ _ _ _ (k3 lsR2 hl)
theorem jr_lstore {k : Nat} (hc : jCx p R s mi args meth c A H0 Ts z fu sb g) (hd : decode (jBy z) pc = .ok (.lstore k, 2)) (h : jStp z C (jP p l e R s mi args below meth c Qf D A H0 z fu sb g n0 ws0) Q pc 2 ls m (jEff z (.lstore k) 2 pc ls st m)) : jP p l e R s mi args below meth c Qf D A H0 z fu sb g n0 ws0 pc ls st m := by
  obtain ⟨a, r, rfl, h1⟩ := jL1_inv h
  obtain ⟨ls1, hs, h2⟩ := jLs_inv h1
  intro H locs cells slots ws tys lsR stR hr0
  obtain ⟨x, rR, rfl, rfl, hr1⟩ := jRel_l hr0
  obtain ⟨lv, k1, k2, k3⟩ := jRel_s2 (w := .long x) hr1 hs ⟨x, rfl, rfl⟩
  refine lv_lstore hc.1 hc.2.1 hd  k1 k2 rfl (fun lsR2 hl => ?_)
  exact h2 _ _ _ _ _ _ _ _ (k3 lsR2 hl)
theorem jr_astore {k : Nat} (hc : jCx p R s mi args meth c A H0 Ts z fu sb g) (hd : decode (jBy z) pc = .ok (.astore k, 2)) (h : jStp z C (jP p l e R s mi args below meth c Qf D A H0 z fu sb g n0 ws0) Q pc 2 ls m (jEff z (.astore k) 2 pc ls st m)) : jP p l e R s mi args below meth c Qf D A H0 z fu sb g n0 ws0 pc ls st m := by
  obtain ⟨a, r, rfl, h1⟩ := jR1_inv h
  obtain ⟨ls1, hs, h2⟩ := jLs_inv h1
  intro H locs cells slots ws tys lsR stR hr0
  obtain ⟨q, rR, rfl, hv, hr1⟩ := jRel_r hr0
  obtain ⟨lv, k1, k2, -, k3⟩ := jRel_s1 (w := .ref q) hr1 hs hv
  refine lv_astore hc.1 hc.2.1 hd  k1 k2 rfl (fun lsR2 hl => ?_)
  exact h2 _ _ _ _ _ _ _ _ (k3 lsR2 hl)
theorem jr_iinc {k : Nat} {n : Int} (hc : jCx p R s mi args meth c A H0 Ts z fu sb g) (hd : decode (jBy z) pc = .ok (.iinc k n, 3)) (h : jStp z C (jP p l e R s mi args below meth c Qf D A H0 z fu sb g n0 ws0) Q pc 3 ls m (jEff z (.iinc k n) 3 pc ls st m)) : jP p l e R s mi args below meth c Qf D A H0 z fu sb g n0 ws0 pc ls st m := by
  obtain ⟨a, ha, h1⟩ := jLi_inv h
  obtain ⟨ls1, hs, h2⟩ := jLs_inv h1
  intro H locs cells slots ws tys lsR stR hr0
  obtain ⟨lv, k1, k2, k4, k3⟩ := jRel_s1 (w := .int (Int32.ofInt (w32 (a + n)))) hr0 hs ⟨_, rfl, jn_w32 _⟩
  obtain ⟨w, hw, x, rfl, rfl⟩ := k4 k _ ha
  obtain ⟨j, hj⟩ := List.getElem?_of_mem hw
  refine lv_iinc (v := Int32.ofInt (w32 (x.toInt + n))) hc.1 hc.2.1 hd k1 hj (by rw [jn_iinc, jn_ofI]) k2 rfl (fun lsR2 hl => ?_)
  exact h2 _ _ _ _ _ _ _ _ (k3 lsR2 hl)
theorem jr_iconst {v : Int} (hv : v.bmod 4294967296 = v) (hc : jCx p R s mi args meth c A H0 Ts z fu sb g) (hd : decode (jBy z) pc = .ok (.iconst v, 1)) (h : jStp z C (jP p l e R s mi args below meth c Qf D A H0 z fu sb g n0 ws0) Q pc 1 ls m (jEff z (.iconst v) 1 pc ls st m)) : jP p l e R s mi args below meth c Qf D A H0 z fu sb g n0 ws0 pc ls st m := by
  intro H locs cells slots ws tys lsR stR hr0
  refine lv_iconst hc.1 hc.2.1 hd rfl ?_
  exact h _ _ _ _ _ _ _ _ (jRel_pi hr0 (jn_iconst hv))
theorem jr_bipush {v : Int} (hv : v.bmod 256 = v) (hc : jCx p R s mi args meth c A H0 Ts z fu sb g) (hd : decode (jBy z) pc = .ok (.bipush v, 2)) (h : jStp z C (jP p l e R s mi args below meth c Qf D A H0 z fu sb g n0 ws0) Q pc 2 ls m (jEff z (.iconst v) 2 pc ls st m)) : jP p l e R s mi args below meth c Qf D A H0 z fu sb g n0 ws0 pc ls st m := by
  intro H locs cells slots ws tys lsR stR hr0
  refine lv_bipush hc.1 hc.2.1 hd rfl ?_
  exact h _ _ _ _ _ _ _ _ (jRel_pi hr0 (jn_bipush hv))
theorem jr_sipush {v : Int} (hv : v.bmod 65536 = v) (hc : jCx p R s mi args meth c A H0 Ts z fu sb g) (hd : decode (jBy z) pc = .ok (.sipush v, 3)) (h : jStp z C (jP p l e R s mi args below meth c Qf D A H0 z fu sb g n0 ws0) Q pc 3 ls m (jEff z (.iconst v) 3 pc ls st m)) : jP p l e R s mi args below meth c Qf D A H0 z fu sb g n0 ws0 pc ls st m := by
  intro H locs cells slots ws tys lsR stR hr0
  refine lv_sipush hc.1 hc.2.1 hd rfl ?_
  exact h _ _ _ _ _ _ _ _ (jRel_pi hr0 (jn_sipush hv))
theorem jr_lconst {k : Fin 2} (hc : jCx p R s mi args meth c A H0 Ts z fu sb g) (hd : decode (jBy z) pc = .ok (.lconst k, 1)) (h : jStp z C (jP p l e R s mi args below meth c Qf D A H0 z fu sb g n0 ws0) Q pc 1 ls m (jEff z (.sipush (k.val : Int)) 1 pc ls st m)) : jP p l e R s mi args below meth c Qf D A H0 z fu sb g n0 ws0 pc ls st m := by
  intro H locs cells slots ws tys lsR stR hr0
  refine lv_lconst hc.1 hc.2.1 hd rfl ?_
  exact h _ _ _ _ _ _ _ _ (jRel_pl hr0 (jn_lconst k))
theorem jr_ldc2 {i : Nat} {v : Int} (hw : Jvm.Cond.constantLong (jRn (jCl z)) i (Int64.ofInt v) ∈ jBW) (hv : (Int64.ofInt v).toInt = v) (hc : jCx p R s mi args meth c A H0 Ts z fu sb g) (hd : decode (jBy z) pc = .ok (.ldc2_w i, 3)) (h : jStp z C (jP p l e R s mi args below meth c Qf D A H0 z fu sb g n0 ws0) Q pc 3 ls m (jEff z (.sipush v) 3 pc ls st m)) : jP p l e R s mi args below meth c Qf D A H0 z fu sb g n0 ws0 pc ls st m := by
  intro H locs cells slots ws tys lsR stR hr0
  refine lv_ldc2 hc.1 hc.2.1 hc.2.2.2.1 (hc.2.2.2.2.1 _ (hc.2.2.2.2.2.1 _ hw)) hd ?_
  exact h _ _ _ _ _ _ _ _ (jRel_pl hr0 hv.symm)
theorem jr_ldc {i : Nat} {v : Int} (hw : Jvm.Cond.constant (jRn (jCl z)) i (Int32.ofInt v) ∈ jBW) (hv : (Int32.ofInt v).toInt = v) (hc : jCx p R s mi args meth c A H0 Ts z fu sb g) (hd : decode (jBy z) pc = .ok (.ldc i, 2)) (h : jStp z C (jP p l e R s mi args below meth c Qf D A H0 z fu sb g n0 ws0) Q pc 2 ls m (jEff z (.iconst v) 2 pc ls st m)) : jP p l e R s mi args below meth c Qf D A H0 z fu sb g n0 ws0 pc ls st m := by
  intro H locs cells slots ws tys lsR stR hr0
  refine lv_ldc hc.1 hc.2.1 hc.2.2.2.1 (hc.2.2.2.2.1 _ (hc.2.2.2.2.2.1 _ hw)) hd ?_
  exact h _ _ _ _ _ _ _ _ (jRel_pi hr0 hv.symm)
theorem jr_ldc_w {i : Nat} {v : Int} (hw : Jvm.Cond.constant (jRn (jCl z)) i (Int32.ofInt v) ∈ jBW) (hv : (Int32.ofInt v).toInt = v) (hc : jCx p R s mi args meth c A H0 Ts z fu sb g) (hd : decode (jBy z) pc = .ok (.ldc_w i, 3)) (h : jStp z C (jP p l e R s mi args below meth c Qf D A H0 z fu sb g n0 ws0) Q pc 3 ls m (jEff z (.iconst v) 3 pc ls st m)) : jP p l e R s mi args below meth c Qf D A H0 z fu sb g n0 ws0 pc ls st m := by
  intro H locs cells slots ws tys lsR stR hr0
  refine lv_ldcw hc.1 hc.2.1 hc.2.2.2.1 (hc.2.2.2.2.1 _ (hc.2.2.2.2.2.1 _ hw)) hd ?_
  exact h _ _ _ _ _ _ _ _ (jRel_pi hr0 hv.symm)
theorem jr_dup (hc : jCx p R s mi args meth c A H0 Ts z fu sb g) (hd : decode (jBy z) pc = .ok (.dup, 1)) (h : jStp z C (jP p l e R s mi args below meth c Qf D A H0 z fu sb g n0 ws0) Q pc 1 ls m (jEff z (.dup) 1 pc ls st m)) : jP p l e R s mi args below meth c Qf D A H0 z fu sb g n0 ws0 pc ls st m := by
  obtain ⟨a, r, rfl, h1⟩ := jR1_inv h
  intro H locs cells slots ws tys lsR stR hr0
  obtain ⟨q, rR, rfl, hv, hr1⟩ := jRel_r hr0
  refine lv_dup hc.1 hc.2.1 hd rfl ?_
  exact h1 _ _ _ _ _ _ _ _ (jRel_pv (jRel_pv hr1 hv) hv)
theorem jr_dup2 (hc : jCx p R s mi args meth c A H0 Ts z fu sb g) (hd : decode (jBy z) pc = .ok (.dup2, 1)) (h : jStp z C (jP p l e R s mi args below meth c Qf D A H0 z fu sb g n0 ws0) Q pc 1 ls m (jEff z (.dup2) 1 pc ls st m)) : jP p l e R s mi args below meth c Qf D A H0 z fu sb g n0 ws0 pc ls st m := by
  obtain ⟨a, r, rfl, h1⟩ := jI1_inv h
  obtain ⟨b, r, rfl, h2⟩ := jR1_inv h1
  intro H locs cells slots ws tys lsR stR hr0
  obtain ⟨x, rR, rfl, hx, hr1⟩ := jRel_i hr0
  obtain ⟨q, rR, rfl, hv, hr2⟩ := jRel_r hr1
  refine lv_dup2_11 hc.1 hc.2.1 hd rfl rfl ?_
  exact h2 _ _ _ _ _ _ _ _ (jRel_pi (jRel_pv (jRel_pi (jRel_pv hr2 hv) hx) hv) hx)
theorem jr_pop2 (hc : jCx p R s mi args meth c A H0 Ts z fu sb g) (hd : decode (jBy z) pc = .ok (.pop2, 1)) (h : jStp z C (jP p l e R s mi args below meth c Qf D A H0 z fu sb g n0 ws0) Q pc 1 ls m (jEff z (.pop2) 1 pc ls st m)) : jP p l e R s mi args below meth c Qf D A H0 z fu sb g n0 ws0 pc ls st m := by
  obtain ⟨a, r, rfl, h1⟩ := jL1_inv h
  intro H locs cells slots ws tys lsR stR hr0
  obtain ⟨x, rR, rfl, hx, hr1⟩ := jRel_l hr0
  refine lv_pop2_2 hc.1 hc.2.1 hd rfl ?_
  exact h1 _ _ _ _ _ _ _ _ hr1
theorem jr_goto {off : Int} (ho : 0 ≤ jTo pc off) (hc : jCx p R s mi args meth c A H0 Ts z fu sb g) (hd : decode (jBy z) pc = .ok (.goto off, 3)) (h : jStp z C (jP p l e R s mi args below meth c Qf D A H0 z fu sb g n0 ws0) Q pc 3 ls m (jEff z (.goto (jTo pc off)) 3 pc ls st m)) : jP p l e R s mi args below meth c Qf D A H0 z fu sb g n0 ws0 pc ls st m := by
  intro H locs cells slots ws tys lsR stR hr0
  refine lv_goto hc.1 hc.2.1 hd (tgt := (jTo pc off).toNat) (by unfold jTo at ho ⊢; omega) ?_
  exact h _ _ _ _ _ _ _ _ hr0
theorem jr_icmp_eq {off : Int} (ho : 0 ≤ jTo pc off) (hc : jCx p R s mi args meth c A H0 Ts z fu sb g) (hd : decode (jBy z) pc = .ok (.if_icmp .eq off, 3)) (h : jStp z C (jP p l e R s mi args below meth c Qf D A H0 z fu sb g n0 ws0) Q pc 3 ls m (jEff z (.if_icmp .eq (jTo pc off)) 3 pc ls st m)) : jP p l e R s mi args below meth c Qf D A H0 z fu sb g n0 ws0 pc ls st m := by
  obtain ⟨b, r, rfl, h1⟩ := jI1_inv h
  obtain ⟨a, r, rfl, h2⟩ := jI1_inv h1
  intro H locs cells slots ws tys lsR stR hr0
  obtain ⟨y, rR, rfl, rfl, hr1⟩ := jRel_i hr0
  obtain ⟨x, rR, rfl, rfl, hr2⟩ := jRel_i hr1
  have e1 := @jn_eq x y
  have e2 := @jn_lt x y
  have e3 := @jn_le x y
  have e4 := @jn_lt y x
  have e5 := @jn_le y x
  refine lv_icmp_eq hc.1 hc.2.1 hd (tgt := (jTo pc off).toNat) (by unfold jTo at ho ⊢; omega) (fun q => ?_) (fun q => ?_)
  · exact h2.1 (e1.mp q) _ _ _ _ _ _ _ _ hr2
  · exact h2.2 (fun q2 => q (e1.mpr q2)) _ _ _ _ _ _ _ _ hr2
theorem jr_if_eq {off : Int} (ho : 0 ≤ jTo pc off) (hc : jCx p R s mi args meth c A H0 Ts z fu sb g) (hd : decode (jBy z) pc = .ok (.ifCond .eq off, 3)) (h : jStp z C (jP p l e R s mi args below meth c Qf D A H0 z fu sb g n0 ws0) Q pc 3 ls m (jEff z (.ifCond .eq (jTo pc off)) 3 pc ls st m)) : jP p l e R s mi args below meth c Qf D A H0 z fu sb g n0 ws0 pc ls st m := by
  obtain ⟨a, r, rfl, h1⟩ := jI1_inv h
  intro H locs cells slots ws tys lsR stR hr0
  obtain ⟨x, rR, rfl, rfl, hr1⟩ := jRel_i hr0
  have e1 := @jn_eq x 0
  have e2 := @jn_lt x 0
  have e3 := @jn_le x 0
  have e4 := @jn_lt 0 x
  have e5 := @jn_le 0 x
  rw [jn_0] at e1 e2 e3 e4 e5
  refine lv_if_eq hc.1 hc.2.1 hd (tgt := (jTo pc off).toNat) (by unfold jTo at ho ⊢; omega) (fun q => ?_) (fun q => ?_)
  · exact h1.1 (e1.mp q) _ _ _ _ _ _ _ _ hr1
  · exact h1.2 (fun q2 => q (e1.mpr q2)) _ _ _ _ _ _ _ _ hr1
theorem jr_lcmp_eq {off : Int} (ho : 0 ≤ jTo (pc + 1) off) (hc : jCx p R s mi args meth c A H0 Ts z fu sb g) (hd : decode (jBy z) pc = .ok (.lcmp, 1)) (hd2 : decode (jBy z) (pc + 1) = .ok (.ifCond .eq off, 3)) (h : jStp z C (jP p l e R s mi args below meth c Qf D A H0 z fu sb g n0 ws0) Q pc 4 ls m (jEff z (.multianewarray 0 (jTo (pc + 1) off).toNat) 4 pc ls st m)) : jP p l e R s mi args below meth c Qf D A H0 z fu sb g n0 ws0 pc ls st m := by
  obtain ⟨b, r, rfl, h1⟩ := jL1_inv h
  obtain ⟨a, r, rfl, h2⟩ := jL1_inv h1
  intro H locs cells slots ws tys lsR stR hr0
  obtain ⟨y, rR, rfl, rfl, hr1⟩ := jRel_l hr0
  obtain ⟨x, rR, rfl, rfl, hr2⟩ := jRel_l hr1
  have ec := jn_cmp x y
  have e1 := @jn_eq (lg_cmp x y) 0
  have e2 := @jn_lt (lg_cmp x y) 0
  have e3 := @jn_le (lg_cmp x y) 0
  have e4 := @jn_lt 0 (lg_cmp x y)
  have e5 := @jn_le 0 (lg_cmp x y)
  rw [jn_0, ec] at e1 e2 e3 e4 e5
  refine W.lcmp hc.1 hc.2.1 hd ?_
  refine lv_if_eq hc.1 hc.2.1 hd2 (tgt := (jTo (pc + 1) off).toNat) (by unfold jTo at ho ⊢; omega) (fun q => ?_) (fun q => ?_)
  · exact h2.1 (by have := e1.mp q; split at this <;> first | omega | (split at this <;> omega)) _ _ _ _ _ _ _ _ hr2
  · exact h2.2 (fun q2 => q (e1.mpr (by rw [if_neg (by omega), if_pos q2]))) _ _ _ _ _ _ _ _ hr2
theorem jr_icmp_ne {off : Int} (ho : 0 ≤ jTo pc off) (hc : jCx p R s mi args meth c A H0 Ts z fu sb g) (hd : decode (jBy z) pc = .ok (.if_icmp .ne off, 3)) (h : jStp z C (jP p l e R s mi args below meth c Qf D A H0 z fu sb g n0 ws0) Q pc 3 ls m (jEff z (.if_icmp .ne (jTo pc off)) 3 pc ls st m)) : jP p l e R s mi args below meth c Qf D A H0 z fu sb g n0 ws0 pc ls st m := by
  obtain ⟨b, r, rfl, h1⟩ := jI1_inv h
  obtain ⟨a, r, rfl, h2⟩ := jI1_inv h1
  intro H locs cells slots ws tys lsR stR hr0
  obtain ⟨y, rR, rfl, rfl, hr1⟩ := jRel_i hr0
  obtain ⟨x, rR, rfl, rfl, hr2⟩ := jRel_i hr1
  have e1 := @jn_eq x y
  have e2 := @jn_lt x y
  have e3 := @jn_le x y
  have e4 := @jn_lt y x
  have e5 := @jn_le y x
  refine lv_icmp_ne hc.1 hc.2.1 hd (tgt := (jTo pc off).toNat) (by unfold jTo at ho ⊢; omega) (fun q => ?_) (fun q => ?_)
  · exact h2.2 (fun q2 => q (e1.mpr q2)) _ _ _ _ _ _ _ _ hr2
  · exact h2.1 (e1.mp q) _ _ _ _ _ _ _ _ hr2
theorem jr_if_ne {off : Int} (ho : 0 ≤ jTo pc off) (hc : jCx p R s mi args meth c A H0 Ts z fu sb g) (hd : decode (jBy z) pc = .ok (.ifCond .ne off, 3)) (h : jStp z C (jP p l e R s mi args below meth c Qf D A H0 z fu sb g n0 ws0) Q pc 3 ls m (jEff z (.ifCond .ne (jTo pc off)) 3 pc ls st m)) : jP p l e R s mi args below meth c Qf D A H0 z fu sb g n0 ws0 pc ls st m := by
  obtain ⟨a, r, rfl, h1⟩ := jI1_inv h
  intro H locs cells slots ws tys lsR stR hr0
  obtain ⟨x, rR, rfl, rfl, hr1⟩ := jRel_i hr0
  have e1 := @jn_eq x 0
  have e2 := @jn_lt x 0
  have e3 := @jn_le x 0
  have e4 := @jn_lt 0 x
  have e5 := @jn_le 0 x
  rw [jn_0] at e1 e2 e3 e4 e5
  refine lv_if_ne hc.1 hc.2.1 hd (tgt := (jTo pc off).toNat) (by unfold jTo at ho ⊢; omega) (fun q => ?_) (fun q => ?_)
  · exact h1.2 (fun q2 => q (e1.mpr q2)) _ _ _ _ _ _ _ _ hr1
  · exact h1.1 (e1.mp q) _ _ _ _ _ _ _ _ hr1
theorem jr_lcmp_ne {off : Int} (ho : 0 ≤ jTo (pc + 1) off) (hc : jCx p R s mi args meth c A H0 Ts z fu sb g) (hd : decode (jBy z) pc = .ok (.lcmp, 1)) (hd2 : decode (jBy z) (pc + 1) = .ok (.ifCond .ne off, 3)) (h : jStp z C (jP p l e R s mi args below meth c Qf D A H0 z fu sb g n0 ws0) Q pc 4 ls m (jEff z (.multianewarray 1 (jTo (pc + 1) off).toNat) 4 pc ls st m)) : jP p l e R s mi args below meth c Qf D A H0 z fu sb g n0 ws0 pc ls st m := by
  obtain ⟨b, r, rfl, h1⟩ := jL1_inv h
  obtain ⟨a, r, rfl, h2⟩ := jL1_inv h1
  intro H locs cells slots ws tys lsR stR hr0
  obtain ⟨y, rR, rfl, rfl, hr1⟩ := jRel_l hr0
  obtain ⟨x, rR, rfl, rfl, hr2⟩ := jRel_l hr1
  have ec := jn_cmp x y
  have e1 := @jn_eq (lg_cmp x y) 0
  have e2 := @jn_lt (lg_cmp x y) 0
  have e3 := @jn_le (lg_cmp x y) 0
  have e4 := @jn_lt 0 (lg_cmp x y)
  have e5 := @jn_le 0 (lg_cmp x y)
  rw [jn_0, ec] at e1 e2 e3 e4 e5
  refine W.lcmp hc.1 hc.2.1 hd ?_
  refine lv_if_ne hc.1 hc.2.1 hd2 (tgt := (jTo (pc + 1) off).toNat) (by unfold jTo at ho ⊢; omega) (fun q => ?_) (fun q => ?_)
  · exact h2.2 (fun q2 => q (e1.mpr (by rw [if_neg (by omega), if_pos q2]))) _ _ _ _ _ _ _ _ hr2
  · exact h2.1 (by have := e1.mp q; split at this <;> first | omega | (split at this <;> omega)) _ _ _ _ _ _ _ _ hr2
theorem jr_icmp_lt {off : Int} (ho : 0 ≤ jTo pc off) (hc : jCx p R s mi args meth c A H0 Ts z fu sb g) (hd : decode (jBy z) pc = .ok (.if_icmp .lt off, 3)) (h : jStp z C (jP p l e R s mi args below meth c Qf D A H0 z fu sb g n0 ws0) Q pc 3 ls m (jEff z (.if_icmp .lt (jTo pc off)) 3 pc ls st m)) : jP p l e R s mi args below meth c Qf D A H0 z fu sb g n0 ws0 pc ls st m := by
  obtain ⟨b, r, rfl, h1⟩ := jI1_inv h
  obtain ⟨a, r, rfl, h2⟩ := jI1_inv h1
  intro H locs cells slots ws tys lsR stR hr0
  obtain ⟨y, rR, rfl, rfl, hr1⟩ := jRel_i hr0
  obtain ⟨x, rR, rfl, rfl, hr2⟩ := jRel_i hr1
  have e1 := @jn_eq x y
  have e2 := @jn_lt x y
  have e3 := @jn_le x y
  have e4 := @jn_lt y x
  have e5 := @jn_le y x
  refine lv_icmp_lt hc.1 hc.2.1 hd (tgt := (jTo pc off).toNat) (by unfold jTo at ho ⊢; omega) (fun q => ?_) (fun q => ?_)
  · exact h2.1 (e2.mp q) _ _ _ _ _ _ _ _ hr2
  · exact h2.2 (fun q2 => q (e2.mpr q2)) _ _ _ _ _ _ _ _ hr2
theorem jr_if_lt {off : Int} (ho : 0 ≤ jTo pc off) (hc : jCx p R s mi args meth c A H0 Ts z fu sb g) (hd : decode (jBy z) pc = .ok (.ifCond .lt off, 3)) (h : jStp z C (jP p l e R s mi args below meth c Qf D A H0 z fu sb g n0 ws0) Q pc 3 ls m (jEff z (.ifCond .lt (jTo pc off)) 3 pc ls st m)) : jP p l e R s mi args below meth c Qf D A H0 z fu sb g n0 ws0 pc ls st m := by
  obtain ⟨a, r, rfl, h1⟩ := jI1_inv h
  intro H locs cells slots ws tys lsR stR hr0
  obtain ⟨x, rR, rfl, rfl, hr1⟩ := jRel_i hr0
  have e1 := @jn_eq x 0
  have e2 := @jn_lt x 0
  have e3 := @jn_le x 0
  have e4 := @jn_lt 0 x
  have e5 := @jn_le 0 x
  rw [jn_0] at e1 e2 e3 e4 e5
  refine lv_if_lt hc.1 hc.2.1 hd (tgt := (jTo pc off).toNat) (by unfold jTo at ho ⊢; omega) (fun q => ?_) (fun q => ?_)
  · exact h1.1 (e2.mp q) _ _ _ _ _ _ _ _ hr1
  · exact h1.2 (fun q2 => q (e2.mpr q2)) _ _ _ _ _ _ _ _ hr1
theorem jr_lcmp_lt {off : Int} (ho : 0 ≤ jTo (pc + 1) off) (hc : jCx p R s mi args meth c A H0 Ts z fu sb g) (hd : decode (jBy z) pc = .ok (.lcmp, 1)) (hd2 : decode (jBy z) (pc + 1) = .ok (.ifCond .lt off, 3)) (h : jStp z C (jP p l e R s mi args below meth c Qf D A H0 z fu sb g n0 ws0) Q pc 4 ls m (jEff z (.multianewarray 2 (jTo (pc + 1) off).toNat) 4 pc ls st m)) : jP p l e R s mi args below meth c Qf D A H0 z fu sb g n0 ws0 pc ls st m := by
  obtain ⟨b, r, rfl, h1⟩ := jL1_inv h
  obtain ⟨a, r, rfl, h2⟩ := jL1_inv h1
  intro H locs cells slots ws tys lsR stR hr0
  obtain ⟨y, rR, rfl, rfl, hr1⟩ := jRel_l hr0
  obtain ⟨x, rR, rfl, rfl, hr2⟩ := jRel_l hr1
  have ec := jn_cmp x y
  have e1 := @jn_eq (lg_cmp x y) 0
  have e2 := @jn_lt (lg_cmp x y) 0
  have e3 := @jn_le (lg_cmp x y) 0
  have e4 := @jn_lt 0 (lg_cmp x y)
  have e5 := @jn_le 0 (lg_cmp x y)
  rw [jn_0, ec] at e1 e2 e3 e4 e5
  refine W.lcmp hc.1 hc.2.1 hd ?_
  refine lv_if_lt hc.1 hc.2.1 hd2 (tgt := (jTo (pc + 1) off).toNat) (by unfold jTo at ho ⊢; omega) (fun q => ?_) (fun q => ?_)
  · exact h2.1 (by have := e2.mp q; split at this <;> first | omega | (split at this <;> omega)) _ _ _ _ _ _ _ _ hr2
  · exact h2.2 (fun q2 => q (e2.mpr (by rw [if_neg (by omega), if_neg (by omega)]; omega))) _ _ _ _ _ _ _ _ hr2
theorem jr_icmp_ge {off : Int} (ho : 0 ≤ jTo pc off) (hc : jCx p R s mi args meth c A H0 Ts z fu sb g) (hd : decode (jBy z) pc = .ok (.if_icmp .ge off, 3)) (h : jStp z C (jP p l e R s mi args below meth c Qf D A H0 z fu sb g n0 ws0) Q pc 3 ls m (jEff z (.if_icmp .ge (jTo pc off)) 3 pc ls st m)) : jP p l e R s mi args below meth c Qf D A H0 z fu sb g n0 ws0 pc ls st m := by
  obtain ⟨b, r, rfl, h1⟩ := jI1_inv h
  obtain ⟨a, r, rfl, h2⟩ := jI1_inv h1
  intro H locs cells slots ws tys lsR stR hr0
  obtain ⟨y, rR, rfl, rfl, hr1⟩ := jRel_i hr0
  obtain ⟨x, rR, rfl, rfl, hr2⟩ := jRel_i hr1
  have e1 := @jn_eq x y
  have e2 := @jn_lt x y
  have e3 := @jn_le x y
  have e4 := @jn_lt y x
  have e5 := @jn_le y x
  refine lv_icmp_ge hc.1 hc.2.1 hd (tgt := (jTo pc off).toNat) (by unfold jTo at ho ⊢; omega) (fun q => ?_) (fun q => ?_)
  · exact h2.2 (fun q2 => by have := e5.mp q; omega) _ _ _ _ _ _ _ _ hr2
  · exact h2.1 (by have := mt e5.mpr q; omega) _ _ _ _ _ _ _ _ hr2
theorem jr_if_ge {off : Int} (ho : 0 ≤ jTo pc off) (hc : jCx p R s mi args meth c A H0 Ts z fu sb g) (hd : decode (jBy z) pc = .ok (.ifCond .ge off, 3)) (h : jStp z C (jP p l e R s mi args below meth c Qf D A H0 z fu sb g n0 ws0) Q pc 3 ls m (jEff z (.ifCond .ge (jTo pc off)) 3 pc ls st m)) : jP p l e R s mi args below meth c Qf D A H0 z fu sb g n0 ws0 pc ls st m := by
  obtain ⟨a, r, rfl, h1⟩ := jI1_inv h
  intro H locs cells slots ws tys lsR stR hr0
  obtain ⟨x, rR, rfl, rfl, hr1⟩ := jRel_i hr0
  have e1 := @jn_eq x 0
  have e2 := @jn_lt x 0
  have e3 := @jn_le x 0
  have e4 := @jn_lt 0 x
  have e5 := @jn_le 0 x
  rw [jn_0] at e1 e2 e3 e4 e5
  refine lv_if_ge hc.1 hc.2.1 hd (tgt := (jTo pc off).toNat) (by unfold jTo at ho ⊢; omega) (fun q => ?_) (fun q => ?_)
  · exact h1.2 (fun q2 => by have := e5.mp q; omega) _ _ _ _ _ _ _ _ hr1
  · exact h1.1 (by have := mt e5.mpr q; omega) _ _ _ _ _ _ _ _ hr1
theorem jr_lcmp_ge {off : Int} (ho : 0 ≤ jTo (pc + 1) off) (hc : jCx p R s mi args meth c A H0 Ts z fu sb g) (hd : decode (jBy z) pc = .ok (.lcmp, 1)) (hd2 : decode (jBy z) (pc + 1) = .ok (.ifCond .ge off, 3)) (h : jStp z C (jP p l e R s mi args below meth c Qf D A H0 z fu sb g n0 ws0) Q pc 4 ls m (jEff z (.multianewarray 3 (jTo (pc + 1) off).toNat) 4 pc ls st m)) : jP p l e R s mi args below meth c Qf D A H0 z fu sb g n0 ws0 pc ls st m := by
  obtain ⟨b, r, rfl, h1⟩ := jL1_inv h
  obtain ⟨a, r, rfl, h2⟩ := jL1_inv h1
  intro H locs cells slots ws tys lsR stR hr0
  obtain ⟨y, rR, rfl, rfl, hr1⟩ := jRel_l hr0
  obtain ⟨x, rR, rfl, rfl, hr2⟩ := jRel_l hr1
  have ec := jn_cmp x y
  have e1 := @jn_eq (lg_cmp x y) 0
  have e2 := @jn_lt (lg_cmp x y) 0
  have e3 := @jn_le (lg_cmp x y) 0
  have e4 := @jn_lt 0 (lg_cmp x y)
  have e5 := @jn_le 0 (lg_cmp x y)
  rw [jn_0, ec] at e1 e2 e3 e4 e5
  refine W.lcmp hc.1 hc.2.1 hd ?_
  refine lv_if_ge hc.1 hc.2.1 hd2 (tgt := (jTo (pc + 1) off).toNat) (by unfold jTo at ho ⊢; omega) (fun q => ?_) (fun q => ?_)
  · exact h2.2 (fun q2 => by have := e5.mp q; rw [if_neg (by omega), if_neg (by omega)] at this; omega) _ _ _ _ _ _ _ _ hr2
  · exact h2.1 (by have := mt e5.mpr q; split at this <;> first | omega | (split at this <;> omega)) _ _ _ _ _ _ _ _ hr2
theorem jr_icmp_gt {off : Int} (ho : 0 ≤ jTo pc off) (hc : jCx p R s mi args meth c A H0 Ts z fu sb g) (hd : decode (jBy z) pc = .ok (.if_icmp .gt off, 3)) (h : jStp z C (jP p l e R s mi args below meth c Qf D A H0 z fu sb g n0 ws0) Q pc 3 ls m (jEff z (.if_icmp .gt (jTo pc off)) 3 pc ls st m)) : jP p l e R s mi args below meth c Qf D A H0 z fu sb g n0 ws0 pc ls st m := by
  obtain ⟨b, r, rfl, h1⟩ := jI1_inv h
  obtain ⟨a, r, rfl, h2⟩ := jI1_inv h1
  intro H locs cells slots ws tys lsR stR hr0
  obtain ⟨y, rR, rfl, rfl, hr1⟩ := jRel_i hr0
  obtain ⟨x, rR, rfl, rfl, hr2⟩ := jRel_i hr1
  have e1 := @jn_eq x y
  have e2 := @jn_lt x y
  have e3 := @jn_le x y
  have e4 := @jn_lt y x
  have e5 := @jn_le y x
  refine lv_icmp_gt hc.1 hc.2.1 hd (tgt := (jTo pc off).toNat) (by unfold jTo at ho ⊢; omega) (fun q => ?_) (fun q => ?_)
  · exact h2.1 (e4.mp q) _ _ _ _ _ _ _ _ hr2
  · exact h2.2 (fun q2 => q (e4.mpr q2)) _ _ _ _ _ _ _ _ hr2
theorem jr_if_gt {off : Int} (ho : 0 ≤ jTo pc off) (hc : jCx p R s mi args meth c A H0 Ts z fu sb g) (hd : decode (jBy z) pc = .ok (.ifCond .gt off, 3)) (h : jStp z C (jP p l e R s mi args below meth c Qf D A H0 z fu sb g n0 ws0) Q pc 3 ls m (jEff z (.ifCond .gt (jTo pc off)) 3 pc ls st m)) : jP p l e R s mi args below meth c Qf D A H0 z fu sb g n0 ws0 pc ls st m := by
  obtain ⟨a, r, rfl, h1⟩ := jI1_inv h
  intro H locs cells slots ws tys lsR stR hr0
  obtain ⟨x, rR, rfl, rfl, hr1⟩ := jRel_i hr0
  have e1 := @jn_eq x 0
  have e2 := @jn_lt x 0
  have e3 := @jn_le x 0
  have e4 := @jn_lt 0 x
  have e5 := @jn_le 0 x
  rw [jn_0] at e1 e2 e3 e4 e5
  refine lv_if_gt hc.1 hc.2.1 hd (tgt := (jTo pc off).toNat) (by unfold jTo at ho ⊢; omega) (fun q => ?_) (fun q => ?_)
  · exact h1.1 (e4.mp q) _ _ _ _ _ _ _ _ hr1
  · exact h1.2 (fun q2 => q (e4.mpr q2)) _ _ _ _ _ _ _ _ hr1
theorem jr_lcmp_gt {off : Int} (ho : 0 ≤ jTo (pc + 1) off) (hc : jCx p R s mi args meth c A H0 Ts z fu sb g) (hd : decode (jBy z) pc = .ok (.lcmp, 1)) (hd2 : decode (jBy z) (pc + 1) = .ok (.ifCond .gt off, 3)) (h : jStp z C (jP p l e R s mi args below meth c Qf D A H0 z fu sb g n0 ws0) Q pc 4 ls m (jEff z (.multianewarray 4 (jTo (pc + 1) off).toNat) 4 pc ls st m)) : jP p l e R s mi args below meth c Qf D A H0 z fu sb g n0 ws0 pc ls st m := by
  obtain ⟨b, r, rfl, h1⟩ := jL1_inv h
  obtain ⟨a, r, rfl, h2⟩ := jL1_inv h1
  intro H locs cells slots ws tys lsR stR hr0
  obtain ⟨y, rR, rfl, rfl, hr1⟩ := jRel_l hr0
  obtain ⟨x, rR, rfl, rfl, hr2⟩ := jRel_l hr1
  have ec := jn_cmp x y
  have e1 := @jn_eq (lg_cmp x y) 0
  have e2 := @jn_lt (lg_cmp x y) 0
  have e3 := @jn_le (lg_cmp x y) 0
  have e4 := @jn_lt 0 (lg_cmp x y)
  have e5 := @jn_le 0 (lg_cmp x y)
  rw [jn_0, ec] at e1 e2 e3 e4 e5
  refine W.lcmp hc.1 hc.2.1 hd ?_
  refine lv_if_gt hc.1 hc.2.1 hd2 (tgt := (jTo (pc + 1) off).toNat) (by unfold jTo at ho ⊢; omega) (fun q => ?_) (fun q => ?_)
  · exact h2.1 (by have := e4.mp q; split at this <;> first | omega | (split at this <;> omega)) _ _ _ _ _ _ _ _ hr2
  · exact h2.2 (fun q2 => q (e4.mpr (by rw [if_pos q2]; omega))) _ _ _ _ _ _ _ _ hr2
theorem jr_icmp_le {off : Int} (ho : 0 ≤ jTo pc off) (hc : jCx p R s mi args meth c A H0 Ts z fu sb g) (hd : decode (jBy z) pc = .ok (.if_icmp .le off, 3)) (h : jStp z C (jP p l e R s mi args below meth c Qf D A H0 z fu sb g n0 ws0) Q pc 3 ls m (jEff z (.if_icmp .le (jTo pc off)) 3 pc ls st m)) : jP p l e R s mi args below meth c Qf D A H0 z fu sb g n0 ws0 pc ls st m := by
  obtain ⟨b, r, rfl, h1⟩ := jI1_inv h
  obtain ⟨a, r, rfl, h2⟩ := jI1_inv h1
  intro H locs cells slots ws tys lsR stR hr0
  obtain ⟨y, rR, rfl, rfl, hr1⟩ := jRel_i hr0
  obtain ⟨x, rR, rfl, rfl, hr2⟩ := jRel_i hr1
  have e1 := @jn_eq x y
  have e2 := @jn_lt x y
  have e3 := @jn_le x y
  have e4 := @jn_lt y x
  have e5 := @jn_le y x
  refine lv_icmp_le hc.1 hc.2.1 hd (tgt := (jTo pc off).toNat) (by unfold jTo at ho ⊢; omega) (fun q => ?_) (fun q => ?_)
  · exact h2.2 (fun q2 => by have := e3.mp q; omega) _ _ _ _ _ _ _ _ hr2
  · exact h2.1 (by have := mt e3.mpr q; omega) _ _ _ _ _ _ _ _ hr2
theorem jr_if_le {off : Int} (ho : 0 ≤ jTo pc off) (hc : jCx p R s mi args meth c A H0 Ts z fu sb g) (hd : decode (jBy z) pc = .ok (.ifCond .le off, 3)) (h : jStp z C (jP p l e R s mi args below meth c Qf D A H0 z fu sb g n0 ws0) Q pc 3 ls m (jEff z (.ifCond .le (jTo pc off)) 3 pc ls st m)) : jP p l e R s mi args below meth c Qf D A H0 z fu sb g n0 ws0 pc ls st m := by
  obtain ⟨a, r, rfl, h1⟩ := jI1_inv h
  intro H locs cells slots ws tys lsR stR hr0
  obtain ⟨x, rR, rfl, rfl, hr1⟩ := jRel_i hr0
  have e1 := @jn_eq x 0
  have e2 := @jn_lt x 0
  have e3 := @jn_le x 0
  have e4 := @jn_lt 0 x
  have e5 := @jn_le 0 x
  rw [jn_0] at e1 e2 e3 e4 e5
  refine lv_if_le hc.1 hc.2.1 hd (tgt := (jTo pc off).toNat) (by unfold jTo at ho ⊢; omega) (fun q => ?_) (fun q => ?_)
  · exact h1.2 (fun q2 => by have := e3.mp q; omega) _ _ _ _ _ _ _ _ hr1
  · exact h1.1 (by have := mt e3.mpr q; omega) _ _ _ _ _ _ _ _ hr1
theorem jr_lcmp_le {off : Int} (ho : 0 ≤ jTo (pc + 1) off) (hc : jCx p R s mi args meth c A H0 Ts z fu sb g) (hd : decode (jBy z) pc = .ok (.lcmp, 1)) (hd2 : decode (jBy z) (pc + 1) = .ok (.ifCond .le off, 3)) (h : jStp z C (jP p l e R s mi args below meth c Qf D A H0 z fu sb g n0 ws0) Q pc 4 ls m (jEff z (.multianewarray 5 (jTo (pc + 1) off).toNat) 4 pc ls st m)) : jP p l e R s mi args below meth c Qf D A H0 z fu sb g n0 ws0 pc ls st m := by
  obtain ⟨b, r, rfl, h1⟩ := jL1_inv h
  obtain ⟨a, r, rfl, h2⟩ := jL1_inv h1
  intro H locs cells slots ws tys lsR stR hr0
  obtain ⟨y, rR, rfl, rfl, hr1⟩ := jRel_l hr0
  obtain ⟨x, rR, rfl, rfl, hr2⟩ := jRel_l hr1
  have ec := jn_cmp x y
  have e1 := @jn_eq (lg_cmp x y) 0
  have e2 := @jn_lt (lg_cmp x y) 0
  have e3 := @jn_le (lg_cmp x y) 0
  have e4 := @jn_lt 0 (lg_cmp x y)
  have e5 := @jn_le 0 (lg_cmp x y)
  rw [jn_0, ec] at e1 e2 e3 e4 e5
  refine W.lcmp hc.1 hc.2.1 hd ?_
  refine lv_if_le hc.1 hc.2.1 hd2 (tgt := (jTo (pc + 1) off).toNat) (by unfold jTo at ho ⊢; omega) (fun q => ?_) (fun q => ?_)
  · exact h2.2 (fun q2 => by have := e3.mp q; rw [if_pos q2] at this; omega) _ _ _ _ _ _ _ _ hr2
  · exact h2.1 (by have := mt e3.mpr q; split at this <;> first | omega | (split at this <;> omega)) _ _ _ _ _ _ _ _ hr2
/-! memory -/
theorem jHas_BW {c : Jvm.Cond} (h : c ∈ lw_tbl) (hg : goodWord c = true) : c ∈ jBW := List.mem_filter.mpr ⟨h, hg⟩
theorem jLookup_mem {β : Type} {l : List (Nat × β)} {i : Nat} {v : β} (h : l.lookup i = some v) : (i, v) ∈ l := by
  induction l with
  | nil => cases h
  | cons a l ih =>
    obtain ⟨a1, a2⟩ := a
    rw [List.lookup_cons] at h
    cases hb : (i == a1) with
    | true =>
      rw [hb] at h
      cases h
      have : i = a1 := by simpa using hb
      subst this
      exact List.mem_cons_self
    | false =>
      rw [hb] at h
      exact List.mem_cons_of_mem _ (ih h)
theorem jAll16 {α : Type} {L : List (List α)} {f : Nat → α → Bool} (h : (List.range 16).all (fun own => (L.getD own []).all (f own)) = true) {own : Nat} (ho : own < 16) {q : α} (hq : q ∈ L.getD own []) : f own q = true :=
  List.all_eq_true.mp (List.all_eq_true.mp h own (List.mem_range.mpr ho)) q hq
theorem jCf_ok {own i f w : Nat} (ho : own < 16) (h : (jCfs.getD own []).lookup i = some (f, w)) : Jvm.Cond.fieldLink (jRn own) i (jTf f).1 (jTf f).2.1 (jTf f).2.2.1 ∈ jBW ∧ jFc f < 12 ∧ jFj f < jNf (jFc f) ∧ jFf (jFc f) (jFj f) = f := by
  have := jAll16 jCf_all ho (jLookup_mem h)
  simp only [Bool.and_eq_true, decide_eq_true_eq] at this
  exact ⟨jHas_BW (jHas_mem this.1) rfl, this.2⟩
theorem jVc_at {c : Nat} (h : c < 12) : jVc[c]? = some (jRn c, jTc c, jNf c) := by
  match c, h with
  | 0, _ => rfl
  | 1, _ => rfl
  | 2, _ => rfl
  | 3, _ => rfl
  | 4, _ => rfl
  | 5, _ => rfl
  | 6, _ => rfl
  | 7, _ => rfl
  | 8, _ => rfl
  | 9, _ => rfl
  | 10, _ => rfl
  | 11, _ => rfl
theorem jLay_in {c : Nat} (h : c < 12) : ∀ w ∈ u_ws (jRn c) (jTc c) (jNf c), w ∈ jBW := by
  intro w hw
  obtain ⟨j, hj, rfl⟩ := List.mem_map.mp hw
  have h1 := List.all_eq_true.mp (List.all_eq_true.mp jLay_all c (List.mem_range.mpr h)) j hj
  refine jHas_BW (jHas_mem h1) ?_
  unfold u_lay
  split <;> rfl
theorem jFld_ok {c j : Nat} (hc : c < 12) (hj : j < jNf c) : jFc (jFf c j) = c ∧ jFj (jFf c j) = j ∧ jFg (jFf c j) ≤ 5 ∧ (jFg (jFf c j) = 0 → jTy c j = .int ∧ (jTc c j).2.2.2 = false) ∧ (jFg (jFf c j) = 1 → jTy c j = .long ∧ (jTc c j).2.2.2 = false) ∧ (jFg (jFf c j) = 2 → jTy c j = .boolean ∧ (jTc c j).2.2.2 = false) ∧ (jFg (jFf c j) = 5 → (jTy c j).isReference = true ∧ (jTc c j).2.2.2 = false) ∧ (3 ≤ jFg (jFf c j) ∧ jFg (jFf c j) ≤ 4 → (jTy c j).isReference = true ∧ (jTc c j).2.2.2 = true ∧ (jTc c j).1 = jRn c) :=
  of_decide_eq_true (List.all_eq_true.mp (List.all_eq_true.mp jFlds c (List.mem_range.mpr hc)) j (List.mem_range.mpr hj))
theorem jLay_ok {k j : Nat} (hk : k < 161) (hd : jKd k < 12) (hj : j < jNf (jKd k)) : (jFg (jFf (jKd k) j) = 3 → jKd ((k : Int) + jFo (jFf (jKd k) j)) = jFt (jFf (jKd k) j)) ∧ (jFg (jFf (jKd k) j) = 4 → jKd ((k : Int) + jFo (jFf (jKd k) j)) = 20 + jFt (jFf (jKd k) j) ∧ jLn ((k : Int) + jFo (jFf (jKd k) j)) = jFl (jFf (jKd k) j) ∧ jFt (jFf (jKd k) j) < 4) := by
  have h1 := List.all_eq_true.mp jLayR k (List.mem_range.mpr hk)
  rw [if_pos hd] at h1
  exact of_decide_eq_true (List.all_eq_true.mp h1 j (List.mem_range.mpr hj))
theorem jKd_ok {k : Nat} (hk : k < 161) : 0 ≤ jLn k ∧ jLn k ≤ 20000 ∧ (jKd k < 12 → (jLn k).toNat = jNf (jKd k)) ∧ (jKd k < 12 ∨ jKd k = 20 ∨ jKd k = 21 ∨ jKd k = 22 ∨ jKd k = 23) :=
  of_decide_eq_true (List.all_eq_true.mp jKd_ln k (List.mem_range.mpr hk))
theorem jRf_lt (hW : jWd fu ws tys m) {k : Int} {a : Nat} (h : jRf ws k a) : k.toNat < ws.length ∧ k.toNat < 161 ∧ (k.toNat : Int) = k := by
  obtain ⟨h0, e, he⟩ := h
  have hl : k.toNat < ws.length := (List.getElem?_eq_some_iff.mp he).1
  have := hW.2.1
  exact ⟨hl, by omega, by omega⟩
/-- the value of a field that is read -/
theorem jr_val (hW : jWd fu ws tys m) {k : Int} {q j f : Nat} {v : Value} (hr : jRf ws k q) (hd : jKd k < 12) (hj : j < jNf (jKd k)) (hf : jFf (jKd k) j = f) (hv : jFv fu ws k f (m k j) v) :
    ((jFg f = 0 ∨ jFg f = 2) → jVr ws sb (.inl (m k j)) v) ∧ (jFg f = 1 → jVr ws sb (.inr (.inl (m k j))) v) ∧ (jFg f = 3 → (fu = true ∨ m k j = k + jFo f) → jVr ws sb (.inr (.inr (.inl (jFt f, k + jFo f)))) v) ∧ (jFg f = 4 → (fu = true ∨ m k j = k + jFo f) → jVr ws sb (.inr (.inr (.inr (jFt f, (jFl f : Int), k + jFo f)))) v) ∧ (jFg f = 5 → fu = true → jVr ws sb (.inr (.inr (.inl (jFt f, m k j)))) v) := by
  obtain ⟨h1, h2, h3⟩ := jRf_lt hW hr
  have hL : (jFg f = 3 → jKd (k + jFo f) = jFt f) ∧ (jFg f = 4 → jKd (k + jFo f) = 20 + jFt f ∧ jLn (k + jFo f) = jFl f ∧ jFt f < 4) := by
    have := @jLay_ok k.toNat j h2 (by rw [h3]; exact hd) (by rw [h3]; exact hj)
    rw [h3, hf] at this
    exact this
  rcases hv with ⟨g, x, rfl, hx⟩ | ⟨g, x, rfl, hx⟩ | ⟨g, hv⟩ | ⟨g, hv⟩
  · exact ⟨fun _ => ⟨x, rfl, hx⟩, fun q => by omega, fun q => by omega, fun q => by omega, fun q => by omega⟩
  · exact ⟨fun q => by omega, fun _ => ⟨x, rfl, hx⟩, fun q => by omega, fun q => by omega, fun q => by omega⟩
  · refine ⟨fun q => by omega, fun q => by omega, fun q1 q2 => ?_, fun q1 q2 => ?_, fun q => by omega⟩
    · rcases hv with ⟨e1, e2, e3⟩ | ⟨e1, u, e2, e3⟩
      · rcases q2 with q2 | q2
        · rw [e1] at q2; cases q2
        · rw [e2] at q2; have := hr.1; omega
      · exact ⟨hL.1 q1, u, e2, by rw [← e1]; exact e3⟩
    · rcases hv with ⟨e1, e2, e3⟩ | ⟨e1, u, e2, e3⟩
      · rcases q2 with q2 | q2
        · rw [e1] at q2; cases q2
        · rw [e2] at q2; have := hr.1; omega
      · obtain ⟨l1, l2, l3⟩ := hL.2 q1
        exact Or.inl ⟨l3, l1, l2, u, e2, by rw [← e1]; exact e3⟩
  · refine ⟨fun q => by omega, fun q => by omega, fun q => by omega, fun q => by omega, fun q1 q2 => ?_⟩
    rcases hv with ⟨e1, e2, e3⟩ | ⟨e1, u, e2, e3⟩
    · rw [e1] at q2; cases q2
    · exact ⟨e1, u, e2, e3⟩
/-- the reading itself -/
theorem jr_rd (hc : jCx p R s mi args meth c A H0 Ts z fu sb g) {i f : Nat} (hz : jCl z < 16) (hl : Jvm.Cond.fieldLink (jRn (jCl z)) i (jTf f).1 (jTf f).2.1 (jTf f).2.2.1 ∈ jBW) (h12 : jFc f < 12) (hj : jFj f < jNf (jFc f)) (hf : jFf (jFc f) (jFj f) = f) {a : Int} {r : List jV} (hr : jRel R s D A H0 z fu sb g n0 ws0 H locs cells slots ws tys lsR stR ls (.inr (.inr (.inl (jFc f, a))) :: r) m) (hd : decode (jBy z) pc = .ok (.getfield i, 3)) :
    ∃ (q : Nat) (v : Value) (rR : List Value), stR = .ref q :: rR ∧ jRf ws a q ∧ jKd a = jFc f ∧ jFv fu ws a f (m a (jFj f)) v ∧ jRel R s D A H0 z fu sb g n0 ws0 H locs cells slots ws tys lsR rR ls r m ∧ (W p l e R s mi args below meth c H locs cells slots Qf (F0 mi (pc + 3) lsR (v :: rR)) → W p l e R s mi args below meth c H locs cells slots Qf (F0 mi pc lsR (.ref q :: rR))) := by
  obtain ⟨q, rR, rfl, ⟨hk, q', e1, hrf⟩, hr1⟩ := jRel_r hr
  cases e1
  have hW := hr1.1.2.2.2.2
  obtain ⟨vs, k1, k2, k3⟩ := jWd_obj hW hrf (by rw [hk]; exact h12)
  rw [hk] at k1 k2 k3
  obtain ⟨v, k4, k5⟩ := k3 (jFj f) hj
  rw [hf] at k5
  exact ⟨q, v, rR, rfl, hrf, hk, k5, hr1, fun kk => va_get (own := jRn (jCl z)) (ref := (jTf f).1) (C := jRn (jFc f)) (T := jTc (jFc f)) (N := jNf (jFc f)) (ci := jFc f) (ws := ws) hc.1 hc.2.1 hc.2.2.2.2.1 (fun w hw => hc.2.2.2.2.2.1 _ (jLay_in h12 w hw)) hc.2.2.2.1 hr1.1.2.2.1 hr1.1.1 a.toNat k1 (jVc_at h12) (jFj f) hj (hc.2.2.2.2.1 _ (hc.2.2.2.2.2.1 _ hl)) (fun _ hx => hx) k4 hd kk⟩
theorem jr_getfield (hc : jCx p R s mi args meth c A H0 Ts z fu sb g) {i f : Nat} (hz : jCl z < 16) (hl : Jvm.Cond.fieldLink (jRn (jCl z)) i (jTf f).1 (jTf f).2.1 (jTf f).2.2.1 ∈ jBW) (h12 : jFc f < 12) (hj : jFj f < jNf (jFc f)) (hf : jFf (jFc f) (jFj f) = f) (hd : decode (jBy z) pc = .ok (.getfield i, 3)) (h : jStp z C (jP p l e R s mi args below meth c Qf D A H0 z fu sb g n0 ws0) Q pc 3 ls m (jEff z (.getfield f) 3 pc ls st m)) : jP p l e R s mi args below meth c Qf D A H0 z fu sb g n0 ws0 pc ls st m := by
  obtain ⟨ci, a, r, rfl, h1⟩ := jO1_inv h
  unfold jGet at h1
  by_cases hci : ci = jFc f
  · subst hci
    rw [if_pos rfl] at h1
    intro H locs cells slots ws tys lsR stR hr
    obtain ⟨q, v, rR, rfl, hrf, hk, hv, hr1, kk⟩ := jr_rd (l := l) (e := e) (below := below) (Qf := Qf) hc hz hl h12 hj hf hr hd
    have hW := hr1.1.2.2.2.2
    obtain ⟨v0, v1, v3, v4, v5⟩ := jr_val (sb := sb) hW hrf (by rw [hk]; exact h12) (by rw [hk]; exact hj) (by rw [hk]; exact hf) hv
    refine kk ?_
    split at h1
    · exact h1 _ _ _ _ _ _ _ _ (jRel_pv hr1 (v0 (Or.inl ‹_›)))
    · exact h1 _ _ _ _ _ _ _ _ (jRel_pv hr1 (v1 ‹_›))
    · exact h1 _ _ _ _ _ _ _ _ (jRel_pv hr1 (v0 (Or.inr ‹_›)))
    · split at h1
      · exact h1 _ _ _ _ _ _ _ _ (jRel_pv hr1 (v3 ‹_› (Or.inl (hc.2.2.2.2.2.2.2.2.2.2.1 ‹_›))))
      · split at h1
        · exact h1.2 _ _ _ _ _ _ _ _ (jRel_pv hr1 (v3 ‹_› (Or.inr h1.1)))
        · exact h1.elim
    · split at h1
      · exact h1 _ _ _ _ _ _ _ _ (jRel_pv hr1 (v4 ‹_› (Or.inl (hc.2.2.2.2.2.2.2.2.2.2.1 ‹_›))))
      · split at h1
        · exact h1.2 _ _ _ _ _ _ _ _ (jRel_pv hr1 (v4 ‹_› (Or.inr h1.1)))
        · exact h1.elim
    · split at h1
      · exact h1 _ _ _ _ _ _ _ _ (jRel_pv hr1 (v5 ‹_› (hc.2.2.2.2.2.2.2.2.2.2.1 ‹_›)))
      · exact h1.elim
    · exact h1.elim
  · rw [if_neg hci] at h1
    exact h1.elim
theorem jr_arraylength (hc : jCx p R s mi args meth c A H0 Ts z fu sb g) (hd : decode (jBy z) pc = .ok (.arraylength, 1)) (h : jStp z C (jP p l e R s mi args below meth c Qf D A H0 z fu sb g n0 ws0) Q pc 1 ls m (jEff z .arraylength 1 pc ls st m)) : jP p l e R s mi args below meth c Qf D A H0 z fu sb g n0 ws0 pc ls st m := by
  obtain ⟨t, n, a, r, rfl, h1⟩ := jY1_inv h
  intro H locs cells slots ws tys lsR stR hr
  obtain ⟨q, rR, rfl, hv, hr1⟩ := jRel_r hr
  have hW := hr1.1.2.2.2.2
  have hK := hr1.1.2.2.1
  have hP := hr1.1.1
  rcases hv with ⟨h4, hk, hn, q', e1, hrf⟩ | ⟨h4, b, L, hs, hn, ha, e1⟩
  · cases e1
    obtain ⟨l1, l2, l3⟩ := jRf_lt hW hrf
    have hb := jKd_ok l2
    rw [l3, hn] at hb
    have fin : ∀ (x : Int32), x = Int32.ofNat n.toNat → n = x.toInt := by
      intro x hx
      subst hx
      have : (nI n.toNat).toInt = (n.toNat : Int) := nI_toInt (by omega)
      rw [show Int32.ofNat n.toNat = nI n.toNat from rfl, this]
      omega
    have h4' : t = 0 ∨ t = 1 ∨ t = 2 ∨ t = 3 := by omega
    rcases h4' with rfl | rfl | rfl | rfl
    · obtain ⟨cA, f, t0, k1, k2, k3⟩ := jWd_int hW hrf hk
      rw [hn] at k1
      exact va_alen hc.1 hc.2.1 hK hP a.toNat t0 (ty := .int) k1 k2 rfl hd (h1 _ _ _ _ _ _ _ _ (jRel_pi hr1 (fin _ rfl)))
    · obtain ⟨cA, f, t0, k1, k2, k3⟩ := jWd_lng hW hrf hk
      rw [hn] at k1
      exact va_alen hc.1 hc.2.1 hK hP a.toNat t0 (ty := .long) k1 k2 rfl hd (h1 _ _ _ _ _ _ _ _ (jRel_pi hr1 (fin _ rfl)))
    · obtain ⟨cA, f, t0, k1, k2, k3⟩ := jWd_ref hW hrf (Or.inl hk)
      rw [hn] at k1
      exact va_alen hc.1 hc.2.1 hK hP a.toNat t0 k1 k2 rfl hd (h1 _ _ _ _ _ _ _ _ (jRel_pi hr1 (fin _ rfl)))
    · obtain ⟨cA, f, t0, k1, k2, k3⟩ := jWd_ref hW hrf (Or.inr hk)
      rw [hn] at k1
      exact va_alen hc.1 hc.2.1 hK hP a.toNat t0 k1 k2 rfl hd (h1 _ _ _ _ _ _ _ _ (jRel_pi hr1 (fin _ rfl)))
  · cases e1
    obtain ⟨hL, xs, hX, hbl, hbA, hxs⟩ := hc.2.2.2.2.2.2.2.2.2.2.2.2 q L hs
    refine va_slen hc.1 hc.2.1 hX hbl hbA hr1.1.2.2.2.1 hd (h1 _ _ _ _ _ _ _ _ (jRel_pi hr1 ?_))
    rw [hn]
    exact (nI_toInt hL).symm
theorem jr_iaload (hc : jCx p R s mi args meth c A H0 Ts z fu sb g) (hd : decode (jBy z) pc = .ok (.iaload, 1)) (h : jStp z C (jP p l e R s mi args below meth c Qf D A H0 z fu sb g n0 ws0) Q pc 1 ls m (jEff z .iaload 1 pc ls st m)) : jP p l e R s mi args below meth c Qf D A H0 z fu sb g n0 ws0 pc ls st m := by
  obtain ⟨i, r, rfl, h1⟩ := jI1_inv h
  obtain ⟨t, n, a, r, rfl, h2⟩ := jY1_inv h1
  obtain ⟨ht, h3⟩ := jIf_inv h2
  intro H locs cells slots ws tys lsR stR hr
  obtain ⟨x, rR, rfl, rfl, hr0⟩ := jRel_i hr
  obtain ⟨q, rR, rfl, hv, hr1⟩ := jRel_r hr0
  have hW := hr1.1.2.2.2.2
  have hi := jn_in h3.1
  have hcl := jn_cl h3.1.1
  obtain ⟨hb0, hb1⟩ := h3.1
  rcases hv with ⟨h4, hk, hn, q', e1, hrf⟩ | ⟨h4, b, L, hs, hn, ha, e1⟩
  · cases e1
    have ht : t = 0 := by omega
    subst ht
    obtain ⟨cA, f, t0, k1, k2, k3⟩ := jWd_int hW hrf hk
    rw [hn] at k1 k3
    refine va_iald hc.1 hc.2.1 hr1.1.2.2.1 hr1.1.1 a.toNat t0 k1 k2 hi hd ?_
    have k4 := k3 x.toNatClampNeg (by omega)
    rw [hcl] at k4
    exact h3.2 _ _ _ _ _ _ _ _ (jRel_pi hr1 k4)
  · cases e1
    subst ha
    obtain ⟨hL, xs, hX, hbl, hbA, hxs⟩ := hc.2.2.2.2.2.2.2.2.2.2.2.2 q L hs
    have hi2 : vp_in x L := by
      have := hi
      rw [hn] at this
      simpa using this
    refine va_sld hc.1 hc.2.1 hX hbl hbA hr1.1.2.2.2.1 hi2 hd ?_
    have k4 := hxs x.toNatClampNeg (by omega)
    rw [hcl] at k4
    exact h3.2 _ _ _ _ _ _ _ _ (jRel_pi hr1 (by rw [hr1.2.2.2.1]; exact k4))
theorem jr_laload (hc : jCx p R s mi args meth c A H0 Ts z fu sb g) (hd : decode (jBy z) pc = .ok (.laload, 1)) (h : jStp z C (jP p l e R s mi args below meth c Qf D A H0 z fu sb g n0 ws0) Q pc 1 ls m (jEff z .laload 1 pc ls st m)) : jP p l e R s mi args below meth c Qf D A H0 z fu sb g n0 ws0 pc ls st m := by
  obtain ⟨i, r, rfl, h1⟩ := jI1_inv h
  obtain ⟨t, n, a, r, rfl, h2⟩ := jY1_inv h1
  obtain ⟨ht, h3⟩ := jIf_inv h2
  intro H locs cells slots ws tys lsR stR hr
  obtain ⟨x, rR, rfl, rfl, hr0⟩ := jRel_i hr
  obtain ⟨q, rR, rfl, hv, hr1⟩ := jRel_r hr0
  have hW := hr1.1.2.2.2.2
  have hi := jn_in h3.1
  have hcl := jn_cl h3.1.1
  obtain ⟨hb0, hb1⟩ := h3.1
  rcases hv with ⟨h4, hk, hn, q', e1, hrf⟩ | ⟨h4, -⟩
  · cases e1
    subst ht
    obtain ⟨cA, f, t0, k1, k2, k3⟩ := jWd_lng hW hrf hk
    rw [hn] at k1 k3
    refine va_lald hc.1 hc.2.1 hr1.1.2.2.1 hr1.1.1 a.toNat t0 k1 k2 hi hd ?_
    have k4 := k3 x.toNatClampNeg (by omega)
    rw [hcl] at k4
    exact h3.2 _ _ _ _ _ _ _ _ (jRel_pl hr1 k4)
  · omega
theorem jr_aaload (hc : jCx p R s mi args meth c A H0 Ts z fu sb g) (hd : decode (jBy z) pc = .ok (.aaload, 1)) (h : jStp z C (jP p l e R s mi args below meth c Qf D A H0 z fu sb g n0 ws0) Q pc 1 ls m (jEff z .aaload 1 pc ls st m)) : jP p l e R s mi args below meth c Qf D A H0 z fu sb g n0 ws0 pc ls st m := by
  obtain ⟨i, r, rfl, h1⟩ := jI1_inv h
  obtain ⟨t, n, a, r, rfl, h2⟩ := jY1_inv h1
  obtain ⟨ht, h3⟩ := jIf_inv h2
  intro H locs cells slots ws tys lsR stR hr
  obtain ⟨x, rR, rfl, rfl, hr0⟩ := jRel_i hr
  obtain ⟨q, rR, rfl, hv, hr1⟩ := jRel_r hr0
  have hW := hr1.1.2.2.2.2
  have hi := jn_in h3.1
  have hcl := jn_cl h3.1.1
  obtain ⟨hb0, hb1⟩ := h3.1
  rcases hv with ⟨h4, hk, hn, q', e1, hrf⟩ | ⟨h4, -⟩
  · cases e1
    obtain ⟨cA, f, t0, k1, k2, k3⟩ := jWd_ref hW hrf (by omega)
    rw [hn] at k1 k3
    refine va_aldq hc.1 hc.2.1 hr1.1.2.2.1 hr1.1.1 a.toNat t0 k1 k2 hi hd ?_
    have k4 := k3 x.toNatClampNeg (by omega)
    rw [hcl] at k4
    rcases k4 with ⟨k4, -⟩ | ⟨k4, u, k5, k6⟩
    · rw [hc.2.2.2.2.2.2.2.2.2.2.1 ht.1] at k4
      cases k4
    · rw [k5]
      exact h3.2 _ _ _ _ _ _ _ _ (jRel_pv hr1 ⟨by omega, u, rfl, k6⟩)
  · omega
/-- the world behind a store -/
theorem jRel_set (h : jRel R s D A H0 z fu sb g n0 ws0 H locs cells slots ws tys lsR stR ls st m) {k a : Nat} {e0 e1 : va_E} {H1 : Heap} {locs1 : List Loc} {m' : jM} (hk : ws[k]? = some (a, e0)) (hP : va_P D jVc (ws.set k (a, e1)) H1) (hD : va_D A (ws.set k (a, e1))) (hS : va_S A H0 H1 locs1) (hW : jWd fu (ws.set k (a, e1)) tys m') (h2 : ∀ j, m' (-2) j = m (-2) j) (h3 : m' (-2) (-7) = m (-2) (-7)) :
    jRel R s D A H0 z fu sb g n0 ws0 H1 locs1 cells slots (ws.set k (a, e1)) tys lsR stR ls st m' := by
  obtain ⟨⟨g1, g2, g3, g4, g5⟩, g6, g7, g8, g9, g10⟩ := h
  have hx := jEx_set hk e1
  refine ⟨⟨hP, hD, g3, hS, hW⟩, jLr_ex hx g6, jSr_ex hx g7, fun j => (h2 j).trans (g8 j), ?_, jEx_tr g10 hx⟩
  unfold jBd at g9 ⊢
  rw [List.length_set, h3]
  exact g9
theorem jr_iastore (hc : jCx p R s mi args meth c A H0 Ts z fu sb g) (hd : decode (jBy z) pc = .ok (.iastore, 1)) (h : jStp z C (jP p l e R s mi args below meth c Qf D A H0 z fu sb g n0 ws0) Q pc 1 ls m (jEff z .iastore 1 pc ls st m)) : jP p l e R s mi args below meth c Qf D A H0 z fu sb g n0 ws0 pc ls st m := by
  obtain ⟨v, r, rfl, h0⟩ := jI1_inv h
  obtain ⟨i, r, rfl, h1⟩ := jI1_inv h0
  obtain ⟨t, n, a, r, rfl, h2⟩ := jY1_inv h1
  obtain ⟨ht, h3⟩ := jIf_inv h2
  subst ht
  intro H locs cells slots ws tys lsR stR hr
  obtain ⟨y, rR, rfl, rfl, hr00⟩ := jRel_i hr
  obtain ⟨x, rR, rfl, rfl, hr0⟩ := jRel_i hr00
  obtain ⟨q, rR, rfl, hv, hr1⟩ := jRel_r hr0
  have hW := hr1.1.2.2.2.2
  have hi := jn_in h3.1
  have hcl := jn_cl h3.1.1
  obtain ⟨hb0, hb1⟩ := h3.1
  rcases hv with ⟨h4, hk, hn, q', e1, hrf⟩ | ⟨h4, -⟩
  · cases e1
    obtain ⟨cA, f, t0, k1, k2, k3⟩ := jWd_int hW hrf hk
    obtain ⟨l1, l2, l3⟩ := jRf_lt hW hrf
    refine va_iast hc.1 hc.2.1 hr1.1.2.2.1 hr1.1.1 hr1.1.2.1 hr1.1.2.2.2.1 a.toNat t0 k1 k2 (by rw [hn]; exact hi) hd (fun H1 locs1 hP hD hS => ?_)
    have hw := jWd_iast (i := x.toNatClampNeg) hW k1 (by rw [l3]; exact hk) k2 (by rw [l3]) (by rw [l3]; exact k3) y
    rw [l3, hcl] at hw
    exact h3.2 _ _ _ _ _ _ _ _ (jRel_set hr1 k1 hP hD hS hw (fun j => jUp_ne (by omega)) (jUp_ne (by omega)))
  · omega
theorem jr_lastore (hc : jCx p R s mi args meth c A H0 Ts z fu sb g) (hd : decode (jBy z) pc = .ok (.lastore, 1)) (h : jStp z C (jP p l e R s mi args below meth c Qf D A H0 z fu sb g n0 ws0) Q pc 1 ls m (jEff z .lastore 1 pc ls st m)) : jP p l e R s mi args below meth c Qf D A H0 z fu sb g n0 ws0 pc ls st m := by
  obtain ⟨v, r, rfl, h0⟩ := jL1_inv h
  obtain ⟨i, r, rfl, h1⟩ := jI1_inv h0
  obtain ⟨t, n, a, r, rfl, h2⟩ := jY1_inv h1
  obtain ⟨ht, h3⟩ := jIf_inv h2
  subst ht
  intro H locs cells slots ws tys lsR stR hr
  obtain ⟨y, rR, rfl, rfl, hr00⟩ := jRel_l hr
  obtain ⟨x, rR, rfl, rfl, hr0⟩ := jRel_i hr00
  obtain ⟨q, rR, rfl, hv, hr1⟩ := jRel_r hr0
  have hW := hr1.1.2.2.2.2
  have hi := jn_in h3.1
  have hcl := jn_cl h3.1.1
  obtain ⟨hb0, hb1⟩ := h3.1
  rcases hv with ⟨h4, hk, hn, q', e1, hrf⟩ | ⟨h4, -⟩
  · cases e1
    obtain ⟨cA, f, t0, k1, k2, k3⟩ := jWd_lng hW hrf hk
    obtain ⟨l1, l2, l3⟩ := jRf_lt hW hrf
    refine va_last hc.1 hc.2.1 hr1.1.2.2.1 hr1.1.1 hr1.1.2.1 hr1.1.2.2.2.1 a.toNat t0 k1 k2 (by rw [hn]; exact hi) hd (fun H1 locs1 hP hD hS => ?_)
    have hw := jWd_last (i := x.toNatClampNeg) hW k1 (by rw [l3]; exact hk) k2 (by rw [l3]) (by rw [l3]; exact k3) y
    rw [l3, hcl] at hw
    exact h3.2 _ _ _ _ _ _ _ _ (jRel_set hr1 k1 hP hD hS hw (fun j => jUp_ne (by omega)) (jUp_ne (by omega)))
  · omega
theorem jr_aastore (hc : jCx p R s mi args meth c A H0 Ts z fu sb g) (hd : decode (jBy z) pc = .ok (.aastore, 1)) (h : jStp z C (jP p l e R s mi args below meth c Qf D A H0 z fu sb g n0 ws0) Q pc 1 ls m (jEff z .aastore 1 pc ls st m)) : jP p l e R s mi args below meth c Qf D A H0 z fu sb g n0 ws0 pc ls st m := by
  obtain ⟨ci, b, r, rfl, h0⟩ := jO1_inv h
  obtain ⟨i, r, rfl, h1⟩ := jI1_inv h0
  obtain ⟨t, n, a, r, rfl, h2⟩ := jY1_inv h1
  obtain ⟨ht, h3⟩ := jIf_inv h2
  intro H locs cells slots ws tys lsR stR hr
  obtain ⟨qb, rR, rfl, ⟨hkb, qb', eb, hrb⟩, hr00⟩ := jRel_r hr
  cases eb
  obtain ⟨x, rR, rfl, rfl, hr0⟩ := jRel_i hr00
  obtain ⟨q, rR, rfl, hv, hr1⟩ := jRel_r hr0
  have hW := hr1.1.2.2.2.2
  have hi := jn_in h3.1
  have hcl := jn_cl h3.1.1
  obtain ⟨hb0, hb1⟩ := h3.1
  rcases hv with ⟨h4, hk, hn, q', e1, hrf⟩ | ⟨h4, -⟩
  · cases e1
    obtain ⟨cA, f, t0, k1, k2, k3⟩ := jWd_ref hW hrf (by omega)
    obtain ⟨l1, l2, l3⟩ := jRf_lt hW hrf
    have hcc : ci = jKd a - 16 := by omega
    have h12 : ci < 12 := by omega
    obtain ⟨vs, o1, o2, o3⟩ := jWd_obj hW hrb (by rw [hkb]; exact h12)
    rw [hkb] at o1
    refine va_astq (r := (jRn ci, jTc ci, jNf ci)) hc.1 hc.2.1 hr1.1.2.2.1 hr1.1.1 hr1.1.2.1 hr1.1.2.2.2.1 a.toNat t0 b.toNat ci k1 (by rw [hcc]; exact k2) o1 (jVc_at h12) (by rw [hn]; exact hi) hd (fun H1 locs1 hP hD hS => ?_)
    have hw := jWd_aast (i := x.toNatClampNeg) (b := b) (q := qb) hW k1 (by rw [l3]; omega) (by rw [l3]; exact k2) (by rw [l3]) (by rw [l3]; exact k3) (by rw [l3]; omega) hrb
    rw [l3, hcl] at hw
    exact h3.2 _ _ _ _ _ _ _ _ (jRel_set hr1 k1 hP hD hS hw (fun j => jUp_ne (by omega)) (jUp_ne (by omega)))
  · omega
end ROWS
end
section
/-! more rows: fields written, cells made, arraycopy, Object.<init>, switches -/
section ROWS2
variable {p : Program} {l : Launch} {e : Env} {R : Room} {s : State} {mi : MethodId} {args : Array Value} {below : List Frame} {meth : Method} {c : Code} {Qf : State → Prop} {D : va_G} {A : Nat → Prop} {H0 : Heap} {Ts : List Jvm.Cond} {z : Nat} {fu : Bool} {sb : Option (Nat × Nat)} {g : Int → Int} {n0 : Nat} {ws0 : va_W}
variable {pc : Nat} {ls : jS} {st : List jV} {m : jM} {C : Nat → List jV → jM → (Int → jM → Prop) → Prop} {Q : Int → jM → Prop}
variable {H : Heap} {locs : List Loc} {cells slots : Nat} {ws : va_W} {tys : List (ClassId × FieldType)} {lsR : Array Slot} {stR : List Value}
theorem jNarR {ty : FieldType} (h : ty.isReference = true) (q : Nat) : narrow ty (.ref q) = .ref q ∧ fits ty (.ref q) = true := by
  cases ty <;> first | exact ⟨rfl, rfl⟩ | cases h
theorem jNarB {x : Int32} (h : x.toInt = 0 ∨ x.toInt = 1) : narrow .boolean (.int x) = .int x ∧ fits .boolean (.int x) = true := by
  have hx : x = 0 ∨ x = 1 := by
    rcases h with h | h
    · exact Or.inl (jn_eq.mpr (by rw [h]; decide))
    · exact Or.inr (jn_eq.mpr (by rw [h]; decide))
  rcases hx with rfl | rfl <;> exact ⟨rfl, rfl⟩
theorem jr_putfield (hc : jCx p R s mi args meth c A H0 Ts z fu sb g) {i f : Nat} (hl : Jvm.Cond.fieldLink (jRn (jCl z)) i (jTf f).1 (jTf f).2.1 (jTf f).2.2.1 ∈ jBW) (h12 : jFc f < 12) (hj : jFj f < jNf (jFc f)) (hf : jFf (jFc f) (jFj f) = f) (hown : (jFg f = 3 ∨ jFg f = 4) → jFc f = jCl z) (hd : decode (jBy z) pc = .ok (.putfield i, 3)) (h : jStp z C (jP p l e R s mi args below meth c Qf D A H0 z fu sb g n0 ws0) Q pc 3 ls m (jEff z (.putfield f) 3 pc ls st m)) : jP p l e R s mi args below meth c Qf D A H0 z fu sb g n0 ws0 pc ls st m := by
  obtain ⟨v, r, rfl, h0⟩ := jV1_inv h
  obtain ⟨ci, a, r, rfl, h1⟩ := jO1_inv h0
  unfold jPut at h1
  by_cases hci : ci = jFc f
  · subst hci
    rw [if_pos rfl] at h1
    intro H locs cells slots ws tys lsR stR hr
    obtain ⟨w, rR, rfl, hv, hr0⟩ := jRel_v hr
    obtain ⟨q, rR, rfl, ⟨hk, q', e1, hrf⟩, hr1⟩ := jRel_r hr0
    cases e1
    have hW := hr1.1.2.2.2.2
    obtain ⟨vs, k1, k2, k3⟩ := jWd_obj hW hrf (by rw [hk]; exact h12)
    obtain ⟨l1, l2, l3⟩ := jRf_lt hW hrf
    obtain ⟨o1, o2, o3, o4, o5, o6, o7, o8⟩ := jFld_ok h12 hj
    rw [hf] at o3 o4 o5 o6 o7 o8
    have hts : ∀ w ∈ u_ws (jRn (jFc f)) (jTc (jFc f)) (jNf (jFc f)), w ∈ Ts := fun w hw => hc.2.2.2.2.2.1 _ (jLay_in h12 w hw)
    have hlk := hc.2.2.2.2.1 _ (hc.2.2.2.2.2.1 _ hl)
    have hw : ∀ b : Int, jFv fu ws a f b w → jWd fu (ws.set a.toNat (q, .inr (jKd a, vs.set (jFj f) w))) tys (jUp m a (jFj f) b) := by
      intro b hb
      have := jWd_put (k := a.toNat) (j := jFj f) (b := b) (v := w) hW (by rw [l3]; exact k1) (by rw [l3, hk]; exact h12) (by rw [l3]; exact k2) (by rw [l3]; exact k3) (by rw [l3, hk]; exact hj) (by rw [l3, hk, hf]; exact hb)
      rw [l3] at this
      exact this
    have go : ∀ b : Int, jFv fu ws a f b w → narrow (jTy (jFc f) (jFj f)) w = w → fits (jTy (jFc f) (jFj f)) w = true → (jTc (jFc f) (jFj f)).2.2.2 = false → jP p l e R s mi args below meth c Qf D A H0 z fu sb g n0 ws0 (pc + 3) ls r (jUp m a (jFj f) b) → W p l e R s mi args below meth c H locs cells slots Qf (F0 mi pc lsR (w :: .ref q :: rR)) := by
      intro b hb hn hfit hfin hX
      have hw1 := hw b hb
      rw [hk] at k1 k2 hw1
      exact va_put (own := jRn (jCl z)) (ref := (jTf f).1) (C := jRn (jFc f)) (T := jTc (jFc f)) (N := jNf (jFc f)) (ci := jFc f) (ws := ws) hc.1 hc.2.1 hc.2.2.2.2.1 hts (jTy (jFc f)) (jTy_ok _ h12) (jNm_ok _ h12) hc.2.2.2.1 hr1.1.2.2.1 hr1.1.1 hr1.1.2.1 hr1.1.2.2.2.1 a.toNat k1 (jVc_at h12) (jFj f) hj hlk (fun _ hx => hx) hfin (jTy_ok _ h12 _ hj) hn hfit (by rw [k2]; exact hj) hd (fun H1 locs1 hP hD hS => hX _ _ _ _ _ _ _ _ (jRel_set hr1 k1 hP hD hS hw1 (fun j => jUp_ne (by omega)) (jUp_ne (by omega))))
    have goF : ∀ b : Int, jMd z = 1 → (jFg f = 3 ∨ jFg f = 4) → jFv fu ws a f b w → (∃ u, w = .ref u) → jP p l e R s mi args below meth c Qf D A H0 z fu sb g n0 ws0 (pc + 3) ls r (jUp m a (jFj f) b) → W p l e R s mi args below meth c H locs cells slots Qf (F0 mi pc lsR (w :: .ref q :: rR)) := by
      intro b hmd hg hb hu hX
      have hw1 := hw b hb
      rw [hk] at k1 k2 hw1
      obtain ⟨u, rfl⟩ := hu
      obtain ⟨p1, p2, p3⟩ := o8 (by omega)
      obtain ⟨n1, n2⟩ := jNarR p1 u
      have hcl := hown hg
      have hinit : meth.name = "<init>" := by
        rcases (hc.2.2.2.2.2.2.2.2.2.2.2.1 hmd).2 with z1 | z1
        · exact z1
        · omega
      exact va_putF (own := jRn (jCl z)) (ref := (jTf f).1) (C := jRn (jFc f)) (T := jTc (jFc f)) (N := jNf (jFc f)) (ci := jFc f) (ws := ws) hc.1 hc.2.1 hc.2.2.2.2.1 hts (jTy (jFc f)) (jTy_ok _ h12) (jNm_ok _ h12) hc.2.2.2.1 hr1.1.2.2.1 hr1.1.1 hr1.1.2.1 hr1.1.2.2.2.1 a.toNat k1 (jVc_at h12) (jFj f) hj hlk (fun _ hx => hx) p2 hinit (by rw [← hcl]; exact p3) (jTy_ok _ h12 _ hj) n1 n2 (by rw [k2]; exact hj) hd (fun H1 locs1 hP hD hS => hX _ _ _ _ _ _ _ _ (jRel_set hr1 k1 hP hD hS hw1 (fun j => jUp_ne (by omega)) (jUp_ne (by omega))))
    split at h1
    · obtain ⟨x, rfl, rfl⟩ := hv
      obtain ⟨p1, p2⟩ := o4 ‹_›
      exact go _ (Or.inl ⟨Or.inl ‹_›, x, rfl, rfl⟩) (by rw [p1]; rfl) (by rw [p1]; rfl) p2 h1
    · obtain ⟨x, rfl, rfl⟩ := hv
      obtain ⟨p1, p2⟩ := o5 ‹_›
      exact go _ (Or.inr (Or.inl ⟨‹_›, x, rfl, rfl⟩)) (by rw [p1]; rfl) (by rw [p1]; rfl) p2 h1
    · obtain ⟨x, rfl, rfl⟩ := hv
      obtain ⟨p1, p2⟩ := o6 ‹_›
      split at h1
      · obtain ⟨n1, n2⟩ := jNarB ‹_›
        exact go _ (Or.inl ⟨Or.inr ‹_›, x, rfl, rfl⟩) (by rw [p1]; exact n1) (by rw [p1]; exact n2) p2 h1
      · exact h1.elim
    · obtain ⟨hkt, u, rfl, hru⟩ := hv
      split at h1
      · exact goF _ (‹_ ∧ _›).1 (Or.inl ‹_›) (Or.inr (Or.inr (Or.inl ⟨Or.inl ‹_›, Or.inr ⟨h1.1, u, rfl, hru⟩⟩))) ⟨u, rfl⟩ h1.2
      · exact h1.elim
    · split at h1
      · rename_i hg _ _ _ hcond
        rcases hv with ⟨h4, hkt, hn, u, rfl, hru⟩ | ⟨h4, b, L, hs, hn, ha, rfl⟩
        · exact goF _ hcond.1 (Or.inr ‹_›) (Or.inr (Or.inr (Or.inl ⟨Or.inr ‹_›, Or.inr ⟨h1.1, u, rfl, hru⟩⟩))) ⟨u, rfl⟩ h1.2
        · exfalso
          have h0 := hrf.1
          have := h1.1
          omega
      · exact h1.elim
    · obtain ⟨hkt, u, rfl, hru⟩ := hv
      split at h1
      · obtain ⟨p1, p2⟩ := o7 ‹_›
        obtain ⟨n1, n2⟩ := jNarR p1 u
        refine go _ (Or.inr (Or.inr (Or.inr ⟨‹_›, Or.inr ⟨?_, u, rfl, hru⟩⟩))) n1 n2 p2 h1
        exact hkt.trans (‹_ ∧ _›).2
      · exact h1.elim
    · exact h1.elim
  · rw [if_neg hci] at h1
    exact h1.elim
theorem jFold {α : Type} {X : Nat → α → Prop} {x : α} {l : List (Prop × Nat)} (h : l.foldr (fun q r => (q.1 → X q.2 x) ∧ r) True) {q : Prop × Nat} (hq : q ∈ l) (h1 : q.1) : X q.2 x := by
  induction l with
  | nil => cases hq
  | cons a l ih =>
    rcases List.mem_cons.mp hq with rfl | hq
    · exact h.1 h1
    · exact ih h.2 hq
theorem jFold2 {X : Nat → jS → List jV → jM → Prop} {ls : jS} {st : List jV} {m : jM} {l : List (Prop × Nat)} (h : l.foldr (fun q r => (q.1 → X q.2 ls st m) ∧ r) True) {c : Prop} {t : Nat} (hq : (c, t) ∈ l) (h1 : c) : X t ls st m := by
  induction l with
  | nil => cases hq
  | cons a l ih =>
    rcases List.mem_cons.mp hq with rfl | hq
    · exact h.1 h1
    · exact ih h.2 hq
theorem jr_tableswitch (hc : jCx p R s mi args meth c A H0 Ts z fu sb g) {d0 lo hi : Int} {os : Array Int} {n : Nat} (ho : 0 ≤ jTo pc d0 ∧ os.toList.all (fun o => decide (0 ≤ jTo pc o)) = true) (hd : decode (jBy z) pc = .ok (.tableswitch d0 lo hi os, n)) (h : jStp z C (jP p l e R s mi args below meth c Qf D A H0 z fu sb g n0 ws0) Q pc n ls m (jEff z (.tableswitch (jTo pc d0) lo hi (os.map (jTo pc))) n pc ls st m)) : jP p l e R s mi args below meth c Qf D A H0 z fu sb g n0 ws0 pc ls st m := by
  obtain ⟨a, r, rfl, h1⟩ := jI1_inv h
  obtain ⟨hsz, h2⟩ := jIf_inv h1
  intro H locs cells slots ws tys lsR stR hr
  obtain ⟨x, rR, rfl, rfl, hr1⟩ := jRel_i hr
  by_cases hx : x.toInt < lo ∨ hi < x.toInt
  · refine lv_tableOut hc.1 hc.2.1 hd (tgt := (jTo pc d0).toNat) hx (by have := ho.1; unfold jTo at this ⊢; omega) ?_
    exact (jFold2 (X := jP p l e R s mi args below meth c Qf D A H0 z fu sb g n0 ws0) h2 (c := x.toInt < lo ∨ hi < x.toInt) (t := (jTo pc d0).toNat) (List.mem_append_right _ (List.mem_cons_self)) hx) _ _ _ _ _ _ _ _ hr1
  · have hlo : ¬ x.toInt < lo := fun q => hx (Or.inl q)
    have hhi : ¬ hi < x.toInt := fun q => hx (Or.inr q)
    have hsz' : os.size = (hi + 1 - lo).toNat := by simpa using hsz
    have hlt : (x.toInt - lo).toNat < os.size := by omega
    have hget : os[(x.toInt - lo).toNat]? = some os[(x.toInt - lo).toNat] := Array.getElem?_eq_getElem hlt
    have hpos := List.all_eq_true.mp ho.2 os[(x.toInt - lo).toNat] (by simp)
    have hpos := of_decide_eq_true hpos
    refine lv_tableIn hc.1 hc.2.1 hd hlo hhi hget (tgt := (jTo pc os[(x.toInt - lo).toNat]).toNat) (by unfold jTo at hpos ⊢; omega) ?_
    refine (jFold2 (X := jP p l e R s mi args below meth c Qf D A H0 z fu sb g n0 ws0) h2 (c := x.toInt = lo + (((x.toInt - lo).toNat : Nat) : Int)) (t := (jTo pc os[(x.toInt - lo).toNat]).toNat) (List.mem_append_left _ ?_) (by omega)) _ _ _ _ _ _ _ _ hr1
    refine List.mem_map.mpr ⟨(jTo pc os[(x.toInt - lo).toNat], (x.toInt - lo).toNat), ?_, rfl⟩
    refine List.mem_zipIdx_iff_getElem?.mpr ?_
    simp [hlt]
theorem jOff {l : List (Int × Int)} {d k : Int} : (∃ q ∈ l, k = q.1 ∧ Op.lookupswitch.offset l d k = q.2) ∨ ((∀ q ∈ l, k ≠ q.1) ∧ Op.lookupswitch.offset l d k = d) := by
  induction l with
  | nil => exact Or.inr ⟨fun q hq => absurd hq List.not_mem_nil, rfl⟩
  | cons a l ih =>
    obtain ⟨a1, a2⟩ := a
    rw [Op.lookupswitch.offset_cons]
    by_cases h : a1 = k
    · rw [if_pos h]
      exact Or.inl ⟨(a1, a2), List.mem_cons_self, h.symm, rfl⟩
    · rw [if_neg h]
      rcases ih with ⟨q, h1, h2, h3⟩ | ⟨h1, h2⟩
      · exact Or.inl ⟨q, List.mem_cons_of_mem _ h1, h2, h3⟩
      · refine Or.inr ⟨fun q hq => ?_, h2⟩
        rcases List.mem_cons.mp hq with rfl | hq
        · exact fun z => h z.symm
        · exact h1 q hq
theorem jr_lookupswitch (hc : jCx p R s mi args meth c A H0 Ts z fu sb g) {d0 : Int} {ps : Array (Int × Int)} {n : Nat} (hp : (ps.toList.zip (ps.toList.drop 1)).all (fun (a, next) => a.1 < next.1) = true) (ho : 0 ≤ jTo pc d0 ∧ ps.toList.all (fun q => decide (0 ≤ jTo pc q.2)) = true) (hd : decode (jBy z) pc = .ok (.lookupswitch d0 ps, n)) (h : jStp z C (jP p l e R s mi args below meth c Qf D A H0 z fu sb g n0 ws0) Q pc n ls m (jEff z (.lookupswitch (jTo pc d0) (ps.map (fun q => (q.1, jTo pc q.2)))) n pc ls st m)) : jP p l e R s mi args below meth c Qf D A H0 z fu sb g n0 ws0 pc ls st m := by
  obtain ⟨a, r, rfl, h1⟩ := jI1_inv h
  intro H locs cells slots ws tys lsR stR hr
  obtain ⟨x, rR, rfl, rfl, hr1⟩ := jRel_i hr
  rcases @jOff ps.toList d0 x.toInt with ⟨q, q1, q2, q3⟩ | ⟨q1, q2⟩
  · have hpos := of_decide_eq_true (List.all_eq_true.mp ho.2 q q1)
    refine lv_lookup hc.1 hc.2.1 hd hp q3 (tgt := (jTo pc q.2).toNat) (by unfold jTo at hpos ⊢; omega) ?_
    refine (jFold2 (X := jP p l e R s mi args below meth c Qf D A H0 z fu sb g n0 ws0) h1 (c := x.toInt = q.1) (t := (jTo pc q.2).toNat) (List.mem_append_left _ ?_) q2) _ _ _ _ _ _ _ _ hr1
    refine List.mem_map.mpr ⟨(q.1, jTo pc q.2), ?_, rfl⟩
    rw [Array.toList_map]
    exact List.mem_map.mpr ⟨q, q1, rfl⟩
  · refine lv_lookup hc.1 hc.2.1 hd hp q2 (tgt := (jTo pc d0).toNat) (by have := ho.1; unfold jTo at this ⊢; omega) ?_
    refine (jFold2 (X := jP p l e R s mi args below meth c Qf D A H0 z fu sb g n0 ws0) h1 (t := (jTo pc d0).toNat) (List.mem_append_right _ (List.mem_cons_self)) ?_) _ _ _ _ _ _ _ _ hr1
    intro q hq
    rw [Array.toList_map] at hq
    obtain ⟨q', hq', rfl⟩ := List.mem_map.mp hq
    exact q1 q' hq'
/-- the world with a cell more -/
theorem jNw_ne {m : jM} {k i : Int} (h : k ≠ m (-3) 0) (h2 : ¬ (k = -3 ∧ i = 0)) : jNw m k i = m k i := by
  unfold jNw
  rw [if_neg h, if_neg h2]
theorem jRel_new (hmd : jMd z = 1) (hfu : fu = false) (h : jRel R s D A H0 z fu sb g n0 ws0 H locs cells slots ws tys lsR stR ls st m) (hlim : m (-3) 0 < m (-2) (-7)) {q : Nat} {e1 : va_E} {tl : List (ClassId × FieldType)} {H1 : Heap} (hK : va_K D jVc (tys ++ tl) s) (hP : va_P D jVc (ws ++ [(q, e1)]) H1) (hD : va_D A (ws ++ [(q, e1)])) (hS : va_S A H0 H1 locs) (he : jEn fu (ws ++ [(q, e1)]) (tys ++ tl) ws.length (jNw m) e1) :
    cells + 1 ≤ R.cells ∧ slots + (jLn ws.length).toNat ≤ R.slots ∧ jRel R s D A H0 z fu sb g n0 ws0 H1 locs (cells + 1) (slots + (jLn ws.length).toNat) (ws ++ [(q, e1)]) (tys ++ tl) lsR stR ls st (jNw m) ∧ jRf (ws ++ [(q, e1)]) (m (-3) 0) q := by
  obtain ⟨⟨g1, g2, g3, g4, g5⟩, g6, g7, g8, g9, g10⟩ := h
  obtain ⟨w1, w2, w3, w4⟩ := g5
  obtain ⟨b1, b2, b3, b4⟩ := g9
  obtain ⟨b5, b6, b7, b8, b9⟩ := b3 hmd
  have hx : jEx ws (ws ++ [(q, e1)]) := jEx_app ws _
  have hlen : (ws ++ [(q, e1)]).length = ws.length + 1 := by simp
  have hmono : ∀ a b : Nat, a ≤ b → jOf a ≤ jOf b := by
    intro a b hab
    induction hab with
    | refl => exact Nat.le_refl _
    | step _ ih => exact Nat.le_trans ih (Nat.le_add_right _ _)
  have ho : jOf (ws.length + 1) = jOf ws.length + (jLn ws.length).toNat := rfl
  have hle := hmono (ws.length + 1) (n0 + jMc z) (by omega)
  refine ⟨by omega, by omega, ⟨⟨hP, hD, hK, hS, ?_⟩, jLr_ex hx g6, jSr_ex hx g7, fun j => ?_, ?_, jEx_tr g10 hx⟩, ?_⟩
  · refine ⟨?_, by rw [hlen]; omega, fun z => (by rw [hfu] at z; cases z), fun k a e hk => ?_⟩
    · unfold jNw
      rw [if_neg (by omega), if_pos ⟨rfl, rfl⟩, w1, hlen]
      omega
    · by_cases hkl : k < ws.length
      · rw [List.getElem?_append_left hkl] at hk
        exact jEn_same hx (fun i q h => by rw [List.getElem?_append_left (List.getElem?_eq_some_iff.mp h).1]; exact h) (fun j => jNw_ne (by omega) (by omega)) (w4 k a e hk)
      · rw [List.getElem?_append_right (by omega)] at hk
        have hk0 : k - ws.length = 0 := by
          have := (List.getElem?_eq_some_iff.mp hk).1
          simp at this
          omega
        rw [hk0] at hk
        cases hk
        have : k = ws.length := by omega
        subst this
        exact he
  · rw [jNw_ne (by omega) (by omega)]
    exact g8 j
  · refine ⟨by rw [hlen]; omega, by rw [hlen, ho]; omega, fun _ => ⟨?_, b6, b7, b8, by rw [hlen]; omega⟩, fun q => absurd hmd q⟩
    rw [jNw_ne (by omega) (by omega)]
    exact b5
  · refine ⟨by omega, e1, ?_⟩
    rw [w1]
    simp
theorem jDv {ty : FieldType} (h : ty.isReference = true) : defaultValue ty = .null := by
  cases ty <;> first | rfl | cases h
theorem jDf_all : (List.range 161).all (fun k => decide (jKd k < 12 → (List.range (jNf (jKd k))).all (fun j => decide (jDf k j = if jFg (jFf (jKd k) j) < 3 then 0 else -1)) = true) && decide (¬ jKd k < 12 → jDf k 0 = if jKd k = 22 ∨ jKd k = 23 then -1 else 0)) = true := by decide +kernel
theorem jDf_ok {k ci j : Nat} (h12 : ci < 12) (hj : j < jNf ci) (hk : jKd k = ci) (h161 : k < 161) : (jFg (jFf ci j) < 3 → jDf k j = 0) ∧ (3 ≤ jFg (jFf ci j) → jDf k j = -1) := by
  have h1 := List.all_eq_true.mp jDf_all k (List.mem_range.mpr h161)
  simp only [Bool.and_eq_true, decide_eq_true_eq] at h1
  have h2 := h1.1 (by omega)
  rw [hk] at h2
  have h3 := of_decide_eq_true (List.all_eq_true.mp h2 j (List.mem_range.mpr hj))
  refine ⟨fun q => ?_, fun q => ?_⟩
  · rw [h3, if_pos q]
  · rw [h3, if_neg (by omega)]
theorem jr_new (hc : jCx p R s mi args meth c A H0 Ts z fu sb g) {i ci : Nat} (h12 : ci < 12) (hl : Jvm.Cond.classLink (jRn (jCl z)) i (jRn ci) ∈ jBW) (hi1 : Jvm.Cond.instantiable (jRn ci) (jNf ci) ∈ jBW) (hi2 : Jvm.Cond.initialized (jRn ci) ∈ jBW) (hd : decode (jBy z) pc = .ok (.new i, 3)) (h : jStp z C (jP p l e R s mi args below meth c Qf D A H0 z fu sb g n0 ws0) Q pc 3 ls m (jEff z (.new ci) 3 pc ls st m)) : jP p l e R s mi args below meth c Qf D A H0 z fu sb g n0 ws0 pc ls st m := by
  obtain ⟨hmd, h1⟩ := jIf_inv h
  obtain ⟨⟨hlim, hkd⟩, hX⟩ := h1
  intro H locs cells slots ws tys lsR stR hr
  have hfu := (hc.2.2.2.2.2.2.2.2.2.2.2.1 hmd).1
  have hW := hr.1.2.2.2.2
  have hlen := hW.1
  obtain ⟨b1, b2, b3, b4⟩ := hr.2.2.2.2.1
  obtain ⟨b5, b6, b7, b8, b9⟩ := b3 hmd
  have h161 : ws.length < 161 := by omega
  obtain ⟨d1, d2, d3, d4⟩ := jKd_ok h161
  rw [hlen] at hkd
  have hN : (jLn ws.length).toNat = jNf ci := by rw [d3 (by rw [hkd]; exact h12), hkd]
  have hBW := fun w hw => hc.2.2.2.2.1 w (hc.2.2.2.2.2.1 w hw)
  let fs : List Value := (List.range (jNf ci)).map (fun j => defaultValue (jTy ci j))
  have hmono : ∀ a b : Nat, a ≤ b → jOf a ≤ jOf b := by
    intro a b hab
    induction hab with
    | refl => exact Nat.le_refl _
    | step _ ih => exact Nat.le_trans ih (Nat.le_add_right _ _)
  have ho : jOf (ws.length + 1) = jOf ws.length + (jLn ws.length).toNat := rfl
  have hle := hmono (ws.length + 1) (n0 + jMc z) (by omega)
  refine va_new (own := jRn (jCl z)) (C := jRn ci) (T := jTc ci) (N := jNf ci) (ci := ci) (fs := fs) hc.1 hc.2.1 hc.2.2.2.2.1 (fun w hw => hc.2.2.2.2.2.1 _ (jLay_in h12 w hw)) (jTy ci) (jTy_ok ci h12) hc.2.2.2.1 (hBW _ hl) (hBW _ hi1) (hBW _ hi2) hr.1.2.2.1 hr.1.1 hr.1.2.1 hr.1.2.2.2.1 hc.2.2.2.2.2.2.2.2.1 (jVc_at h12) (fun j hj => by simp [fs, vp_V, hj]) (by omega) (by omega) hd (fun q H1 hP hD hS => ?_)
  have he : jEn fu (ws ++ [(q, .inr (ci, fs))]) (tys ++ []) ws.length (jNw m) (.inr (ci, fs)) := by
    refine Or.inl ⟨by rw [hkd]; exact h12, fs, by rw [hkd], by simp [fs, hkd], fun j hj => ?_⟩
    rw [hkd] at hj
    refine ⟨defaultValue (jTy ci j), by simp [fs, hj], ?_⟩
    rw [hkd]
    obtain ⟨o1, o2, o3, o4, o5, o6, o7, o8⟩ := jFld_ok h12 hj
    have hv : jNw m (ws.length : Nat) j = jDf (ws.length : Nat) j := by
      unfold jNw
      rw [if_pos hlen.symm]
    rw [hv]
    have hdf := jDf_ok h12 hj hkd h161
    have ho3 : jFg (jFf ci j) = 0 ∨ jFg (jFf ci j) = 1 ∨ jFg (jFf ci j) = 2 ∨ jFg (jFf ci j) = 3 ∨ jFg (jFf ci j) = 4 ∨ jFg (jFf ci j) = 5 := by omega
    rcases ho3 with o | o | o | o | o | o
    · exact Or.inl ⟨Or.inl o, 0, by rw [(o4 o).1]; rfl, hdf.1 (by omega)⟩
    · exact Or.inr (Or.inl ⟨o, 0, by rw [(o5 o).1]; rfl, hdf.1 (by omega)⟩)
    · exact Or.inl ⟨Or.inr o, 0, by rw [(o6 o).1]; rfl, hdf.1 (by omega)⟩
    · exact Or.inr (Or.inr (Or.inl ⟨Or.inl o, Or.inl ⟨hfu, hdf.2 (by omega), jDv (o8 (by omega)).1⟩⟩))
    · exact Or.inr (Or.inr (Or.inl ⟨Or.inr o, Or.inl ⟨hfu, hdf.2 (by omega), jDv (o8 (by omega)).1⟩⟩))
    · exact Or.inr (Or.inr (Or.inr ⟨o, Or.inl ⟨hfu, hdf.2 (by omega), jDv (o7 o).1⟩⟩))
  obtain ⟨r1, r2, r3, r4⟩ := jRel_new hmd hfu hr hlim (tl := []) (by rw [List.append_nil]; exact hr.1.2.2.1) hP hD hS he
  rw [hN] at r3
  exact hX _ _ _ _ _ _ _ _ (jRel_pv r3 ⟨by rw [hlen]; exact hkd, q, rfl, r4⟩)
end ROWS2
end
section
/-! more rows: arrays made, arraycopy, Object.<init> -/
section ROWS3
variable {p : Program} {l : Launch} {e : Env} {R : Room} {s : State} {mi : MethodId} {args : Array Value} {below : List Frame} {meth : Method} {c : Code} {Qf : State → Prop} {D : va_G} {A : Nat → Prop} {H0 : Heap} {Ts : List Jvm.Cond} {z : Nat} {fu : Bool} {sb : Option (Nat × Nat)} {g : Int → Int} {n0 : Nat} {ws0 : va_W}
variable {pc : Nat} {ls : jS} {st : List jV} {m : jM} {C : Nat → List jV → jM → (Int → jM → Prop) → Prop} {Q : Int → jM → Prop}
variable {H : Heap} {locs : List Loc} {cells slots : Nat} {ws : va_W} {tys : List (ClassId × FieldType)} {lsR : Array Slot} {stR : List Value}
theorem jRfs_lt : ∀ q ∈ jRfs, q.1 < 12 := by decide +kernel
theorem jDf_0 {k i : Int} (h : jKd k = 20 ∨ jKd k = 21) : jDf k i = 0 := by
  unfold jDf
  rw [if_neg]
  rintro (h1 | h1 | h1)
  · omega
  · omega
  · have := jRfs_lt _ h1
    dsimp only at this
    omega
theorem jDf_1 {k i : Int} (h : jKd k = 22 ∨ jKd k = 23) : jDf k i = -1 := by
  unfold jDf
  rw [if_pos]
  rcases h with h | h
  · exact Or.inl h
  · exact Or.inr (Or.inl h)
/-- room for a cell more -/
theorem jRoom1 (hmd : jMd z = 1) (h : jRel R s D A H0 z fu sb g n0 ws0 H locs cells slots ws tys lsR stR ls st m) (hlim : m (-3) 0 < m (-2) (-7)) : ws.length < 161 ∧ cells + 1 ≤ R.cells ∧ slots + (jLn ws.length).toNat ≤ R.slots := by
  have hlen := h.1.2.2.2.2.1
  obtain ⟨b1, b2, b3, b4⟩ := h.2.2.2.2.1
  obtain ⟨b5, b6, b7, b8, b9⟩ := b3 hmd
  have hmono : ∀ a b : Nat, a ≤ b → jOf a ≤ jOf b := by
    intro a b hab
    induction hab with
    | refl => exact Nat.le_refl _
    | step _ ih => exact Nat.le_trans ih (Nat.le_add_right _ _)
  have ho : jOf (ws.length + 1) = jOf ws.length + (jLn ws.length).toNat := rfl
  have hle := hmono (ws.length + 1) (n0 + jMc z) (by omega)
  exact ⟨by omega, by omega, by omega⟩
theorem jLn_x {x : Int32} {k : Nat} (hk : k < 161) (h : jLn k = x.toInt) : ¬ x < 0 ∧ x.toNatClampNeg = (jLn k).toNat ∧ (jLn k).toNat ≤ 20000 := by
  obtain ⟨d1, d2, d3, d4⟩ := jKd_ok hk
  have hc : x.toNatClampNeg = x.toInt.toNat := rfl
  refine ⟨fun q => ?_, by omega, by omega⟩
  have := jn_lt.mp q
  rw [jn_0] at this
  omega
theorem jr_newarrayI (hc : jCx p R s mi args meth c A H0 Ts z fu sb g) (hd : decode (jBy z) pc = .ok (.newarray .int, 2)) (h : jStp z C (jP p l e R s mi args below meth c Qf D A H0 z fu sb g n0 ws0) Q pc 2 ls m (jEff z (.newarray .int) 2 pc ls st m)) (hw : Jvm.Cond.arrayClass .int ∈ jBW) : jP p l e R s mi args below meth c Qf D A H0 z fu sb g n0 ws0 pc ls st m := by
  obtain ⟨n, r, rfl, h1⟩ := jI1_inv h
  obtain ⟨hmd, h2⟩ := jIf_inv h1
  obtain ⟨⟨hlim, hkd, hln⟩, hX⟩ := h2
  intro H locs cells slots ws tys lsR stR hr
  obtain ⟨x, rR, rfl, rfl, hr1⟩ := jRel_i hr
  have hfu := (hc.2.2.2.2.2.2.2.2.2.2.2.1 hmd).1
  have hlen := hr1.1.2.2.2.2.1
  rw [hlen] at hkd hln
  obtain ⟨q1, q2, q3⟩ := jRoom1 hmd hr1 hlim
  obtain ⟨x1, x2, x3⟩ := jLn_x q1 hln
  refine va_newa (atype := .int) (ty := .int) (N' := (jLn ws.length).toNat) (a0 := ((jLn ws.length).toNat, .inl (fun _ => 0))) hc.1 hc.2.1 (hc.2.2.2.2.1 _ (hc.2.2.2.2.2.1 _ hw)) rfl hr1.1.2.2.1 hr1.1.1 hr1.1.2.1 hr1.1.2.2.2.1 hc.2.2.2.2.2.2.2.2.1 (fun _ => rfl) x1 x2 (Nat.le_trans (Nat.mul_le_mul_right _ x3) (Nat.le_of_ble_eq_true rfl)) q2 q3 hd (fun q cA H1 hK hP hD hS => ?_)
  have he : jEn fu (ws ++ [(q, .inl (cA, (jLn ws.length).toNat, .inl (fun _ => 0)))]) (tys ++ [(cA, .int)]) ws.length (jNw m) (.inl (cA, (jLn ws.length).toNat, .inl (fun _ => 0))) := by
    refine Or.inr (Or.inl ⟨hkd, cA, fun _ => 0, tys.length, rfl, by simp, fun j hj => ?_⟩)
    unfold jNw
    rw [if_pos hlen.symm, jDf_0 (Or.inl hkd)]
    show (0 : Int) = (0 : Int32).toInt
    decide
  obtain ⟨-, -, r3, r4⟩ := jRel_new hmd hfu hr1 hlim hK hP hD hS he
  exact hX _ _ _ _ _ _ _ _ (jRel_pv r3 (Or.inl ⟨by omega, by rw [hlen]; exact hkd, by rw [hlen]; exact hln, q, rfl, r4⟩))
theorem jr_newarrayL (hc : jCx p R s mi args meth c A H0 Ts z fu sb g) (hd : decode (jBy z) pc = .ok (.newarray .long, 2)) (h : jStp z C (jP p l e R s mi args below meth c Qf D A H0 z fu sb g n0 ws0) Q pc 2 ls m (jEff z (.newarray .long) 2 pc ls st m)) (hw : Jvm.Cond.arrayClass .long ∈ jBW) : jP p l e R s mi args below meth c Qf D A H0 z fu sb g n0 ws0 pc ls st m := by
  obtain ⟨n, r, rfl, h1⟩ := jI1_inv h
  obtain ⟨hmd, h2⟩ := jIf_inv h1
  obtain ⟨⟨hlim, hkd, hln⟩, hX⟩ := h2
  intro H locs cells slots ws tys lsR stR hr
  obtain ⟨x, rR, rfl, rfl, hr1⟩ := jRel_i hr
  have hfu := (hc.2.2.2.2.2.2.2.2.2.2.2.1 hmd).1
  have hlen := hr1.1.2.2.2.2.1
  rw [hlen] at hkd hln
  obtain ⟨q1, q2, q3⟩ := jRoom1 hmd hr1 hlim
  obtain ⟨x1, x2, x3⟩ := jLn_x q1 hln
  refine va_newa (atype := .long) (ty := .long) (N' := (jLn ws.length).toNat) (a0 := ((jLn ws.length).toNat, .inr (.inl (fun _ => 0)))) hc.1 hc.2.1 (hc.2.2.2.2.1 _ (hc.2.2.2.2.2.1 _ hw)) rfl hr1.1.2.2.1 hr1.1.1 hr1.1.2.1 hr1.1.2.2.2.1 hc.2.2.2.2.2.2.2.2.1 (fun _ => rfl) x1 x2 (Nat.le_trans (Nat.mul_le_mul_right _ x3) (Nat.le_of_ble_eq_true rfl)) q2 q3 hd (fun q cA H1 hK hP hD hS => ?_)
  have he : jEn fu (ws ++ [(q, .inl (cA, (jLn ws.length).toNat, .inr (.inl (fun _ => 0))))]) (tys ++ [(cA, .long)]) ws.length (jNw m) (.inl (cA, (jLn ws.length).toNat, .inr (.inl (fun _ => 0)))) := by
    refine Or.inr (Or.inr (Or.inl ⟨hkd, cA, fun _ => 0, tys.length, rfl, by simp, fun j hj => ?_⟩))
    unfold jNw
    rw [if_pos hlen.symm, jDf_0 (Or.inr hkd)]
    show (0 : Int) = (0 : Int64).toInt
    decide
  obtain ⟨-, -, r3, r4⟩ := jRel_new hmd hfu hr1 hlim hK hP hD hS he
  exact hX _ _ _ _ _ _ _ _ (jRel_pv r3 (Or.inl ⟨by omega, by rw [hlen]; exact hkd, by rw [hlen]; exact hln, q, rfl, r4⟩))
theorem jr_anewarray (hc : jCx p R s mi args meth c A H0 Ts z fu sb g) {i t : Nat} (ht0 : t = 2 ∨ t = 3) (hl : Jvm.Cond.classLink (jRn (jCl z)) i (jRn (t + 4)) ∈ jBW) (hd : decode (jBy z) pc = .ok (.anewarray i, 3)) (h : jStp z C (jP p l e R s mi args below meth c Qf D A H0 z fu sb g n0 ws0) Q pc 3 ls m (jEff z (.anewarray t) 3 pc ls st m)) : jP p l e R s mi args below meth c Qf D A H0 z fu sb g n0 ws0 pc ls st m := by
  obtain ⟨n, r, rfl, h1⟩ := jI1_inv h
  obtain ⟨⟨hmd, ht⟩, h2⟩ := jIf_inv h1
  obtain ⟨⟨hlim, hkd, hln⟩, hX⟩ := h2
  intro H locs cells slots ws tys lsR stR hr
  obtain ⟨x, rR, rfl, rfl, hr1⟩ := jRel_i hr
  have hfu := (hc.2.2.2.2.2.2.2.2.2.2.2.1 hmd).1
  have hlen := hr1.1.2.2.2.2.1
  rw [hlen] at hkd hln
  obtain ⟨q1, q2, q3⟩ := jRoom1 hmd hr1 hlim
  obtain ⟨x1, x2, x3⟩ := jLn_x q1 hln
  have hao : va_AO (jRn (t + 4)) s := by
    rcases ht0 with rfl | rfl
    · exact hc.2.2.2.2.2.2.2.1.1
    · exact hc.2.2.2.2.2.2.2.1.2
  refine va_newq (own := jRn (jCl z)) (C := jRn (t + 4)) (N' := (jLn ws.length).toNat) hc.1 hc.2.1 hc.2.2.2.1 (hc.2.2.2.2.1 _ (hc.2.2.2.2.2.1 _ hl)) hao hr1.1.2.2.1 hr1.1.1 hr1.1.2.1 hr1.1.2.2.2.1 hc.2.2.2.2.2.2.2.2.1 x1 x2 (Nat.le_trans (Nat.mul_le_mul_right _ x3) (Nat.le_of_ble_eq_true rfl)) q2 q3 hd (fun q cA H1 hK hP hD hS => ?_)
  have he : jEn fu (ws ++ [(q, .inl (cA, (jLn ws.length).toNat, .inr (.inr (.inr (.inr (fun _ => none))))))]) (tys ++ [(cA, .object (jRn (t + 4)))]) ws.length (jNw m) (.inl (cA, (jLn ws.length).toNat, .inr (.inr (.inr (.inr (fun _ => none)))))) := by
    refine Or.inr (Or.inr (Or.inr ⟨by omega, cA, fun _ => none, tys.length, rfl, ?_, fun j hj => Or.inl ⟨hfu, ?_, rfl⟩⟩))
    · rw [hkd, show 20 + t - 16 = t + 4 by omega]
      simp
    · unfold jNw
      rw [if_pos hlen.symm, jDf_1 (by omega)]
  obtain ⟨-, -, r3, r4⟩ := jRel_new hmd hfu hr1 hlim hK hP hD hS he
  exact hX _ _ _ _ _ _ _ _ (jRel_pv r3 (Or.inl ⟨by omega, by rw [hlen]; exact hkd, by rw [hlen]; exact hln, q, rfl, r4⟩))
theorem jr_pop (hc : jCx p R s mi args meth c A H0 Ts z fu sb g) {i : Nat} (hl : Jvm.Cond.methodLink (jRn (jCl z)) i Jvm.Lib.objectInit ∈ jBW) (h1w : Jvm.Cond.instanceMethod Jvm.Lib.objectInit ∈ jBW) (h2w : Jvm.Cond.code Jvm.Lib.objectInit ⟨#[0xb1]⟩ 1 none ∈ jBW) (hd : decode (jBy z) pc = .ok (.invokespecial i, 3)) (h : jStp z C (jP p l e R s mi args below meth c Qf D A H0 z fu sb g n0 ws0) Q pc 3 ls m (jEff z .pop 3 pc ls st m)) : jP p l e R s mi args below meth c Qf D A H0 z fu sb g n0 ws0 pc ls st m := by
  obtain ⟨ci, a, r, rfl, h1⟩ := jO1_inv h
  obtain ⟨hcat, h2⟩ := jIf_inv h1
  intro H locs cells slots ws tys lsR stR hr
  obtain ⟨q, rR, rfl, hv, hr1⟩ := jRel_r hr
  have hBW := fun w hw => hc.2.2.2.2.1 w (hc.2.2.2.2.2.1 w hw)
  have hcs := jSr_cats hr1.2.2.1
  obtain ⟨lv, hlv, -⟩ := hr1.2.1.2
  refine W.objInit (own := jRn (jCl z)) hc.1 hc.2.1 hc.2.2.2.1 (hBW _ hl) (hBW _ h1w) (hBW _ h2w) (g := F0 mi pc lsR (.ref q :: rR)) rfl (by rw [hc.2.2.1]; exact hlv.1) rfl hd hc.2.2.2.2.2.2.2.2.2.1.1 ?_ (h2 _ _ _ _ _ _ _ _ hr1)
  have := hc.2.2.2.2.2.2.2.2.2.1.2
  show 2 * 0 + _ + 12 ≤ _
  omega
theorem jWd_cpi {a0 a1 : Int} {sp dp n : Nat} {q1 : Nat} {c1 : ClassId} {n1 t1 : Nat} {f gg : Nat → Int32} (h : jWd fu ws tys m) (h0 : 0 ≤ a1) (hk : ws[a1.toNat]? = some (q1, .inl (c1, n1, .inl gg))) (hd : jKd a1 = 20) (ht : tys[t1]? = some (c1, .int)) (hn : n1 = (jLn a1).toNat) (hg : ∀ j : Nat, j < n1 → m a1 j = (gg j).toInt) (hf : ∀ j : Nat, j < n → m a0 (sp + j : Nat) = (f (sp + j)).toInt) :
    jWd fu (ws.set a1.toNat (q1, .inl (c1, n1, .inl (va_cpy f gg sp dp n)))) tys (jCp m a0 sp a1 dp n) := by
  have l3 : (a1.toNat : Int) = a1 := by omega
  refine jWd_set h hk (fun q j hq => ?_) (Or.inr (Or.inl ⟨by rw [l3]; exact hd, c1, _, t1, by rw [l3, hn], ht, fun j hj => ?_⟩))
  · unfold jCp
    rw [if_neg (fun z => hq (by omega))]
  · rw [l3] at hj ⊢
    unfold jCp va_cpy
    by_cases hin : dp ≤ j ∧ j < dp + n
    · rw [if_pos ⟨rfl, by omega, by omega⟩, if_pos hin]
      have := hf (j - dp) (by omega)
      rw [← this]
      congr 1
      omega
    · rw [if_neg (fun z => hin (by omega)), if_neg hin]
      exact hg j (by omega)
theorem jWd_cpl {a0 a1 : Int} {sp dp n : Nat} {q1 : Nat} {c1 : ClassId} {n1 t1 : Nat} {f gg : Nat → Int64} (h : jWd fu ws tys m) (h0 : 0 ≤ a1) (hk : ws[a1.toNat]? = some (q1, .inl (c1, n1, .inr (.inl gg)))) (hd : jKd a1 = 21) (ht : tys[t1]? = some (c1, .long)) (hn : n1 = (jLn a1).toNat) (hg : ∀ j : Nat, j < n1 → m a1 j = (gg j).toInt) (hf : ∀ j : Nat, j < n → m a0 (sp + j : Nat) = (f (sp + j)).toInt) :
    jWd fu (ws.set a1.toNat (q1, .inl (c1, n1, .inr (.inl (va_cpy f gg sp dp n))))) tys (jCp m a0 sp a1 dp n) := by
  have l3 : (a1.toNat : Int) = a1 := by omega
  refine jWd_set h hk (fun q j hq => ?_) (Or.inr (Or.inr (Or.inl ⟨by rw [l3]; exact hd, c1, _, t1, by rw [l3, hn], ht, fun j hj => ?_⟩)))
  · unfold jCp
    rw [if_neg (fun z => hq (by omega))]
  · rw [l3] at hj ⊢
    unfold jCp va_cpy
    by_cases hin : dp ≤ j ∧ j < dp + n
    · rw [if_pos ⟨rfl, by omega, by omega⟩, if_pos hin]
      have := hf (j - dp) (by omega)
      rw [← this]
      congr 1
      omega
    · rw [if_neg (fun z => hin (by omega)), if_neg hin]
      exact hg j (by omega)
theorem jr_swap (hc : jCx p R s mi args meth c A H0 Ts z fu sb g) {i : Nat} (hl : Jvm.Cond.methodLink (jRn (jCl z)) i arraycopyName ∈ jBW) (h1w : Jvm.Cond.native arraycopyName ∈ jBW) (h2w : Jvm.Cond.static arraycopyName ∈ jBW) (h3w : Jvm.Cond.initialized "java/lang/System" ∈ jBW) (hd : decode (jBy z) pc = .ok (.invokestatic i, 3)) (h : jStp z C (jP p l e R s mi args below meth c Qf D A H0 z fu sb g n0 ws0) Q pc 3 ls m (jEff z .swap 3 pc ls st m)) : jP p l e R s mi args below meth c Qf D A H0 z fu sb g n0 ws0 pc ls st m := by
  obtain ⟨n, r, rfl, h1⟩ := jI1_inv h
  obtain ⟨dp, r, rfl, h2⟩ := jI1_inv h1
  obtain ⟨t1, n1, a1, r, rfl, h3⟩ := jY1_inv h2
  obtain ⟨sp, r, rfl, h4⟩ := jI1_inv h3
  obtain ⟨t0, n00, a0, r, rfl, h5⟩ := jY1_inv h4
  obtain ⟨⟨ht, ht1, hcat⟩, h6⟩ := jIf_inv h5
  obtain ⟨⟨c1, c2, c3, c4, c5⟩, hX⟩ := h6
  subst ht
  intro H locs cells slots ws tys lsR stR hr
  obtain ⟨xn, rR, rfl, rfl, hr1⟩ := jRel_i hr
  obtain ⟨xd, rR, rfl, rfl, hr2⟩ := jRel_i hr1
  obtain ⟨q1, rR, rfl, hv1, hr3⟩ := jRel_r hr2
  obtain ⟨xs, rR, rfl, rfl, hr4⟩ := jRel_i hr3
  obtain ⟨q0, rR, rfl, hv0, hr5⟩ := jRel_r hr4
  have hW := hr5.1.2.2.2.2
  have hBW := fun w hw => hc.2.2.2.2.1 w (hc.2.2.2.2.2.1 w hw)
  have hcs := jSr_cats hr5.2.2.1
  obtain ⟨lv, hlv, -⟩ := hr5.2.1.2
  have hsz : c.maxLocals = lsR.size := by rw [hc.2.2.1]; exact hlv.1.symm
  have e1 := jn_cl c1
  have e2 := jn_cl c2
  have e3 := jn_cl c3
  have n1' : ¬ xs < 0 := fun q => by have := jn_lt.mp q; rw [jn_0] at this; omega
  have n2' : ¬ xd < 0 := fun q => by have := jn_lt.mp q; rw [jn_0] at this; omega
  have n3' : ¬ xn < 0 := fun q => by have := jn_lt.mp q; rw [jn_0] at this; omega
  have hroom := hc.2.2.2.2.2.2.2.2.2.1
  have hnf : nativeFrameWords "java/lang/System" "arraycopy" 5 = 7 := by decide
  rcases hv1 with ⟨k1, k2, k3, u1, w1, rf1⟩ | ⟨k1, -⟩
  · cases w1
    rcases hv0 with ⟨o1, o2, o3, u0, w0, rf0⟩ | ⟨o1, -⟩
    · cases w0
      rcases ht1 with rfl | rfl
      · obtain ⟨cB, f1, tB, m1, m2, m3⟩ := jWd_int hW rf1 k2
        obtain ⟨cA, f0, tA, m4, m5, m6⟩ := jWd_int hW rf0 o2
        refine va_copyi (own := jRn (jCl z)) (f := f0) (g := f1) (ty := .int) hc.1 hc.2.1 hsz hc.2.2.2.1 (hBW _ hl) (hBW _ h1w) (hBW _ h2w) (hBW _ h3w) hr5.1.2.2.1 hr5.1.1 hr5.1.2.1 hr5.1.2.2.2.1 a0.toNat a1.toNat tA tB m4 m1 m5 m2 rfl n1' n2' n3' (by rw [o3]; omega) (by rw [k3]; omega) (fun _ _ => rfl) hroom.1 (by rw [hnf]; omega) hd (fun H1 locs1 hP hD hS => ?_)
        have hw := jWd_cpi (a0 := a0) (sp := xs.toNatClampNeg) (dp := xd.toNatClampNeg) (n := xn.toNatClampNeg) (f := f0) hW rf1.1 m1 k2 m2 rfl m3 (fun j hj => m6 _ (by rw [o3]; omega))
        rw [e1, e2, e3] at hw
        refine hX _ _ _ _ _ _ _ _ (jRel_set hr5 m1 hP hD hS hw (fun j => ?_) ?_)
        · unfold jCp
          rw [if_neg (fun zz => by have := rf1.1; omega)]
        · unfold jCp
          rw [if_neg (fun zz => by have := rf1.1; omega)]
      · obtain ⟨cB, f1, tB, m1, m2, m3⟩ := jWd_lng hW rf1 k2
        obtain ⟨cA, f0, tA, m4, m5, m6⟩ := jWd_lng hW rf0 o2
        refine va_copyl (own := jRn (jCl z)) (f := f0) (g := f1) (ty := .long) hc.1 hc.2.1 hsz hc.2.2.2.1 (hBW _ hl) (hBW _ h1w) (hBW _ h2w) (hBW _ h3w) hr5.1.2.2.1 hr5.1.1 hr5.1.2.1 hr5.1.2.2.2.1 a0.toNat a1.toNat tA tB m4 m1 m5 m2 rfl n1' n2' n3' (by rw [o3]; omega) (by rw [k3]; omega) (fun _ _ => rfl) hroom.1 (by rw [hnf]; omega) hd (fun H1 locs1 hP hD hS => ?_)
        have hw := jWd_cpl (a0 := a0) (sp := xs.toNatClampNeg) (dp := xd.toNatClampNeg) (n := xn.toNatClampNeg) (f := f0) hW rf1.1 m1 k2 m2 rfl m3 (fun j hj => m6 _ (by rw [o3]; omega))
        rw [e1, e2, e3] at hw
        refine hX _ _ _ _ _ _ _ _ (jRel_set hr5 m1 hP hD hS hw (fun j => ?_) ?_)
        · unfold jCp
          rw [if_neg (fun zz => by have := rf1.1; omega)]
        · unfold jCp
          rw [if_neg (fun zz => by have := rf1.1; omega)]
    · omega
  · omega
end ROWS3
end
section
/-! CALLS -/
def jWs (y : Nat) : List Jvm.Cond := Jvm.Cond.code (jYn y) (jBy y) (jMx y) (jRy y) :: jBW
def jKO (U : State) : Prop := (∀ w ∈ jNests, va_Nw w U) ∧ va_AO RX6 U ∧ va_AO RX7 U
def jRm (e y n : Nat) : Room := { frames := e + 1, cells := jMc y, slots := jOf (n + jMc y) - jOf n, locals := 60 * (e + 1) }
def jOc (rt : Nat) (v : Int) (oc : Outcome) : Prop := match rt with
  | 0 => oc = .returned none
  | 2 => ∃ x : Int64, oc = .returned (some (.long x)) ∧ v = x.toInt
  | _ => ∃ x : Int32, oc = .returned (some (.int x)) ∧ v = x.toInt
def jPre (D : va_G) (ws : va_W) (tys : List (ClassId × FieldType)) (sz : Nat) (U : State) : Prop := U.heap.size = sz ∧ va_P D jVc ws U.heap ∧ va_K D jVc tys U ∧ va_D (fun _ => True) ws ∧ jKO U
def jQc (D : va_G) (fu : Bool) (ws : va_W) (sz : Nat) (g : Int → Int) (y : Nat) (K : Int → jM → Prop) : Array Value → State → Outcome → State → Prop := fun _ st oc t =>
  (∃ (v : Int) (m' : jM) (ws' : va_W) (tys' : List (ClassId × FieldType)), K v m' ∧ jOc (jRt y) v oc ∧ jWd fu ws' tys' m' ∧ va_P D jVc ws' t.heap ∧ va_K D jVc tys' t ∧ va_D (va_A ws sz) ws' ∧ jEx ws ws' ∧ (∀ j, m' (-2) j = g j) ∧ ws'.length = ws.length + jMc y) ∧ va_F (va_A ws sz) st t
/-- a method's contract -/
def jGood (l : Launch) (e y : Nat) (aargs : List jV) (m : jM) (K : Int → jM → Prop) : Prop :=
  ∀ (D : va_G) (fu : Bool) (ws : va_W) (tys : List (ClassId × FieldType)) (Args : List Value) (sz : Nat) (g : Int → Int), (jMd y = 0 → fu = true) → (jMd y = 1 → fu = false ∧ m (-2) (-7) = ((ws.length + jMc y : Nat) : Int) ∧ ws.length + jMc y ≤ 161) → jSr ws none aargs Args → jWd fu ws tys m → (∀ j, m (-2) j = g j) → (jLay aargs).length ≤ jMx y →
    Met l (jYn y) (jWs y) (jRm e y ws.length) (va_Pc Args (jPre D ws tys sz)) (jQc D fu ws sz g y K) (jMc y) (jOf (ws.length + jMc y) - jOf ws.length) (va_A ws sz)
theorem jNests_all : ∀ w ∈ jNests, (∀ {s U : State}, s.WarmedH U.vm → va_Nw w s → va_Nw w U) ∧ w.onTables = true := by
  unfold jNests
  intro w hw
  simp only [List.mem_cons, List.not_mem_nil, or_false] at hw
  rcases hw with rfl | rfl | rfl | rfl | rfl | rfl | rfl | rfl | rfl | rfl | rfl <;> exact ⟨fun hW hZ => va_Nw.warmM hW hZ, rfl⟩
theorem jKO_warm {s U : State} (hW : s.WarmedH U.vm) (h : jKO s) : jKO U := ⟨fun w hw => (jNests_all w hw).1 hW (h.1 w hw), va_AO.moved hW.alike h.2.1, va_AO.moved hW.alike h.2.2⟩
theorem jKO_same {u U : State} (hv : u.vm = U.vm) (h : jKO u) : jKO U := ⟨fun w hw => va_Nw.same (jNests_all w hw).2 hv (h.1 w hw), va_AO.moved (by rw [hv]; exact Vm.Alike.refl _) h.2.1, va_AO.moved (by rw [hv]; exact Vm.Alike.refl _) h.2.2⟩
theorem jBlind {D : va_G} {ws : va_W} {tys : List (ClassId × FieldType)} {sz : Nat} {Args : List Value} : FrameBlind (va_Pc Args (jPre D ws tys sz)) := by
  intro a U g mk h
  obtain ⟨h1, h2, h3, h4, h5, h6⟩ := h
  exact ⟨h1, h2, h3, va_K.moved (u := U) (U := U.calling g mk a) (Vm.Alike.refl U.vm) h4, h5, jKO_same (u := U) (U := U.calling g mk a) rfl h6⟩
theorem jMw_of {y : Nat} (hy : y ∈ jZs) (hl : y ≠ zL_law) : ∃ q ∈ jMw, q.1 = y := by
  have h := List.all_eq_true.mp jMw_zs y hy
  simp only [Bool.or_eq_true, decide_eq_true_eq] at h
  rcases h with h | h
  · exact absurd h hl
  · have := List.contains_iff_mem.mp h
    obtain ⟨q, h1, h2⟩ := List.mem_map.mp this
    exact ⟨q, h1, h2⟩
theorem jTake25 {α : Type} {l : List α} {f : α → Bool} (n : Nat) (hn : l.length ≤ 25 * n) (h : ∀ k, k < n → ((l.drop (25 * k)).take 25).all f = true) {q : α} (hq : q ∈ l) : f q = true := by
  obtain ⟨i, hi⟩ := List.getElem?_of_mem hq
  have hlt : i < l.length := (List.getElem?_eq_some_iff.mp hi).1
  have h1 := h (i / 25) (by omega)
  refine List.all_eq_true.mp h1 q (List.mem_of_getElem? (i := i % 25) ?_)
  rw [List.getElem?_take, if_pos (by omega), List.getElem?_drop, show 25 * (i / 25) + i % 25 = i by omega]
  exact hi
def jPf (q : Nat × Nat × Nat × Nat × Nat) : Bool := decide ((parseMethodDescriptor (jYn q.1).desc).map (fun d => d.parameters.length) = some (if jKi q.1 = 0 then jNa q.1 else jNa q.1 - 1))
theorem jMw_len : jMw.length ≤ 25 * 10 := by decide +kernel
theorem jMw_pf (k : Nat) (hk : k < 10) : ((jMw.drop (25 * k)).take 25).all jPf = true := by
  match k, hk with
  | 0, _ => exact jMw_e0
  | 1, _ => exact jMw_e1
  | 2, _ => exact jMw_e2
  | 3, _ => exact jMw_e3
  | 4, _ => exact jMw_e4
  | 5, _ => exact jMw_e5
  | 6, _ => exact jMw_e6
  | 7, _ => exact jMw_e7
  | 8, _ => exact jMw_e8
  | 9, _ => exact jMw_e9
theorem jMw_par {q : Nat × Nat × Nat × Nat × Nat} (hq : q ∈ jMw) : (parseMethodDescriptor (jYn q.1).desc).map (fun d => d.parameters.length) = some (if jKi q.1 = 0 then jNa q.1 else jNa q.1 - 1) := by
  have h : jPf q = true := jTake25 10 jMw_len jMw_pf hq
  unfold jPf at h
  exact of_decide_eq_true h
theorem jPc_25 {α : Type} {P : α → Prop} {l : List α} (n : Nat) (hn : l.length ≤ 25 * n) (h : ∀ k, k < n → ∀ q ∈ (l.drop (25 * k)).take 25, P q) {q : α} (hq : q ∈ l) : P q := by
  obtain ⟨i, hi⟩ := List.getElem?_of_mem hq
  have hlt : i < l.length := (List.getElem?_eq_some_iff.mp hi).1
  refine h (i / 25) (by omega) q (List.mem_of_getElem? (i := i % 25) ?_)
  rw [List.getElem?_take, if_pos (by omega), List.getElem?_drop, show 25 * (i / 25) + i % 25 = i by omega]
  exact hi
theorem jPc_of {y : Nat} (hy : y ∈ jZs) (hl : y ≠ zL_law) : jPc y := by
  obtain ⟨q, hq, rfl⟩ := jMw_of hy hl
  have hm : q.1 ∈ jMw.map (fun q => q.1) := List.mem_map.mpr ⟨q, hq, rfl⟩
  refine jPc_25 (P := jPc) 10 (by decide +kernel) (fun k hk => ?_) hm
  match k, hk with
  | 0, _ => exact jPs_0
  | 1, _ => exact jPs_1
  | 2, _ => exact jPs_2
  | 3, _ => exact jPs_3
  | 4, _ => exact jPs_4
  | 5, _ => exact jPs_5
  | 6, _ => exact jPs_6
  | 7, _ => exact jPs_7
  | 8, _ => exact jPs_8
  | 9, _ => exact jPs_9
/-- all that the tables say of a method that is called -/
theorem jMw_ok {y : Nat} (hy : y ∈ jZs) (hl : y ≠ zL_law) : Jvm.Cond.code (jYn y) (jBy y) (jMx y) (jRy y) ∈ jBW ∧ (jKi y = 0 → Jvm.Cond.static (jYn y) ∈ jBW) ∧ (jKi y ≠ 0 → Jvm.Cond.instanceMethod (jYn y) ∈ jBW) ∧ (jKi y = 1 → Jvm.Cond.selects (jRn (jCl y)) (jYn y) (jYn y) ∈ jBW) ∧ Jvm.Cond.initialized (jYn y).cls ∈ jBW ∧ (jYn y).cls = jRn (jCl y) ∧ ((jYn y).cls ≠ "java/lang/invoke/MethodHandle" ∧ (jYn y).cls ≠ "java/lang/invoke/VarHandle") ∧ (parseMethodDescriptor (jYn y).desc).map (fun d => d.parameters.length) = some (if jKi y = 0 then jNa y else jNa y - 1) ∧ (jKi y = 2 → (jYn y).name = "<init>") ∧ plainFor (jYn y) = true ∧
    (jRy y = (match jRt y with
    | 0 => none
    | 1 => some .int
    | 2 => some .long
    | _ => some .boolean) ∧ (jMd y ≠ 1 → jMc y = 0) ∧ (jKi y ≠ 0 → jCl y < 12 ∧ 1 ≤ jNa y) ∧ jMx y ≤ 40 ∧ jRt y ≤ 3 ∧ jKi y ≤ 2 ∧ jMd y ≤ 2 ∧ jCl y < 16) := by
  have hpc := jPc_of hy hl
  obtain ⟨q, hq, rfl⟩ := jMw_of hy hl
  have ha := List.all_eq_true.mp jMw_a q hq
  have hb := List.all_eq_true.mp jMw_b q hq
  have hc := List.all_eq_true.mp jMw_c q hq
  have hd := List.all_eq_true.mp jMw_d q hq
  have hp := List.all_eq_true.mp jMw_p q hq
  have hpar := jMw_par hq
  simp only [Bool.and_eq_true, decide_eq_true_eq] at hb hc hd
  have hcl : (jYn q.1).cls ∈ jRns := by
    rw [hc.1]
    unfold jRn
    have h16 : jCl q.1 < jRns.length := hd.2
    rw [List.getD_eq_getElem?_getD, List.getElem?_eq_getElem h16]
    exact List.getElem_mem _
  have hpl := List.all_eq_true.mp jRn_plain _ hcl
  simp only [Bool.and_eq_true, decide_eq_true_eq] at hpl
  refine ⟨jHas_BW hpc rfl, fun k => ?_, fun k => ?_, fun k => ?_, jHas_BW (jHas_mem hb.2) rfl, hc.1, hpl, hpar, hc.2, hp, ?_⟩
  · rw [if_pos k] at ha
    exact jHas_BW (jHas_mem ha) rfl
  · rw [if_neg k] at ha
    exact jHas_BW (jHas_mem ha) rfl
  · have := hb.1
    rw [if_pos k] at this
    exact jHas_BW (jHas_mem this) rfl
  · obtain ⟨⟨⟨⟨⟨⟨⟨d1, d2⟩, d3⟩, d4⟩, d5⟩, d6⟩, d7⟩, d8⟩ := hd
    exact ⟨d1, d2, d3, d4, d5, d6, d7, d8⟩
theorem jMw_k2 : jMw.all (fun q => decide (jKi q.1 = 2 → jRt q.1 = 0)) = true := by decide +kernel
theorem jKi2_none {y : Nat} (hy : y ∈ jZs) (hl : y ≠ zL_law) (hk : jKi y = 2) : jRy y = none := by
  have h := (jMw_ok hy hl).2.2.2.2.2.2.2.2.2.2.1
  obtain ⟨q, hq, rfl⟩ := jMw_of hy hl
  have h2 := of_decide_eq_true (List.all_eq_true.mp jMw_k2 q hq) hk
  rw [h2] at h
  exact h
section CALL
variable {p : Program} {l : Launch} {e : Env} {R : Room} {s : State} {mi : MethodId} {args : Array Value} {below : List Frame} {meth : Method} {c : Code} {Qf : State → Prop} {D : va_G} {A : Nat → Prop} {H0 : Heap} {Ts : List Jvm.Cond} {z : Nat} {fu : Bool} {sb : Option (Nat × Nat)} {g : Int → Int} {n0 : Nat} {ws0 : va_W}
variable {pc : Nat} {ls : jS} {st : List jV} {m : jM} {C : Nat → List jV → jM → (Int → jM → Prop) → Prop} {Q : Int → jM → Prop}
variable {H : Heap} {locs : List Loc} {cells slots : Nat} {ws : va_W} {tys : List (ClassId × FieldType)} {lsR : Array Slot} {stR : List Value}
theorem jGoodIn {Ts : List Jvm.Cond} {y : Nat} (hBT : ∀ w ∈ jBW, w ∈ Ts) (hcode : Jvm.Cond.code (jYn y) (jBy y) (jMx y) (jRy y) ∈ jBW) : GoodIn Ts (jWs y) := by
  intro w hw
  have hb : w ∈ jBW := by
    rcases List.mem_cons.mp hw with rfl | hw
    · exact hcode
    · exact hw
  exact ⟨hBT w hb, good_of_word (List.mem_filter.mp hb).2⟩
theorem jSr_none : ∀ {a : List jV} {b : List Value}, jSr ws sb a b → jNs a = true → jSr ws none a b
  | [], [], _, _ => trivial
  | .inl _ :: _, _ :: _, h, hn => ⟨h.1, jSr_none h.2 hn⟩
  | .inr (.inl _) :: _, _ :: _, h, hn => ⟨h.1, jSr_none h.2 hn⟩
  | .inr (.inr (.inl _)) :: _, _ :: _, h, hn => ⟨h.1, jSr_none h.2 hn⟩
  | .inr (.inr (.inr (t, n, k))) :: _, _ :: _, h, hn => by
    simp only [jNs, Bool.and_eq_true] at hn
    have ht : t < 4 := by
      have := hn.1
      simp only [Nat.blt, Nat.ble_eq] at this
      omega
    refine ⟨?_, jSr_none h.2 hn.2⟩
    rcases h.1 with h1 | h1
    · exact Or.inl h1
    · exact absurd h1.1 (by omega)
theorem jSr_take : ∀ (n : Nat) {a : List jV} {b : List Value}, jSr ws sb a b → n ≤ a.length → ∃ b1 b2, b = b1 ++ b2 ∧ jSr ws sb (a.take n) b1 ∧ jSr ws sb (a.drop n) b2 ∧ b1.length = n
  | 0, a, b, h, _ => ⟨[], b, rfl, trivial, h, rfl⟩
  | n + 1, v :: a, w :: b, h, hn => by
    obtain ⟨b1, b2, e1, e2, e3, e4⟩ := jSr_take n h.2 (by simpa using hn)
    exact ⟨w :: b1, b2, by rw [e1]; rfl, ⟨h.1, e2⟩, e3, by rw [List.length_cons, e4]⟩
  | n + 1, [], b, _, hn => by simp at hn
theorem jSr_snoc : ∀ {a : List jV} {b : List Value} {v : jV} {w : Value}, jSr ws sb a b → jVr ws sb v w → jSr ws sb (a ++ [v]) (b ++ [w])
  | [], [], _, _, _, hv => ⟨hv, trivial⟩
  | _ :: _, _ :: _, _, _, h, hv => ⟨h.1, jSr_snoc h.2 hv⟩
theorem jSr_rev : ∀ {a : List jV} {b : List Value}, jSr ws sb a b → jSr ws sb a.reverse b.reverse
  | [], [], _ => trivial
  | _ :: _, _ :: _, h => by
    rw [List.reverse_cons, List.reverse_cons]
    exact jSr_snoc (jSr_rev h.2) h.1
theorem jNs_mem : ∀ {a : List jV}, (∀ t n k, jY t n k ∈ a → t < 4) → jNs a = true
  | [], _ => rfl
  | .inl _ :: a, h => jNs_mem (a := a) (fun t n k hq => h t n k (List.mem_cons_of_mem _ hq))
  | .inr (.inl _) :: a, h => jNs_mem (a := a) (fun t n k hq => h t n k (List.mem_cons_of_mem _ hq))
  | .inr (.inr (.inl _)) :: a, h => jNs_mem (a := a) (fun t n k hq => h t n k (List.mem_cons_of_mem _ hq))
  | .inr (.inr (.inr (t, n, k))) :: _, h => by
    simp only [jNs, Bool.and_eq_true]
    have := h t n k List.mem_cons_self
    exact ⟨by simp only [Nat.blt, Nat.ble_eq]; omega, jNs_mem (fun t n k hq => h t n k (List.mem_cons_of_mem _ hq))⟩
theorem jNs_of : ∀ {a : List jV}, jNs a = true → ∀ t n k, jY t n k ∈ a → t < 4
  | [], _, _, _, _, h => by cases h
  | .inl _ :: a, hn, t, n, k, h => by
    rcases List.mem_cons.mp h with h | h
    · cases h
    · exact jNs_of (a := a) hn t n k h
  | .inr (.inl _) :: a, hn, t, n, k, h => by
    rcases List.mem_cons.mp h with h | h
    · cases h
    · exact jNs_of (a := a) hn t n k h
  | .inr (.inr (.inl _)) :: a, hn, t, n, k, h => by
    rcases List.mem_cons.mp h with h | h
    · cases h
    · exact jNs_of (a := a) hn t n k h
  | .inr (.inr (.inr (t', n', k'))) :: _, hn, t, n, k, h => by
    simp only [jNs, Bool.and_eq_true] at hn
    rcases List.mem_cons.mp h with h | h
    · cases h
      have := hn.1
      simp only [Nat.blt, Nat.ble_eq] at this
      omega
    · exact jNs_of hn.2 t n k h
theorem jNs_rev {a : List jV} (h : jNs a = true) : jNs a.reverse = true := jNs_mem (fun t n k hq => jNs_of h t n k (List.mem_reverse.mp hq))
/-- behind a call -/
theorem jr_back {fuy : Bool} {y : Nat} {rest : List jV} {restR : List Value} {K : Int → jM → Prop} {gy : Int → Int} {mc ms : Nat} {aR : Array Value} (hc : jCx p R s mi args meth c A H0 Ts z fu sb g)
    (hr : va_Run p l e R s mi args below meth c H locs cells slots mc ms (F0 mi pc lsR stR) restR (jQc D fuy ws H.size gy y K aR) (va_A ws H.size)) (hfw : ∀ (w : va_W) (ty : List (ClassId × FieldType)) (q : jM), jWd fuy w ty q → jWd fu w ty q) (hrt : jRt y ≤ 3) (hmc : mc = jMc y) (hms : ms = jOf (ws.length + jMc y) - jOf ws.length)
    (hP : va_P D jVc ws H) (hD : va_D A ws) (hS : va_S A H0 H locs) (hl : jLr ws sb (jMx z) ls lsR) (hst : jSr ws sb rest restR) (hx : jEx ws0 ws) (hn : cells + n0 = ws.length ∧ slots + jOf n0 = jOf ws.length)
    (kk : ∀ (v : Int) (m' : jM), K v m' → (∀ j, m' (-2) j = gy j) → (∃ (w : va_W) (ty : List (ClassId × FieldType)), jWd fuy w ty m') → ∃ m'', (∀ q j : Int, q ≠ -2 → m'' q j = m' q j) ∧ (∀ j, m'' (-2) j = g j) ∧ jP p l e R s mi args below meth c Qf D A H0 z fu sb g n0 ws0 (pc + 3) ls (jPush (jRt y) v rest) m'')
    (hbd : ∀ (ws' : va_W) (m'' : jM), ws'.length = ws.length + jMc y → (∀ j, m'' (-2) j = g j) → jBd R z n0 ws' m'' (cells + mc) (slots + ms)) :
    W p l e R s mi args below meth c H locs cells slots Qf (F0 mi pc lsR stR) := by
  intro T hT X
  obtain ⟨v, st₀, t, T', L, h0, X', hL, e1, e2, ⟨⟨rv, m', ws', tys', hK, hoc, hW', hP', hK', hD', hx', hg', hlen'⟩, hF⟩, hst'⟩ := hr T hT X
  obtain ⟨hz, hk⟩ := hF
  rw [h0] at hz hk
  obtain ⟨m'', g1, g2, hX⟩ := kk rv m' hK hg' ⟨ws', tys', hW'⟩
  have hA := hc.2.2.2.2.2.2.2.2.1
  have hAA : ∀ q, va_A ws H.size q → A q := by
    rintro q (⟨k, ee, hk⟩ | hk)
    · exact hD.2 k (q, ee) hk
    · exact hA q (Nat.le_trans hS.1 hk)
  have hS1 : va_S A H0 T'.heap (locs ++ L) := ⟨Nat.le_trans hS.1 (by rw [e1]; exact hz), fun q h1 h2 => by rw [e1, hk q (Nat.lt_of_lt_of_le h1 hS.1) (fun zz => h2 (hAA q zz))]; exact hS.2.1 q h1 h2, fun q hq => by
      rcases List.mem_append.mp hq with h | h
      · exact hS.2.2 q h
      · exact hAA _ (hL q h)⟩
  have hvm : s.vm.Alike t.vm := by rw [← e2]; exact X'.warmed.alike
  have hW2 : jWd fu ws' tys' m'' := by
    obtain ⟨w1, w2, w3, w4⟩ := hfw _ _ _ hW'
    exact ⟨by rw [g1 _ _ (by omega)]; exact w1, w2, w3, fun k a ee hk => jEn_same (jEx_rf _) (fun _ _ q => q) (fun j => g1 _ _ (by omega)) (w4 k a ee hk)⟩
  have hrel : ∀ (stR' : List Value), jSr ws' sb (jPush (jRt y) rv rest) stR' → jRel R s D A H0 z fu sb g n0 ws0 T'.heap (locs ++ L) (cells + mc) (slots + ms) ws' tys' lsR stR' ls (jPush (jRt y) rv rest) m'' := fun stR' hs' =>
    ⟨⟨by rw [e1]; exact hP', hD'.weaken (fun _ q _ h => hAA q.1 h), va_K.moved hvm.symm hK', hS1, hW2⟩, jLr_ex hx' hl, hs', g2, hbd ws' m'' hlen' g2, jEx_tr hx hx'⟩
  have hsr := jSr_ex hx' hst
  have hcases : jRt y = 0 ∨ jRt y = 1 ∨ jRt y = 2 ∨ jRt y = 3 := by omega
  rcases hcases with hq | hq | hq | hq
  · rw [hq] at hoc hX hrel
    cases (show Outcome.returned v = .returned none from hoc)
    obtain ⟨t2, a1, b1⟩ := hX _ _ _ _ _ _ _ _ (hrel restR hsr) T' rfl X'
    exact ⟨t2, hst' t2 a1, b1⟩
  · rw [hq] at hoc hX hrel
    obtain ⟨x, hv, hx2⟩ := hoc
    cases hv
    obtain ⟨t2, a1, b1⟩ := hX _ _ _ _ _ _ _ _ (hrel (.int x :: restR) ⟨⟨x, rfl, hx2⟩, hsr⟩) T' rfl X'
    exact ⟨t2, hst' t2 a1, b1⟩
  · rw [hq] at hoc hX hrel
    obtain ⟨x, hv, hx2⟩ := hoc
    cases hv
    obtain ⟨t2, a1, b1⟩ := hX _ _ _ _ _ _ _ _ (hrel (.long x :: restR) ⟨⟨x, rfl, hx2⟩, hsr⟩) T' rfl X'
    exact ⟨t2, hst' t2 a1, b1⟩
  · rw [hq] at hoc hX hrel
    obtain ⟨x, hv, hx2⟩ := hoc
    cases hv
    obtain ⟨t2, a1, b1⟩ := hX _ _ _ _ _ _ _ _ (hrel (.int x :: restR) ⟨⟨x, rfl, hx2⟩, hsr⟩) T' rfl X'
    exact ⟨t2, hst' t2 a1, b1⟩
end CALL
/-! the world that is complete, and the one that isn't yet -/
theorem jFv_weak {ws : va_W} {k : Int} {f : Nat} {a : Int} {v : Value} (h : jFv true ws k f a v) : jFv false ws k f a v := by
  rcases h with g | g | ⟨g0, g | g⟩ | ⟨g0, g | g⟩
  · exact Or.inl g
  · exact Or.inr (Or.inl g)
  · cases g.1
  · exact Or.inr (Or.inr (Or.inl ⟨g0, Or.inr g⟩))
  · cases g.1
  · exact Or.inr (Or.inr (Or.inr ⟨g0, Or.inr g⟩))
theorem jWd_weak {ws : va_W} {tys : List (ClassId × FieldType)} {m : jM} (h : jWd true ws tys m) : jWd false ws tys m := by
  obtain ⟨h1, h2, h3, h4⟩ := h
  refine ⟨h1, h2, fun z => (by cases z), fun k a e hk => ?_⟩
  rcases h4 k a e hk with ⟨g0, vs, g1, g2, g3⟩ | g | g | ⟨g0, cA, f, t0, g1, g2, g3⟩
  · refine Or.inl ⟨g0, vs, g1, g2, fun j hj => ?_⟩
    obtain ⟨v, q1, q2⟩ := g3 j hj
    exact ⟨v, q1, jFv_weak q2⟩
  · exact Or.inr (Or.inl g)
  · exact Or.inr (Or.inr (Or.inl g))
  · refine Or.inr (Or.inr (Or.inr ⟨g0, cA, f, t0, g1, g2, fun j hj => ?_⟩))
    rcases g3 j hj with q | q
    · cases q.1
    · exact Or.inr q
theorem jFin_all : jFin.all (fun q => decide (0 ≤ q.1 ∧ q.1 < 161 ∧ 0 ≤ q.2.1 ∧ jKd q.1 < 12 ∧ q.2.1.toNat < jNf (jKd q.1) ∧ (jFg (jFf (jKd q.1) q.2.1.toNat) = 3 ∨ jFg (jFf (jKd q.1) q.2.1.toNat) = 4) ∧ q.2.2 = q.1 + jFo (jFf (jKd q.1) q.2.1.toNat))) = true := by decide +kernel
theorem jMut_all : jMut.all (fun q => decide (0 ≤ q.1 ∧ q.1 < 161 ∧ 0 ≤ q.2.1 ∧ ((jKd q.1 < 12 ∧ q.2.1.toNat < jNf (jKd q.1) ∧ jFg (jFf (jKd q.1) q.2.1.toNat) = 5 ∧ q.2.2 = jFt (jFf (jKd q.1) q.2.1.toNat)) ∨ ((jKd q.1 = 22 ∨ jKd q.1 = 23) ∧ q.2.1.toNat < (jLn q.1).toNat ∧ q.2.2 = jKd q.1 - 16)))) = true := by decide +kernel
theorem jFin_has : (List.range 161).all (fun k => if jKd k < 12 then (List.range (jNf (jKd k))).all (fun j => decide (((jFg (jFf (jKd k) j) = 3 ∨ jFg (jFf (jKd k) j) = 4) → ((k : Int), (j : Int), (k : Int) + (jFo (jFf (jKd k) j) : Int)) ∈ jFin) ∧ (jFg (jFf (jKd k) j) = 5 → ((k : Int), (j : Int), jFt (jFf (jKd k) j)) ∈ jMut))) else if jKd k = 22 ∨ jKd k = 23 then (List.range (jLn k).toNat).all (fun j => decide (((k : Int), (j : Int), jKd k - 16) ∈ jMut)) else true) = true := by decide +kernel
theorem jWd_isFull {ws : va_W} {tys : List (ClassId × FieldType)} {m : jM} (h : jWd true ws tys m) : jFull m := by
  obtain ⟨h1, h2, h3, h4⟩ := h
  have hl := h3 rfl
  have cell : ∀ k : Int, 0 ≤ k → k < 161 → ∃ e, jEn true ws tys k.toNat m e := by
    intro k hk hk2
    have hlt : k.toNat < ws.length := by omega
    exact ⟨_, h4 k.toNat ws[k.toNat].1 ws[k.toNat].2 (List.getElem?_eq_getElem hlt)⟩
  refine ⟨by rw [h1, hl]; rfl, fun q hq => ?_, fun q hq => ?_⟩
  · obtain ⟨a1, a2, a3, a4, a5, a6, a7⟩ := of_decide_eq_true (List.all_eq_true.mp jFin_all q hq)
    obtain ⟨e, he⟩ := cell q.1 a1 a2
    have e1 : (q.1.toNat : Int) = q.1 := by omega
    have e2 : (q.2.1.toNat : Int) = q.2.1 := by omega
    unfold jEn at he
    rw [e1] at he
    rcases he with ⟨g0, vs, g1, g2, g3⟩ | ⟨g0, -⟩ | ⟨g0, -⟩ | ⟨g0, -⟩
    · obtain ⟨v, q1, q2⟩ := g3 q.2.1.toNat a5
      rw [e2] at q2
      rcases q2 with ⟨o, -⟩ | ⟨o, -⟩ | ⟨-, o | o⟩ | ⟨o, -⟩
      · omega
      · omega
      · cases o.1
      · rw [o.1, a7]
      · omega
    · omega
    · omega
    · omega
  · obtain ⟨a1, a2, a3, a4⟩ := of_decide_eq_true (List.all_eq_true.mp jMut_all q hq)
    obtain ⟨e, he⟩ := cell q.1 a1 a2
    have e1 : (q.1.toNat : Int) = q.1 := by omega
    have e2 : (q.2.1.toNat : Int) = q.2.1 := by omega
    have fin : ∀ {u : Nat}, jRf ws (m q.1 q.2.1) u → 0 ≤ m q.1 q.2.1 ∧ m q.1 q.2.1 < 161 := by
      rintro u ⟨u1, e', u2⟩
      have := (List.getElem?_eq_some_iff.mp u2).1
      omega
    unfold jEn at he
    rw [e1] at he
    rcases a4 with ⟨a4, a5, a6, a7⟩ | ⟨a4, a5, a6⟩
    · rcases he with ⟨g0, vs, g1, g2, g3⟩ | ⟨g0, -⟩ | ⟨g0, -⟩ | ⟨g0, -⟩
      · obtain ⟨v, q1, q2⟩ := g3 q.2.1.toNat a5
        rw [e2] at q2
        rcases q2 with ⟨o, -⟩ | ⟨o, -⟩ | ⟨o, -⟩ | ⟨-, o | ⟨o1, u, o2, o3⟩⟩
        · omega
        · omega
        · omega
        · cases o.1
        · exact ⟨(fin o3).1, (fin o3).2, by rw [o1, a7]⟩
      · omega
      · omega
      · omega
    · rcases he with ⟨g0, -⟩ | ⟨g0, -⟩ | ⟨g0, -⟩ | ⟨g0, cA, f, t0, g1, g2, g3⟩
      · omega
      · omega
      · omega
      · have := g3 q.2.1.toNat a5
        rw [e2] at this
        rcases this with o | ⟨o1, u, o2, o3⟩
        · cases o.1
        · exact ⟨(fin o3).1, (fin o3).2, by rw [o1, a6]⟩
theorem jFull_wd {ws : va_W} {tys : List (ClassId × FieldType)} {m : jM} (h : jWd false ws tys m) (hf : jFull m) : jWd true ws tys m := by
  obtain ⟨h1, h2, h3, h4⟩ := h
  obtain ⟨f1, f2, f3⟩ := hf
  have hl : ws.length = 161 := by omega
  refine ⟨h1, h2, fun _ => hl, fun k a e hk => ?_⟩
  have hlt : k < 161 := by
    have := (List.getElem?_eq_some_iff.mp hk).1
    omega
  have hh := List.all_eq_true.mp jFin_has k (List.mem_range.mpr hlt)
  rcases h4 k a e hk with ⟨g0, vs, g1, g2, g3⟩ | g | g | ⟨g0, cA, f, t0, g1, g2, g3⟩
  · rw [if_pos g0] at hh
    refine Or.inl ⟨g0, vs, g1, g2, fun j hj => ?_⟩
    obtain ⟨v, q1, q2⟩ := g3 j hj
    obtain ⟨p1, p2⟩ := of_decide_eq_true (List.all_eq_true.mp hh j (List.mem_range.mpr hj))
    refine ⟨v, q1, ?_⟩
    rcases q2 with o | o | ⟨o0, ⟨-, o1, o2⟩ | o⟩ | ⟨o0, ⟨-, o1, o2⟩ | o⟩
    · exact Or.inl o
    · exact Or.inr (Or.inl o)
    · have := f2 _ (p1 o0)
      dsimp only at this
      omega
    · exact Or.inr (Or.inr (Or.inl ⟨o0, Or.inr o⟩))
    · have := f3 _ (p2 o0)
      dsimp only at this
      omega
    · exact Or.inr (Or.inr (Or.inr ⟨o0, Or.inr o⟩))
  · exact Or.inr (Or.inl g)
  · exact Or.inr (Or.inr (Or.inl g))
  · rw [if_neg (by omega), if_pos g0] at hh
    refine Or.inr (Or.inr (Or.inr ⟨g0, cA, f, t0, g1, g2, fun j hj => ?_⟩))
    have p1 := of_decide_eq_true (List.all_eq_true.mp hh j (List.mem_range.mpr hj))
    rcases g3 j hj with ⟨-, o1, o2⟩ | o
    · have := f3 _ p1
      dsimp only at this
      omega
    · exact Or.inr o
end
section
/-! a call is a call of the machine -/
section CALL2
variable {p : Program} {l : Launch} {e : Env} {R : Room} {s : State} {mi : MethodId} {args : Array Value} {below : List Frame} {meth : Method} {c : Code} {Qf : State → Prop} {D : va_G} {A : Nat → Prop} {H0 : Heap} {Ts : List Jvm.Cond} {z : Nat} {fu : Bool} {sb : Option (Nat × Nat)} {g : Int → Int} {n0 : Nat} {ws0 : va_W}
variable {pc : Nat} {ls : jS} {st : List jV} {m : jM} {C : Nat → List jV → jM → (Int → jM → Prop) → Prop} {Q : Int → jM → Prop}
variable {H : Heap} {locs : List Loc} {cells slots : Nat} {ws : va_W} {tys : List (ClassId × FieldType)} {lsR : Array Slot} {stR : List Value}
theorem jOf_mono {a b : Nat} (h : a ≤ b) : jOf a ≤ jOf b := by
  induction h with
  | refl => exact Nat.le_refl _
  | step _ ih => exact Nat.le_trans ih (Nat.le_add_right _ _)
theorem jPre_in (hc : jCx p R s mi args meth c A H0 Ts z fu sb g) (hr : va_P D jVc ws H ∧ va_D A ws ∧ va_K D jVc tys s) (U : State) (hU : U.heap = H) (hW : s.WarmedH U.vm) : jPre D ws tys H.size U :=
  ⟨by rw [hU], by rw [hU]; exact hr.1, va_K.moved hW.alike hr.2.2, hr.2.1.weaken (fun _ _ _ _ => trivial), jKO_warm hW ⟨hc.2.2.2.2.2.2.1, hc.2.2.2.2.2.2.2.1.1, hc.2.2.2.2.2.2.2.1.2⟩⟩
/-- what a call needs of the link: its word is in the tables, or (a constructor of a nest mate) a word of the nest -/
def jLink (z i y : Nat) : Prop := Jvm.Cond.methodLink (jRn (jCl z)) i (jYn y) ∈ jBW ∨ (jKi y = 2 ∧ Jvm.Cond.methodLinkNest (jRn (jCl z)) i (jYn y) "CourtMatcher" ∈ jNests)
theorem jr_run {e0 y i : Nat} {K0 : Int → jM → Prop} {gy : Int → Int} {fuy : Bool} {aargs : List jV} {b1 b2 : List Value} (r : Instr) (hc : jCx p R s mi args meth c A H0 Ts z fu sb g) (hroom : e0 + 2 ≤ R.frames ∧ 60 * (e0 + 2) ≤ R.locals)
    (hy : y ∈ jZs) (hyl : y ≠ zL_law) (hlink : jLink z i y) (hr : (jKi y = 0 ∧ r = .invokestatic i ∧ Jvm.Cond.methodLink (jRn (jCl z)) i (jYn y) ∈ jBW) ∨ (jKi y = 1 ∧ r = .invokevirtual i ∧ Jvm.Cond.methodLink (jRn (jCl z)) i (jYn y) ∈ jBW) ∨ (jKi y = 2 ∧ r = .invokespecial i)) (hd : decode (jBy z) pc = .ok (r, 3))
    (hM : Met l (jYn y) (jWs y) (jRm e0 y ws.length) (va_Pc b1.reverse (jPre D ws tys H.size)) (jQc D fuy ws H.size gy y K0) (jMc y) (jOf (ws.length + jMc y) - jOf ws.length) (va_A ws H.size))
    (hP : va_P D jVc ws H ∧ va_D A ws ∧ va_K D jVc tys s) (hW : jWd fu ws tys m) (hs : jSr ws none aargs b1.reverse) (hhd : jKi y = 0 ∨ jHd (jCl y) aargs = true) (hlen : b1.length = jNa y) (hcat : (b2.map fun v => v.category).sum ≤ 8) (hsz : lsR.size = jMx z) (hf : cells + jMc y ≤ R.cells ∧ slots + (jOf (ws.length + jMc y) - jOf ws.length) ≤ R.slots) :
    ∃ aR, va_Run p l e R s mi args below meth c H locs cells slots (jMc y) (jOf (ws.length + jMc y) - jOf ws.length) (F0 mi pc lsR (b1 ++ b2)) b2 (jQc D fuy ws H.size gy y K0 aR) (va_A ws H.size) := by
  obtain ⟨w1, w2, w3, w4, w5, w6, w7, w8, w9, w10, d1, d2, d3, d4, d5, d6, d7, d8⟩ := jMw_ok hy hyl
  have hBW := fun w hw => hc.2.2.2.2.1 w (hc.2.2.2.2.2.1 w hw)
  have hfix : CallFix p mi c (jBy z) (jMx z) s args Ts (jRn (jCl z)) := ⟨hc.1, hc.2.1, hc.2.2.1, hc.2.2.2.1, hc.2.2.2.2.1⟩
  have hGI : GoodIn Ts (jWs y) := jGoodIn hc.2.2.2.2.2.1 w1
  have hR : (jRm e0 y ws.length).frames + 1 ≤ R.frames ∧ 8 + (jMx y + 11) + (jRm e0 y ws.length).locals ≤ R.locals := by
    constructor
    · show e0 + 1 + 1 ≤ _
      omega
    · show 8 + (jMx y + 11) + 60 * (e0 + 1) ≤ _
      omega
  have hmr : 2 * (F0 mi pc lsR (b1 ++ b2)).monitorRoom + (b2.map fun v => v.category).sum ≤ 8 := by
    show 2 * 0 + _ ≤ 8
    omega
  have hpre : ∀ U : State, U.heap = H → s.WarmedH U.vm → va_Pc b1.reverse (jPre D ws tys H.size) b1.reverse.toArray U := fun U hU hW' => ⟨rfl, jPre_in hc hP U hU hW'⟩
  have split : jKi y ≠ 0 → ∃ (b : Nat) (As : List Value), b1.reverse = .ref b :: As ∧ b1 ++ b2 = As.reverse ++ .ref b :: b2 ∧ As.length = jNa y - 1 ∧ ∃ cell : Cell, H[b]? = some cell ∧ cell.vm.isStatics = false ∧ s.vm.findClass (jRn (jCl y)) = some cell.cls := by
    intro hk
    have hh : jHd (jCl y) aargs = true := by
      rcases hhd with q | q
      · exact absurd q hk
      · exact q
    match aargs, hs, hh with
    | .inr (.inr (.inl (cy, k))) :: ar, hs, hh =>
      cases hb : b1.reverse with
      | nil => rw [hb] at hs; exact hs.elim
      | cons w As =>
        rw [hb] at hs
        obtain ⟨⟨hk1, b, rfl, hrf⟩, -⟩ := hs
        have hcy : cy = jCl y := Nat.eq_of_beq_eq_true hh
        have h12 : jKd k < 12 := by rw [hk1, hcy]; exact (d3 hk).1
        obtain ⟨vs, o1, -⟩ := jWd_obj hW hrf h12
        obtain ⟨cell, q1, q2, q3⟩ := va_recv hP.2.2 hP.1 (jVc_at h12) o1
        have hb1 : b1 = As.reverse ++ [.ref b] := by
          have := congrArg List.reverse hb
          rw [List.reverse_reverse, List.reverse_cons] at this
          exact this
        refine ⟨b, As, rfl, by rw [hb1]; simp, ?_, cell, q1, q2, by rw [← hcy, ← hk1]; exact q3⟩
        have := congrArg List.length hb1
        simp at this
        omega
  rcases hr with ⟨hk, rfl, hl⟩ | ⟨hk, rfl, hl⟩ | ⟨hk, rfl⟩
  · have hpar : (parseMethodDescriptor (jYn y).desc).map (fun d => d.parameters.length) = some (jNa y) := by rw [w8, if_pos hk]
    have hcb := callB_of (s := s) (args := args) (own := jRn (jCl z)) (index := i) (R := R) (jNa y) hc.2.2.2.2.1 hGI rfl rfl rfl (hBW _ w5) (hBW _ hl) ⟨w7.1, w7.2, hpar⟩ hR
    exact ⟨_, va_runS (As := b1.reverse) hfix hM ⟨hcb, hBW _ (w2 hk)⟩ ⟨jBlind, hpre⟩ rfl (by rw [List.length_reverse]; exact hlen) hsz (by show b1 ++ b2 = _; rw [List.reverse_reverse]) hmr hd hf⟩
  · obtain ⟨b, As, e1, e2, e3, cell, q1, q2, q3⟩ := split (by omega)
    have hpar : (parseMethodDescriptor (jYn y).desc).map (fun d => d.parameters.length) = some (jNa y - 1) := by rw [w8, if_neg (by omega)]
    have hcb := callB_of (s := s) (args := args) (own := jRn (jCl z)) (index := i) (R := R) (jNa y - 1) hc.2.2.2.2.1 hGI rfl rfl rfl (hBW _ w5) (hBW _ hl) ⟨w7.1, w7.2, hpar⟩ hR
    rw [e1] at hM hpre
    exact ⟨_, va_runV (C := jRn (jCl y)) (As := As) hfix hM ⟨hcb, hBW _ (w3 (by omega)), hBW _ (w4 hk)⟩ ⟨jBlind, ⟨cell, q1, q2, q3⟩, hpre⟩ rfl e3 hsz e2 hmr hd hf⟩
  · obtain ⟨b, As, e1, e2, e3, cell, q1, q2, q3⟩ := split (by omega)
    have hpar : (parseMethodDescriptor (jYn y).desc).map (fun d => d.parameters.length) = some (jNa y - 1) := by rw [w8, if_neg (by omega)]
    rw [e1] at hM hpre
    have hret : jRy y = none ∨ jRy y ≠ none := Classical.em _
    rcases hlink with hl | ⟨-, hl⟩
    · have hcb := callB_of (s := s) (args := args) (own := jRn (jCl z)) (index := i) (R := R) (jNa y - 1) hc.2.2.2.2.1 hGI rfl rfl rfl (hBW _ w5) (hBW _ hl) ⟨w7.1, w7.2, hpar⟩ hR
      have hn := jKi2_none hy hyl hk
      rw [hn] at hcb
      exact ⟨_, va_runI (b := b) (As := As) hfix hM ⟨hcb, w9 hk, hBW _ (w3 (by omega))⟩ ⟨jBlind, hpre⟩ rfl e3 hsz e2 hmr hd hf⟩
    · have hcb := va_cnB (s := s) (args := args) (own := jRn (jCl z)) (index := i) (R := R) (host := "CourtMatcher") (ws' := jBW) (jNa y - 1) hc.2.2.2.2.1 hGI rfl (rm := jRm e0 y ws.length) rfl rfl (hc.2.2.2.2.2.2.1 _ hl) (hBW _ w5) ⟨w7.1, w7.2, hpar⟩ hR
      have hn := jKi2_none hy hyl hk
      rw [hn] at hcb
      exact ⟨_, va_runIN (b := b) (As := As) hfix hM ⟨hcb, w9 hk, hBW _ (w3 (by omega))⟩ ⟨jBlind, hpre⟩ rfl e3 hsz e2 hmr hd hf⟩
theorem jr_call {e0 y i : Nat} (r : Instr) (hc : jCx p R s mi args meth c A H0 Ts z fu sb g) (hroom : e0 + 2 ≤ R.frames ∧ 60 * (e0 + 2) ≤ R.locals) (hC : ∀ y a m K, y ∈ jZs → y ≠ zL_law → C y a m K → jGood l e0 y a m K)
    (hy : y ∈ jZs) (hyl : y ≠ zL_law) (hz2 : jMd z ≤ 2) (hlink : jLink z i y) (hk : (jKi y = 0 ∧ r = .invokestatic i ∧ Jvm.Cond.methodLink (jRn (jCl z)) i (jYn y) ∈ jBW) ∨ (jKi y = 1 ∧ r = .invokevirtual i ∧ Jvm.Cond.methodLink (jRn (jCl z)) i (jYn y) ∈ jBW) ∨ (jKi y = 2 ∧ r = .invokespecial i)) (hd : decode (jBy z) pc = .ok (r, 3))
    (h : jStp z C (jP p l e R s mi args below meth c Qf D A H0 z fu sb g n0 ws0) Q pc 3 ls m (jEff z (.invokestatic y) 3 pc ls st m)) : jP p l e R s mi args below meth c Qf D A H0 z fu sb g n0 ws0 pc ls st m := by
  obtain ⟨⟨hlen, hcat, hlay, hhd, hns⟩, h1⟩ := jIf_inv h
  have h1 : jCal z y C (st.take (jNa y)).reverse m (fun v m' => jP p l e R s mi args below meth c Qf D A H0 z fu sb g n0 ws0 (pc + 3) ls (jPush (jRt y) v (st.drop (jNa y))) m') := h1
  obtain ⟨w1, w2, w3, w4, w5, w6, w7, w8, w9, w10, d1, d2, d3, d4, d5, d6, d7, d8⟩ := jMw_ok hy hyl
  intro H locs cells slots ws tys lsR stR hr
  obtain ⟨⟨hP, hD, hK, hS, hW⟩, hl, hst, hg, ⟨b1, b2, b3, b4⟩, hx⟩ := hr
  obtain ⟨v1, v2, rfl, s1, s2, s3⟩ := jSr_take (jNa y) hst hlen
  have hcs := jSr_cats s2
  have hsz : lsR.size = jMx z := by
    obtain ⟨-, lv, hlv, -⟩ := hl
    exact hlv.1
  have hargs : jSr ws none (st.take (jNa y)).reverse v1.reverse := jSr_none (jSr_rev s1) (jNs_rev hns)
  have hPDK := And.intro hP (And.intro hD hK)
  have hbd : ∀ (ws' : va_W) (m'' : jM), (jMd z = 1 → ws.length + jMc y ≤ n0 + jMc z) → (jMd z ≠ 1 → jMc y = 0) → ws'.length = ws.length + jMc y → (∀ j, m'' (-2) j = g j) → jBd R z n0 ws' m'' (cells + jMc y) (slots + (jOf (ws.length + jMc y) - jOf ws.length)) := by
    intro ws' m'' q1 q2 hl' hg'
    have hm := @jOf_mono ws.length (ws.length + jMc y) (Nat.le_add_right _ _)
    refine ⟨by omega, by rw [hl']; omega, fun hz => ?_, fun hz => ?_⟩
    · obtain ⟨c1, c2, c3, c4, c5⟩ := b3 hz
      have := q1 hz
      exact ⟨by rw [hg' (-7), ← hg (-7)]; exact c1, c2, c3, c4, by omega⟩
    · have := q2 hz
      have := b4 hz
      omega
  have hroom2 : (jMd z = 1 → ws.length + jMc y ≤ n0 + jMc z) → (jMd z ≠ 1 → jMc y = 0) → cells + jMc y ≤ R.cells ∧ slots + (jOf (ws.length + jMc y) - jOf ws.length) ≤ R.slots := by
    intro q1 q2
    have hm := @jOf_mono ws.length (ws.length + jMc y) (Nat.le_add_right _ _)
    by_cases hz : jMd z = 1
    · obtain ⟨c1, c2, c3, c4, c5⟩ := b3 hz
      have q := q1 hz
      have := jOf_mono q
      omega
    · have e1 := q2 hz
      have e2 := b4 hz
      rw [e1]
      have : jOf ws.length = jOf n0 := by rw [e2]
      simp only [Nat.add_zero, Nat.sub_self]
      omega
  -- one road for all modes
  have road : ∀ (fuy : Bool) (m0 : jM) (gy : Int → Int) (K0 : Int → jM → Prop), C y (st.take (jNa y)).reverse m0 K0 → (jMd y = 0 → fuy = true) → (jMd y = 1 → fuy = false ∧ m0 (-2) (-7) = ((ws.length + jMc y : Nat) : Int) ∧ ws.length + jMc y ≤ 161) → jWd fuy ws tys m0 → (∀ j, m0 (-2) j = gy j) →
      (∀ (w : va_W) (ty : List (ClassId × FieldType)) (q : jM), jWd fuy w ty q → jWd fu w ty q) → (jMd z = 1 → ws.length + jMc y ≤ n0 + jMc z) → (jMd z ≠ 1 → jMc y = 0) →
      (∀ (v : Int) (m' : jM), K0 v m' → (∀ j, m' (-2) j = gy j) → (∃ (w : va_W) (ty : List (ClassId × FieldType)), jWd fuy w ty m') → ∃ m'', (∀ q j : Int, q ≠ -2 → m'' q j = m' q j) ∧ (∀ j, m'' (-2) j = g j) ∧ jP p l e R s mi args below meth c Qf D A H0 z fu sb g n0 ws0 (pc + 3) ls (jPush (jRt y) v (st.drop (jNa y))) m'') →
      W p l e R s mi args below meth c H locs cells slots Qf (F0 mi pc lsR (v1 ++ v2)) := by
    intro fuy m0 gy K0 hCy f1 f2 f3 f4 f5 f6 f7 kk
    have hM := hC y _ m0 K0 hy hyl hCy D fuy ws tys v1.reverse H.size gy f1 f2 hargs f3 f4 hlay
    obtain ⟨aR, hrun⟩ := jr_run (below := below) (e := e) (locs := locs) (cells := cells) (slots := slots) (meth := meth) r hc hroom hy hyl hlink hk hd hM hPDK hW hargs hhd s3 (by rw [hcs]; exact hcat) hsz (hroom2 f6 f7)
    exact jr_back hc hrun f5 d5 rfl rfl hP hD hS hl s2 hx ⟨b1, b2⟩ kk (fun ws' m'' q1 q2 => hbd ws' m'' f6 f7 q1 q2)
  unfold jCal at h1
  split at h1
  · rename_i ez ey
    have hfu := hc.2.2.2.2.2.2.2.2.2.2.1 ez
    exact road fu m g _ h1 (fun _ => hfu) (fun q => by omega) hW hg (fun _ _ _ q => q) (fun q => by omega) (fun _ => d2 (by omega)) (fun v m' hK' hg' _ => ⟨m', fun _ _ _ => rfl, hg', hK'⟩)
  · rename_i ez ey
    exact road fu m g _ h1 (fun q => by omega) (fun q => by omega) hW hg (fun _ _ _ q => q) (fun q => by omega) (fun _ => d2 (by omega)) (fun v m' hK' hg' _ => ⟨m', fun _ _ _ => rfl, hg', hK'⟩)
  · rename_i ez ey
    obtain ⟨c1, c2, c3, c4, c5⟩ := b3 ez
    exact road fu m g _ h1 (fun q => by omega) (fun q => by omega) hW hg (fun _ _ _ q => q) (fun _ => by rw [d2 (by omega)]; exact c5) (fun _ => d2 (by omega)) (fun v m' hK' hg' _ => ⟨m', fun _ _ _ => rfl, hg', hK'⟩)
  · rename_i ez ey
    obtain ⟨c1, c2, c3, c4, c5⟩ := b3 ez
    have hfu := (hc.2.2.2.2.2.2.2.2.2.2.2.1 ez).1
    subst hfu
    exact road true m g _ h1.2 (fun _ => rfl) (fun q => by omega) (jFull_wd hW h1.1) hg (fun _ _ _ q => jWd_weak q) (fun _ => by rw [d2 (by omega)]; exact c5) (fun _ => d2 (by omega)) (fun v m' hK' hg' ⟨w, ty, hw⟩ => ⟨m', fun _ _ _ => rfl, hg', hK' (jWd_isFull hw)⟩)
  · rename_i ez ey
    obtain ⟨c1, c2, c3, c4, c5⟩ := b3 ez
    have hfu := (hc.2.2.2.2.2.2.2.2.2.2.2.1 ez).1
    subst hfu
    have hlen' := hW.1
    have hlim := h1.1
    have hW2 : jWd false ws tys (jLim m y) := by
      obtain ⟨u1, u2, u3, u4⟩ := hW
      exact ⟨by rw [show jLim m y (-3) 0 = m (-3) 0 from jUp_ne (by omega)]; exact u1, u2, u3, fun k a ee hk => jEn_same (jEx_rf _) (fun _ _ q => q) (fun j => jUp_ne (by omega)) (u4 k a ee hk)⟩
    refine road false (jLim m y) (fun j => jLim m y (-2) j) _ h1.2 (fun q => by omega) (fun _ => ⟨rfl, ?_, by omega⟩) hW2 (fun _ => rfl) (fun _ _ _ q => q) (fun _ => by omega) (fun q => absurd ez q) (fun v m' hK' hg' _ => ⟨_, fun q j hq => jUp_ne hq, fun j => ?_, hK'⟩)
    · show jUp m (-2) (-7) _ (-2) (-7) = _
      rw [jUp_eq, hlen']
      omega
    · by_cases hj : j = -7
      · subst hj
        rw [jUp_eq]
        exact hg (-7)
      · rw [jUp_ni hj, hg' j]
        show jUp m (-2) (-7) _ (-2) j = _
        rw [jUp_ni hj]
        exact hg j
  · exact h1.elim
end CALL2
end
section
/-! SOUND: what the abstract run does, the machine does -/
def jDc (z : Nat) : Prop := jChk (jCl z) (jBy z) (jCode (jIx z)) = true
theorem jDs_0 : ∀ z ∈ [zX0_init, zX0_take, zX0_seat, zX0_isIn, zX0_forcedBeside, zX0_marked, zX0_owned, zX0_namersOf, zX0_reachOf, zX0_weighRules, zX0_refusalOf, zX1_init, zX1_write, zX1_hear, zX2_init, zX2_find, zX2_grow, zX2_turn, zX2_spread, zX3_init, zX3_find, zX3_merge, zX3_headTotal, zX3_firstJudge, zX3_follow], jDc z := List.forall_mem_cons.mpr ⟨jdX0_init, List.forall_mem_cons.mpr ⟨jdX0_take, List.forall_mem_cons.mpr ⟨jdX0_seat, List.forall_mem_cons.mpr ⟨jdX0_isIn, List.forall_mem_cons.mpr ⟨jdX0_forcedBeside, List.forall_mem_cons.mpr ⟨jdX0_marked, List.forall_mem_cons.mpr ⟨jdX0_owned, List.forall_mem_cons.mpr ⟨jdX0_namersOf, List.forall_mem_cons.mpr ⟨jdX0_reachOf, List.forall_mem_cons.mpr ⟨jdX0_weighRules, List.forall_mem_cons.mpr ⟨jdX0_refusalOf, List.forall_mem_cons.mpr ⟨jdX1_init, List.forall_mem_cons.mpr ⟨jdX1_write, List.forall_mem_cons.mpr ⟨jdX1_hear, List.forall_mem_cons.mpr ⟨jdX2_init, List.forall_mem_cons.mpr ⟨jdX2_find, List.forall_mem_cons.mpr ⟨jdX2_grow, List.forall_mem_cons.mpr ⟨jdX2_turn, List.forall_mem_cons.mpr ⟨jdX2_spread, List.forall_mem_cons.mpr ⟨jdX3_init, List.forall_mem_cons.mpr ⟨jdX3_find, List.forall_mem_cons.mpr ⟨jdX3_merge, List.forall_mem_cons.mpr ⟨jdX3_headTotal, List.forall_mem_cons.mpr ⟨jdX3_firstJudge, List.forall_mem_cons.mpr ⟨jdX3_follow, fun _ h => absurd h List.not_mem_nil⟩⟩⟩⟩⟩⟩⟩⟩⟩⟩⟩⟩⟩⟩⟩⟩⟩⟩⟩⟩⟩⟩⟩⟩⟩
theorem jDs_1 : ∀ z ∈ [zX3_placeOf, zX4_init, zX4_load, zX4_take, zX4_openBy, zX4_force, zX4_isOpen, zX4_openPairs, zX4_closeJudge, zX4_closeHeavier, zX4_heavierThan, zX4_weigh, zX4_listCases, zX4_canTake, zX4_weighFrom, zX4_leads, zX4_pick, zX4_share, zX4_shareFrom, zX4_follows, zX4_sumOf, zX4_sharedOf, zX5_init, zX5_make, zX5_firstPay], jDc z := List.forall_mem_cons.mpr ⟨jdX3_placeOf, List.forall_mem_cons.mpr ⟨jdX4_init, List.forall_mem_cons.mpr ⟨jdX4_load, List.forall_mem_cons.mpr ⟨jdX4_take, List.forall_mem_cons.mpr ⟨jdX4_openBy, List.forall_mem_cons.mpr ⟨jdX4_force, List.forall_mem_cons.mpr ⟨jdX4_isOpen, List.forall_mem_cons.mpr ⟨jdX4_openPairs, List.forall_mem_cons.mpr ⟨jdX4_closeJudge, List.forall_mem_cons.mpr ⟨jdX4_closeHeavier, List.forall_mem_cons.mpr ⟨jdX4_heavierThan, List.forall_mem_cons.mpr ⟨jdX4_weigh, List.forall_mem_cons.mpr ⟨jdX4_listCases, List.forall_mem_cons.mpr ⟨jdX4_canTake, List.forall_mem_cons.mpr ⟨jdX4_weighFrom, List.forall_mem_cons.mpr ⟨jdX4_leads, List.forall_mem_cons.mpr ⟨jdX4_pick, List.forall_mem_cons.mpr ⟨jdX4_share, List.forall_mem_cons.mpr ⟨jdX4_shareFrom, List.forall_mem_cons.mpr ⟨jdX4_follows, List.forall_mem_cons.mpr ⟨jdX4_sumOf, List.forall_mem_cons.mpr ⟨jdX4_sharedOf, List.forall_mem_cons.mpr ⟨jdX5_init, List.forall_mem_cons.mpr ⟨jdX5_make, List.forall_mem_cons.mpr ⟨jdX5_firstPay, fun _ h => absurd h List.not_mem_nil⟩⟩⟩⟩⟩⟩⟩⟩⟩⟩⟩⟩⟩⟩⟩⟩⟩⟩⟩⟩⟩⟩⟩⟩⟩
theorem jDs_2 : ∀ z ∈ [zX5_slack, zX5_findTight, zX5_leastSlack, zX5_keep, zX5_raise, zX6_init, zX6_clear, zX6_take, zX6_add, zX6_landHere, zX6_names, zX6_weightBy, zX7_init, zX7_become, zX7_holds, zX7_set, zX8_init, zX8_add, zX8_parse, zX8_expr, zX8_sum, zX8_product, zX8_factor, zX8_atom, zX8_function], jDc z := List.forall_mem_cons.mpr ⟨jdX5_slack, List.forall_mem_cons.mpr ⟨jdX5_findTight, List.forall_mem_cons.mpr ⟨jdX5_leastSlack, List.forall_mem_cons.mpr ⟨jdX5_keep, List.forall_mem_cons.mpr ⟨jdX5_raise, List.forall_mem_cons.mpr ⟨jdX6_init, List.forall_mem_cons.mpr ⟨jdX6_clear, List.forall_mem_cons.mpr ⟨jdX6_take, List.forall_mem_cons.mpr ⟨jdX6_add, List.forall_mem_cons.mpr ⟨jdX6_landHere, List.forall_mem_cons.mpr ⟨jdX6_names, List.forall_mem_cons.mpr ⟨jdX6_weightBy, List.forall_mem_cons.mpr ⟨jdX7_init, List.forall_mem_cons.mpr ⟨jdX7_become, List.forall_mem_cons.mpr ⟨jdX7_holds, List.forall_mem_cons.mpr ⟨jdX7_set, List.forall_mem_cons.mpr ⟨jdX8_init, List.forall_mem_cons.mpr ⟨jdX8_add, List.forall_mem_cons.mpr ⟨jdX8_parse, List.forall_mem_cons.mpr ⟨jdX8_expr, List.forall_mem_cons.mpr ⟨jdX8_sum, List.forall_mem_cons.mpr ⟨jdX8_product, List.forall_mem_cons.mpr ⟨jdX8_factor, List.forall_mem_cons.mpr ⟨jdX8_atom, List.forall_mem_cons.mpr ⟨jdX8_function, fun _ h => absurd h List.not_mem_nil⟩⟩⟩⟩⟩⟩⟩⟩⟩⟩⟩⟩⟩⟩⟩⟩⟩⟩⟩⟩⟩⟩⟩⟩⟩
theorem jDs_3 : ∀ z ∈ [zX8_part, zX8_enter, zX8_leave, zX8_step, zX8_word, zX8_nameOfOne, zX8_nameOfThree, zX8_digits, zX8_isLetter, zX8_isDigit, zX8_isSign, zX9_init, zX9_burdenOf, zX9_read, zX9_leaf, zX9_join, zX9_fail, zX10_init, zX10_here, zX10_trait, zX10_tell, zX10_burden, zX10_mark, zX10_open, zX10_feed], jDc z := List.forall_mem_cons.mpr ⟨jdX8_part, List.forall_mem_cons.mpr ⟨jdX8_enter, List.forall_mem_cons.mpr ⟨jdX8_leave, List.forall_mem_cons.mpr ⟨jdX8_step, List.forall_mem_cons.mpr ⟨jdX8_word, List.forall_mem_cons.mpr ⟨jdX8_nameOfOne, List.forall_mem_cons.mpr ⟨jdX8_nameOfThree, List.forall_mem_cons.mpr ⟨jdX8_digits, List.forall_mem_cons.mpr ⟨jdX8_isLetter, List.forall_mem_cons.mpr ⟨jdX8_isDigit, List.forall_mem_cons.mpr ⟨jdX8_isSign, List.forall_mem_cons.mpr ⟨jdX9_init, List.forall_mem_cons.mpr ⟨jdX9_burdenOf, List.forall_mem_cons.mpr ⟨jdX9_read, List.forall_mem_cons.mpr ⟨jdX9_leaf, List.forall_mem_cons.mpr ⟨jdX9_join, List.forall_mem_cons.mpr ⟨jdX9_fail, List.forall_mem_cons.mpr ⟨jdX10_init, List.forall_mem_cons.mpr ⟨jdX10_here, List.forall_mem_cons.mpr ⟨jdX10_trait, List.forall_mem_cons.mpr ⟨jdX10_tell, List.forall_mem_cons.mpr ⟨jdX10_burden, List.forall_mem_cons.mpr ⟨jdX10_mark, List.forall_mem_cons.mpr ⟨jdX10_open, List.forall_mem_cons.mpr ⟨jdX10_feed, fun _ h => absurd h List.not_mem_nil⟩⟩⟩⟩⟩⟩⟩⟩⟩⟩⟩⟩⟩⟩⟩⟩⟩⟩⟩⟩⟩⟩⟩⟩⟩
theorem jDs_4 : ∀ z ∈ [zX10_text, zX10_empty, zX10_told, zX10_value, zX10_why, zX10_solve, zX10_round, zX10_price, zX10_total, zX10_many, zX10_best, zX10_kind, zX10_room, zX10_next, zX10_fair, zX10_days, zX10_day, zX10_lack, zX10_without, zX10_tells, zX10_film, zX10_image, zX10_back, zX10_count, zX10_sheet], jDc z := List.forall_mem_cons.mpr ⟨jdX10_text, List.forall_mem_cons.mpr ⟨jdX10_empty, List.forall_mem_cons.mpr ⟨jdX10_told, List.forall_mem_cons.mpr ⟨jdX10_value, List.forall_mem_cons.mpr ⟨jdX10_why, List.forall_mem_cons.mpr ⟨jdX10_solve, List.forall_mem_cons.mpr ⟨jdX10_round, List.forall_mem_cons.mpr ⟨jdX10_price, List.forall_mem_cons.mpr ⟨jdX10_total, List.forall_mem_cons.mpr ⟨jdX10_many, List.forall_mem_cons.mpr ⟨jdX10_best, List.forall_mem_cons.mpr ⟨jdX10_kind, List.forall_mem_cons.mpr ⟨jdX10_room, List.forall_mem_cons.mpr ⟨jdX10_next, List.forall_mem_cons.mpr ⟨jdX10_fair, List.forall_mem_cons.mpr ⟨jdX10_days, List.forall_mem_cons.mpr ⟨jdX10_day, List.forall_mem_cons.mpr ⟨jdX10_lack, List.forall_mem_cons.mpr ⟨jdX10_without, List.forall_mem_cons.mpr ⟨jdX10_tells, List.forall_mem_cons.mpr ⟨jdX10_film, List.forall_mem_cons.mpr ⟨jdX10_image, List.forall_mem_cons.mpr ⟨jdX10_back, List.forall_mem_cons.mpr ⟨jdX10_count, List.forall_mem_cons.mpr ⟨jdX10_sheet, fun _ h => absurd h List.not_mem_nil⟩⟩⟩⟩⟩⟩⟩⟩⟩⟩⟩⟩⟩⟩⟩⟩⟩⟩⟩⟩⟩⟩⟩⟩⟩
theorem jDs_5 : ∀ z ∈ [zX10_put, zX10_item, zX10_copy, zX10_lay, zX10_isSide, zX10_isSeat, zX10_isPair, zX10_isRule, zX10_isSheet, zX10_changed, zX10_refreshPlan, zX10_refreshShares, zX10_refreshNextOnes, zX10_refreshDiary, zX11_in, zX11_init, zX11_isWho, zX11_isPair, zX11_isJudge, zX11_isCase, zX11_here, zX11_trait, zX11_feed, zX11_byteAt, zX11_isLetter], jDc z := List.forall_mem_cons.mpr ⟨jdX10_put, List.forall_mem_cons.mpr ⟨jdX10_item, List.forall_mem_cons.mpr ⟨jdX10_copy, List.forall_mem_cons.mpr ⟨jdX10_lay, List.forall_mem_cons.mpr ⟨jdX10_isSide, List.forall_mem_cons.mpr ⟨jdX10_isSeat, List.forall_mem_cons.mpr ⟨jdX10_isPair, List.forall_mem_cons.mpr ⟨jdX10_isRule, List.forall_mem_cons.mpr ⟨jdX10_isSheet, List.forall_mem_cons.mpr ⟨jdX10_changed, List.forall_mem_cons.mpr ⟨jdX10_refreshPlan, List.forall_mem_cons.mpr ⟨jdX10_refreshShares, List.forall_mem_cons.mpr ⟨jdX10_refreshNextOnes, List.forall_mem_cons.mpr ⟨jdX10_refreshDiary, List.forall_mem_cons.mpr ⟨jdX11_in, List.forall_mem_cons.mpr ⟨jdX11_init, List.forall_mem_cons.mpr ⟨jdX11_isWho, List.forall_mem_cons.mpr ⟨jdX11_isPair, List.forall_mem_cons.mpr ⟨jdX11_isJudge, List.forall_mem_cons.mpr ⟨jdX11_isCase, List.forall_mem_cons.mpr ⟨jdX11_here, List.forall_mem_cons.mpr ⟨jdX11_trait, List.forall_mem_cons.mpr ⟨jdX11_feed, List.forall_mem_cons.mpr ⟨jdX11_byteAt, List.forall_mem_cons.mpr ⟨jdX11_isLetter, fun _ h => absurd h List.not_mem_nil⟩⟩⟩⟩⟩⟩⟩⟩⟩⟩⟩⟩⟩⟩⟩⟩⟩⟩⟩⟩⟩⟩⟩⟩⟩
theorem jDs_6 : ∀ z ∈ [zX11_isDigit, zX11_isThree, zX11_word, zX11_isSignByte, zX11_next, zX11_fail, zX11_isSign, zX11_takes, zX11_part, zX11_opens, zX11_expression, zX11_sum, zX11_product, zX11_factor, zX11_ofTwo, zX11_names, zX11_comesTo, zX11_weight, zX11_trades, zX11_isHeavy, zX11_text, zX11_empty, zX11_told, zX11_fails, zX11_valueOf], jDc z := List.forall_mem_cons.mpr ⟨jdX11_isDigit, List.forall_mem_cons.mpr ⟨jdX11_isThree, List.forall_mem_cons.mpr ⟨jdX11_word, List.forall_mem_cons.mpr ⟨jdX11_isSignByte, List.forall_mem_cons.mpr ⟨jdX11_next, List.forall_mem_cons.mpr ⟨jdX11_fail, List.forall_mem_cons.mpr ⟨jdX11_isSign, List.forall_mem_cons.mpr ⟨jdX11_takes, List.forall_mem_cons.mpr ⟨jdX11_part, List.forall_mem_cons.mpr ⟨jdX11_opens, List.forall_mem_cons.mpr ⟨jdX11_expression, List.forall_mem_cons.mpr ⟨jdX11_sum, List.forall_mem_cons.mpr ⟨jdX11_product, List.forall_mem_cons.mpr ⟨jdX11_factor, List.forall_mem_cons.mpr ⟨jdX11_ofTwo, List.forall_mem_cons.mpr ⟨jdX11_names, List.forall_mem_cons.mpr ⟨jdX11_comesTo, List.forall_mem_cons.mpr ⟨jdX11_weight, List.forall_mem_cons.mpr ⟨jdX11_trades, List.forall_mem_cons.mpr ⟨jdX11_isHeavy, List.forall_mem_cons.mpr ⟨jdX11_text, List.forall_mem_cons.mpr ⟨jdX11_empty, List.forall_mem_cons.mpr ⟨jdX11_told, List.forall_mem_cons.mpr ⟨jdX11_fails, List.forall_mem_cons.mpr ⟨jdX11_valueOf, fun _ h => absurd h List.not_mem_nil⟩⟩⟩⟩⟩⟩⟩⟩⟩⟩⟩⟩⟩⟩⟩⟩⟩⟩⟩⟩⟩⟩⟩⟩⟩
theorem jDs_7 : ∀ z ∈ [zX11_named, zX11_limited, zX11_valueOf_, zX11_asked, zX11_value, zX11_why, zX11_burdenOf, zX11_forcedOf, zX11_isOpen, zX11_tellsBurdens, zX11_opens_, zX11_costs, zX11_burden, zX11_mark, zX11_open, zX11_openMany, zX11_least, zX11_toldOr, zX11_picks, zX11_tell, zX11_total, zX11_many, zX11_best, zX11_with, zX11_lacking], jDc z := List.forall_mem_cons.mpr ⟨jdX11_named, List.forall_mem_cons.mpr ⟨jdX11_limited, List.forall_mem_cons.mpr ⟨jdX11_valueOf_, List.forall_mem_cons.mpr ⟨jdX11_asked, List.forall_mem_cons.mpr ⟨jdX11_value, List.forall_mem_cons.mpr ⟨jdX11_why, List.forall_mem_cons.mpr ⟨jdX11_burdenOf, List.forall_mem_cons.mpr ⟨jdX11_forcedOf, List.forall_mem_cons.mpr ⟨jdX11_isOpen, List.forall_mem_cons.mpr ⟨jdX11_tellsBurdens, List.forall_mem_cons.mpr ⟨jdX11_opens_, List.forall_mem_cons.mpr ⟨jdX11_costs, List.forall_mem_cons.mpr ⟨jdX11_burden, List.forall_mem_cons.mpr ⟨jdX11_mark, List.forall_mem_cons.mpr ⟨jdX11_open, List.forall_mem_cons.mpr ⟨jdX11_openMany, List.forall_mem_cons.mpr ⟨jdX11_least, List.forall_mem_cons.mpr ⟨jdX11_toldOr, List.forall_mem_cons.mpr ⟨jdX11_picks, List.forall_mem_cons.mpr ⟨jdX11_tell, List.forall_mem_cons.mpr ⟨jdX11_total, List.forall_mem_cons.mpr ⟨jdX11_many, List.forall_mem_cons.mpr ⟨jdX11_best, List.forall_mem_cons.mpr ⟨jdX11_with, List.forall_mem_cons.mpr ⟨jdX11_lacking, fun _ h => absurd h List.not_mem_nil⟩⟩⟩⟩⟩⟩⟩⟩⟩⟩⟩⟩⟩⟩⟩⟩⟩⟩⟩⟩⟩⟩⟩⟩⟩
theorem jDs_8 : ∀ z ∈ [zX11_kind, zX11_room, zX11_enters, zX11_walks, zX11_lists, zX11_next_, zX11_heaviest, zX11_fair, zX11_finds, zX11_greatest, zX11_marking, zX11_casesIn, zX11_slack, zX11_rise, zX11_begins, zX11_isLast, zX11_solve, zX11_round, zX11_price, zX11_daysOf, zX11_days, zX11_day, zX11_lack, zX11_without, zX11_casesMany], jDc z := List.forall_mem_cons.mpr ⟨jdX11_kind, List.forall_mem_cons.mpr ⟨jdX11_room, List.forall_mem_cons.mpr ⟨jdX11_enters, List.forall_mem_cons.mpr ⟨jdX11_walks, List.forall_mem_cons.mpr ⟨jdX11_lists, List.forall_mem_cons.mpr ⟨jdX11_next_, List.forall_mem_cons.mpr ⟨jdX11_heaviest, List.forall_mem_cons.mpr ⟨jdX11_fair, List.forall_mem_cons.mpr ⟨jdX11_finds, List.forall_mem_cons.mpr ⟨jdX11_greatest, List.forall_mem_cons.mpr ⟨jdX11_marking, List.forall_mem_cons.mpr ⟨jdX11_casesIn, List.forall_mem_cons.mpr ⟨jdX11_slack, List.forall_mem_cons.mpr ⟨jdX11_rise, List.forall_mem_cons.mpr ⟨jdX11_begins, List.forall_mem_cons.mpr ⟨jdX11_isLast, List.forall_mem_cons.mpr ⟨jdX11_solve, List.forall_mem_cons.mpr ⟨jdX11_round, List.forall_mem_cons.mpr ⟨jdX11_price, List.forall_mem_cons.mpr ⟨jdX11_daysOf, List.forall_mem_cons.mpr ⟨jdX11_days, List.forall_mem_cons.mpr ⟨jdX11_day, List.forall_mem_cons.mpr ⟨jdX11_lack, List.forall_mem_cons.mpr ⟨jdX11_without, List.forall_mem_cons.mpr ⟨jdX11_casesMany, fun _ h => absurd h List.not_mem_nil⟩⟩⟩⟩⟩⟩⟩⟩⟩⟩⟩⟩⟩⟩⟩⟩⟩⟩⟩⟩⟩⟩⟩⟩⟩
theorem jDs_9 : ∀ z ∈ [zX11_reads, zX11_tells, zX11_placeOf, zX11_film, zX11_copies, zX11_keeps, zX11_image, zX11_back, zX11_marksOf, zX11_count, zX11_isSheet, zX11_sheet, zX11_put, zX11_item, zX11_copy, zX11_lay, zJ6_bitCount_0f7a4, zJ9_floorDiv_f86c9, zJ9_floorMod_f86c9, zJ9_abs_067f4, zJ9_max_f86c9, zJ9_min_f86c9, zJ7_fill_d0a16, zJ7_fill_53178], jDc z := List.forall_mem_cons.mpr ⟨jdX11_reads, List.forall_mem_cons.mpr ⟨jdX11_tells, List.forall_mem_cons.mpr ⟨jdX11_placeOf, List.forall_mem_cons.mpr ⟨jdX11_film, List.forall_mem_cons.mpr ⟨jdX11_copies, List.forall_mem_cons.mpr ⟨jdX11_keeps, List.forall_mem_cons.mpr ⟨jdX11_image, List.forall_mem_cons.mpr ⟨jdX11_back, List.forall_mem_cons.mpr ⟨jdX11_marksOf, List.forall_mem_cons.mpr ⟨jdX11_count, List.forall_mem_cons.mpr ⟨jdX11_isSheet, List.forall_mem_cons.mpr ⟨jdX11_sheet, List.forall_mem_cons.mpr ⟨jdX11_put, List.forall_mem_cons.mpr ⟨jdX11_item, List.forall_mem_cons.mpr ⟨jdX11_copy, List.forall_mem_cons.mpr ⟨jdX11_lay, List.forall_mem_cons.mpr ⟨jdJ6_bitCount_0f7a4, List.forall_mem_cons.mpr ⟨jdJ9_floorDiv_f86c9, List.forall_mem_cons.mpr ⟨jdJ9_floorMod_f86c9, List.forall_mem_cons.mpr ⟨jdJ9_abs_067f4, List.forall_mem_cons.mpr ⟨jdJ9_max_f86c9, List.forall_mem_cons.mpr ⟨jdJ9_min_f86c9, List.forall_mem_cons.mpr ⟨jdJ7_fill_d0a16, List.forall_mem_cons.mpr ⟨jdJ7_fill_53178, fun _ h => absurd h List.not_mem_nil⟩⟩⟩⟩⟩⟩⟩⟩⟩⟩⟩⟩⟩⟩⟩⟩⟩⟩⟩⟩⟩⟩⟩⟩
theorem jDc_of {z : Nat} (hy : z ∈ jZs) (hl : z ≠ zL_law) : jDc z := by
  obtain ⟨q, hq, rfl⟩ := jMw_of hy hl
  have hm : q.1 ∈ jMw.map (fun q => q.1) := List.mem_map.mpr ⟨q, hq, rfl⟩
  refine jPc_25 (P := jDc) 10 (by decide +kernel) (fun k hk => ?_) hm
  match k, hk with
  | 0, _ => exact jDs_0
  | 1, _ => exact jDs_1
  | 2, _ => exact jDs_2
  | 3, _ => exact jDs_3
  | 4, _ => exact jDs_4
  | 5, _ => exact jDs_5
  | 6, _ => exact jDs_6
  | 7, _ => exact jDs_7
  | 8, _ => exact jDs_8
  | 9, _ => exact jDs_9
theorem jCk_ok {own i w : Nat} {v : Int} (ho : own < 16) (h : (jCks.getD own []).lookup i = some (v, w)) : Jvm.Cond.constantLong (jRn own) i (Int64.ofInt v) ∈ jBW ∧ (Int64.ofInt v).toInt = v := by
  have := jAll16 jCk_all ho (jLookup_mem h)
  simp only [Bool.and_eq_true, decide_eq_true_eq] at this
  exact ⟨jHas_BW (jHas_mem this.1) rfl, this.2⟩
theorem jCi_ok {own i w : Nat} {v : Int} (ho : own < 16) (h : (jCis.getD own []).lookup i = some (v, w)) : Jvm.Cond.constant (jRn own) i (Int32.ofInt v) ∈ jBW ∧ (Int32.ofInt v).toInt = v := by
  have := jAll16 jCi_all ho (jLookup_mem h)
  simp only [Bool.and_eq_true, decide_eq_true_eq] at this
  exact ⟨jHas_BW (jHas_mem this.1) rfl, this.2⟩
theorem jCc_ok {own i w f : Nat} (ho : own < 16) (h : (jCcs.getD own []).lookup i = some (f, w)) : Jvm.Cond.classLink (jRn own) i (jRn f) ∈ jBW ∧ f < 12 := by
  have := jAll16 jCc_all ho (jLookup_mem h)
  simp only [Bool.and_eq_true, decide_eq_true_eq] at this
  exact ⟨jHas_BW (jHas_mem this.1) rfl, this.2⟩
theorem jCy_ok {own i w f : Nat} (ho : own < 16) (h : (jCys.getD own []).lookup i = some (f, w)) : Jvm.Cond.classLink (jRn own) i (jRn (f + 4)) ∈ jBW ∧ (f = 2 ∨ f = 3) := by
  have := jAll16 jCy_all ho (jLookup_mem h)
  simp only [Bool.and_eq_true, decide_eq_true_eq] at this
  exact ⟨jHas_BW (jHas_mem this.1) rfl, this.2⟩
theorem jCo_ok {own i : Nat} {u : Nat × Nat} (ho : own < 16) (h : (jCos.getD own []).lookup i = some u) : Jvm.Cond.methodLink (jRn own) i Jvm.Lib.objectInit ∈ jBW := jHas_BW (jHas_mem (jAll16 jCo_all ho (jLookup_mem h))) rfl
theorem jCq_ok {own i : Nat} {u : Nat × Nat} (ho : own < 16) (h : (jCqs.getD own []).lookup i = some u) : Jvm.Cond.methodLink (jRn own) i arraycopyName ∈ jBW := jHas_BW (jHas_mem (jAll16 jCq_all ho (jLookup_mem h))) rfl
theorem jCm_nl : (List.range 16).all (fun own => (jCms.getD own []).all (fun q => decide (q.2.1 ≠ zL_law))) = true := by decide +kernel
theorem jCm_ok {own i y w ne : Nat} (ho : own < 16) (h : (jCms.getD own []).lookup i = some (y, w, ne)) : y ∈ jZs ∧ y ≠ zL_law ∧ (ne = 0 → Jvm.Cond.methodLink (jRn own) i (jYn y) ∈ jBW) ∧ (ne ≠ 0 → Jvm.Cond.methodLinkNest (jRn own) i (jYn y) "CourtMatcher" ∈ jNests) := by
  have h1 := jAll16 jCm_all ho (jLookup_mem h)
  have h2 := of_decide_eq_true (jAll16 jCm_nl ho (jLookup_mem h))
  simp only [Bool.and_eq_true, decide_eq_true_eq] at h1
  refine ⟨h1.1.1, h2, fun q => ?_, fun q => ?_⟩
  · have := h1.2
    rw [if_pos q] at this
    exact jHas_BW (jHas_mem this) rfl
  · have := h1.2
    rw [if_neg q] at this
    simp only [Bool.and_eq_true, decide_eq_true_eq] at this
    exact this.2
theorem jIns_ok {f : Nat} (h : f < 12) : Jvm.Cond.instantiable (jRn f) (jNf f) ∈ jBW ∧ Jvm.Cond.initialized (jRn f) ∈ jBW := by
  have := List.all_eq_true.mp jIns_all f (List.mem_range.mpr h)
  simp only [Bool.and_eq_true, decide_eq_true_eq] at this
  exact ⟨jHas_BW (jHas_mem this.1.1) rfl, jHas_BW (jHas_mem this.1.2) rfl⟩
theorem jOdd_ok : Jvm.Cond.instanceMethod Jvm.Lib.objectInit ∈ jBW ∧ Jvm.Cond.code Jvm.Lib.objectInit ⟨#[0xb1]⟩ 1 none ∈ jBW ∧ Jvm.Cond.native arraycopyName ∈ jBW ∧ Jvm.Cond.static arraycopyName ∈ jBW ∧ Jvm.Cond.initialized "java/lang/System" ∈ jBW ∧ Jvm.Cond.arrayClass .int ∈ jBW ∧ Jvm.Cond.arrayClass .long ∈ jBW := by
  have h := jOdd_all
  simp only [Bool.and_eq_true] at h
  obtain ⟨⟨⟨⟨⟨⟨⟨⟨a1, a2⟩, a3⟩, a4⟩, a5⟩, a6⟩, a7⟩, a8⟩, a9⟩ := h
  exact ⟨jHas_BW (jHas_mem a1) rfl, jHas_BW (jHas_mem a2) rfl, jHas_BW (jHas_mem a3) rfl, jHas_BW (jHas_mem a4) rfl, jHas_BW (jHas_mem a5) rfl, jHas_BW (jHas_mem a6) rfl, jHas_BW (jHas_mem a7) rfl⟩
section SOUND
variable {p : Program} {l : Launch} {e : Env} {R : Room} {s : State} {mi : MethodId} {args : Array Value} {below : List Frame} {meth : Method} {c : Code} {Qf : State → Prop} {D : va_G} {A : Nat → Prop} {H0 : Heap} {Ts : List Jvm.Cond} {z : Nat} {fu : Bool} {sb : Option (Nat × Nat)} {g : Int → Int} {n0 : Nat} {ws0 : va_W}
variable {pc : Nat} {ls : jS} {st : List jV} {m : jM} {C : Nat → List jV → jM → (Int → jM → Prop) → Prop} {Q : Int → jM → Prop}
/-- the ends of a method -/
def jEnds (p : Program) (l : Launch) (e : Env) (R : Room) (s : State) (mi : MethodId) (args : Array Value) (below : List Frame) (meth : Method) (c : Code) (Qf : State → Prop) (D : va_G) (A : Nat → Prop) (H0 : Heap) (z : Nat) (fu : Bool) (sb : Option (Nat × Nat)) (g : Int → Int) (n0 : Nat) (ws0 : va_W) (Q : Int → jM → Prop) : Prop :=
  (∀ (pc : Nat) (H : Heap) (locs : List Loc) (cells slots : Nat) (ws : va_W) (tys : List (ClassId × FieldType)) (lsR : Array Slot) (ls : jS) (m : jM) (x : Int32), decode (jBy z) pc = .ok (.ireturn, 1) → (jRt z = 1 ∨ jRt z = 3) → jRel R s D A H0 z fu sb g n0 ws0 H locs cells slots ws tys lsR [] ls [] m → jRet z x.toInt m Q → W p l e R s mi args below meth c H locs cells slots Qf (F0 mi pc lsR [.int x])) ∧
  (∀ (pc : Nat) (H : Heap) (locs : List Loc) (cells slots : Nat) (ws : va_W) (tys : List (ClassId × FieldType)) (lsR : Array Slot) (ls : jS) (m : jM) (x : Int64), decode (jBy z) pc = .ok (.lreturn, 1) → jRt z = 2 → jRel R s D A H0 z fu sb g n0 ws0 H locs cells slots ws tys lsR [] ls [] m → jRet z x.toInt m Q → W p l e R s mi args below meth c H locs cells slots Qf (F0 mi pc lsR [.long x])) ∧
  (∀ (pc : Nat) (H : Heap) (locs : List Loc) (cells slots : Nat) (ws : va_W) (tys : List (ClassId × FieldType)) (lsR : Array Slot) (ls : jS) (m : jM), decode (jBy z) pc = .ok (.return_, 1) → jRt z = 0 → jRel R s D A H0 z fu sb g n0 ws0 H locs cells slots ws tys lsR [] ls [] m → jRet z 0 m Q → W p l e R s mi args below meth c H locs cells slots Qf (F0 mi pc lsR []))
theorem jSr_nil {ws : va_W} {b : List Value} (h : jSr ws sb [] b) : b = [] := by
  match b, h with
  | [], _ => rfl
theorem jr_ireturn (hE : ∀ (pc : Nat) (H : Heap) (locs : List Loc) (cells slots : Nat) (ws : va_W) (tys : List (ClassId × FieldType)) (lsR : Array Slot) (ls : jS) (m : jM) (x : Int32), decode (jBy z) pc = .ok (.ireturn, 1) → (jRt z = 1 ∨ jRt z = 3) → jRel R s D A H0 z fu sb g n0 ws0 H locs cells slots ws tys lsR [] ls [] m → jRet z x.toInt m Q → W p l e R s mi args below meth c H locs cells slots Qf (F0 mi pc lsR [.int x])) (hd : decode (jBy z) pc = .ok (.ireturn, 1)) (h : jStp z C (jP p l e R s mi args below meth c Qf D A H0 z fu sb g n0 ws0) Q pc 1 ls m (jEff z .ireturn 1 pc ls st m)) : jP p l e R s mi args below meth c Qf D A H0 z fu sb g n0 ws0 pc ls st m := by
  obtain ⟨a, r, rfl, h1⟩ := jI1_inv h
  obtain ⟨⟨he, hrt⟩, h2⟩ := jIf_inv h1
  have hr0 : r = [] := List.isEmpty_iff.mp he
  subst hr0
  intro H locs cells slots ws tys lsR stR hr
  obtain ⟨x, rR, rfl, rfl, hr1⟩ := jRel_i hr
  have hn := jSr_nil hr1.2.2.1
  subst hn
  exact hE _ _ _ _ _ _ _ _ _ _ _ hd hrt hr1 h2
theorem jr_lreturn (hE : ∀ (pc : Nat) (H : Heap) (locs : List Loc) (cells slots : Nat) (ws : va_W) (tys : List (ClassId × FieldType)) (lsR : Array Slot) (ls : jS) (m : jM) (x : Int64), decode (jBy z) pc = .ok (.lreturn, 1) → jRt z = 2 → jRel R s D A H0 z fu sb g n0 ws0 H locs cells slots ws tys lsR [] ls [] m → jRet z x.toInt m Q → W p l e R s mi args below meth c H locs cells slots Qf (F0 mi pc lsR [.long x])) (hd : decode (jBy z) pc = .ok (.lreturn, 1)) (h : jStp z C (jP p l e R s mi args below meth c Qf D A H0 z fu sb g n0 ws0) Q pc 1 ls m (jEff z .lreturn 1 pc ls st m)) : jP p l e R s mi args below meth c Qf D A H0 z fu sb g n0 ws0 pc ls st m := by
  obtain ⟨a, r, rfl, h1⟩ := jL1_inv h
  obtain ⟨⟨he, hrt⟩, h2⟩ := jIf_inv h1
  have hr0 : r = [] := List.isEmpty_iff.mp he
  subst hr0
  intro H locs cells slots ws tys lsR stR hr
  obtain ⟨x, rR, rfl, rfl, hr1⟩ := jRel_l hr
  have hn := jSr_nil hr1.2.2.1
  subst hn
  exact hE _ _ _ _ _ _ _ _ _ _ _ hd hrt hr1 h2
theorem jr_return_ (hE : ∀ (pc : Nat) (H : Heap) (locs : List Loc) (cells slots : Nat) (ws : va_W) (tys : List (ClassId × FieldType)) (lsR : Array Slot) (ls : jS) (m : jM), decode (jBy z) pc = .ok (.return_, 1) → jRt z = 0 → jRel R s D A H0 z fu sb g n0 ws0 H locs cells slots ws tys lsR [] ls [] m → jRet z 0 m Q → W p l e R s mi args below meth c H locs cells slots Qf (F0 mi pc lsR [])) (hd : decode (jBy z) pc = .ok (.return_, 1)) (h : jStp z C (jP p l e R s mi args below meth c Qf D A H0 z fu sb g n0 ws0) Q pc 1 ls m (jEff z .return_ 1 pc ls st m)) : jP p l e R s mi args below meth c Qf D A H0 z fu sb g n0 ws0 pc ls st m := by
  obtain ⟨⟨he, hrt⟩, h2⟩ := jIf_inv h
  have hr0 : st = [] := List.isEmpty_iff.mp he
  subst hr0
  intro H locs cells slots ws tys lsR stR hr
  have hn := jSr_nil hr.2.2.1
  subst hn
  exact hE _ _ _ _ _ _ _ _ _ _ hd hrt hr h2
theorem jr_callO {e0 y i : Nat} (r : Instr) (hc : jCx p R s mi args meth c A H0 Ts z fu sb g) (hroom : (∀ y a m K, ¬ C y a m K) ∨ (e0 + 2 ≤ R.frames ∧ 60 * (e0 + 2) ≤ R.locals)) (hC : ∀ y a m K, y ∈ jZs → y ≠ zL_law → C y a m K → jGood l e0 y a m K)
    (hy : y ∈ jZs) (hyl : y ≠ zL_law) (hz2 : jMd z ≤ 2) (hlink : jLink z i y) (hk : (jKi y = 0 ∧ r = .invokestatic i ∧ Jvm.Cond.methodLink (jRn (jCl z)) i (jYn y) ∈ jBW) ∨ (jKi y = 1 ∧ r = .invokevirtual i ∧ Jvm.Cond.methodLink (jRn (jCl z)) i (jYn y) ∈ jBW) ∨ (jKi y = 2 ∧ r = .invokespecial i)) (hd : decode (jBy z) pc = .ok (r, 3))
    (h : jStp z C (jP p l e R s mi args below meth c Qf D A H0 z fu sb g n0 ws0) Q pc 3 ls m (jEff z (.invokestatic y) 3 pc ls st m)) : jP p l e R s mi args below meth c Qf D A H0 z fu sb g n0 ws0 pc ls st m := by
  rcases hroom with hno | hr
  · obtain ⟨-, h1⟩ := jIf_inv h
    have h1 : jCal z y C (st.take (jNa y)).reverse m (fun v m' => jP p l e R s mi args below meth c Qf D A H0 z fu sb g n0 ws0 (pc + 3) ls (jPush (jRt y) v (st.drop (jNa y))) m') := h1
    unfold jCal at h1
    split at h1
    · exact absurd h1 (hno _ _ _ _)
    · exact absurd h1 (hno _ _ _ _)
    · exact absurd h1 (hno _ _ _ _)
    · exact absurd h1.2 (hno _ _ _ _)
    · exact absurd h1.2 (hno _ _ _ _)
    · exact h1.elim
  · exact jr_call r hc hr hC hy hyl hz2 hlink hk hd h
theorem jr_all {e0 : Nat} {r ai : Instr} {n len : Nat} (hc : jCx p R s mi args meth c A H0 Ts z fu sb g) (hroom : (∀ y a m K, ¬ C y a m K) ∨ (e0 + 2 ≤ R.frames ∧ 60 * (e0 + 2) ≤ R.locals)) (hC : ∀ y a m K, y ∈ jZs → y ≠ zL_law → C y a m K → jGood l e0 y a m K) (hE : jEnds p l e R s mi args below meth c Qf D A H0 z fu sb g n0 ws0 Q) (hz16 : jCl z < 16) (hz2 : jMd z ≤ 2) (hd : decode (jBy z) pc = .ok (r, n)) (hlen : jLen r n = true) (hres : jRes (jCl z) pc (jBy z) r n = some (ai, len)) (h : jStp z C (jP p l e R s mi args below meth c Qf D A H0 z fu sb g n0 ws0) Q pc len ls m (jEff z ai len pc ls st m)) : jP p l e R s mi args below meth c Qf D A H0 z fu sb g n0 ws0 pc ls st m := by
  cases r
  case iadd => 
    simp only [jRes, Option.some.injEq, Prod.mk.injEq] at hres
    obtain ⟨rfl, rfl⟩ := hres
    have hn : n = 1 := Nat.eq_of_beq_eq_true hlen
    subst hn
    exact jr_iadd hc hd h
  case isub => 
    simp only [jRes, Option.some.injEq, Prod.mk.injEq] at hres
    obtain ⟨rfl, rfl⟩ := hres
    have hn : n = 1 := Nat.eq_of_beq_eq_true hlen
    subst hn
    exact jr_isub hc hd h
  case imul => 
    simp only [jRes, Option.some.injEq, Prod.mk.injEq] at hres
    obtain ⟨rfl, rfl⟩ := hres
    have hn : n = 1 := Nat.eq_of_beq_eq_true hlen
    subst hn
    exact jr_imul hc hd h
  case iand => 
    simp only [jRes, Option.some.injEq, Prod.mk.injEq] at hres
    obtain ⟨rfl, rfl⟩ := hres
    have hn : n = 1 := Nat.eq_of_beq_eq_true hlen
    subst hn
    exact jr_iand hc hd h
  case ior => 
    simp only [jRes, Option.some.injEq, Prod.mk.injEq] at hres
    obtain ⟨rfl, rfl⟩ := hres
    have hn : n = 1 := Nat.eq_of_beq_eq_true hlen
    subst hn
    exact jr_ior hc hd h
  case ixor => 
    simp only [jRes, Option.some.injEq, Prod.mk.injEq] at hres
    obtain ⟨rfl, rfl⟩ := hres
    have hn : n = 1 := Nat.eq_of_beq_eq_true hlen
    subst hn
    exact jr_ixor hc hd h
  case ishl => 
    simp only [jRes, Option.some.injEq, Prod.mk.injEq] at hres
    obtain ⟨rfl, rfl⟩ := hres
    have hn : n = 1 := Nat.eq_of_beq_eq_true hlen
    subst hn
    exact jr_ishl hc hd h
  case ishr => 
    simp only [jRes, Option.some.injEq, Prod.mk.injEq] at hres
    obtain ⟨rfl, rfl⟩ := hres
    have hn : n = 1 := Nat.eq_of_beq_eq_true hlen
    subst hn
    exact jr_ishr hc hd h
  case iushr => 
    simp only [jRes, Option.some.injEq, Prod.mk.injEq] at hres
    obtain ⟨rfl, rfl⟩ := hres
    have hn : n = 1 := Nat.eq_of_beq_eq_true hlen
    subst hn
    exact jr_iushr hc hd h
  case idiv => 
    simp only [jRes, Option.some.injEq, Prod.mk.injEq] at hres
    obtain ⟨rfl, rfl⟩ := hres
    have hn : n = 1 := Nat.eq_of_beq_eq_true hlen
    subst hn
    exact jr_idiv hc hd h
  case irem => 
    simp only [jRes, Option.some.injEq, Prod.mk.injEq] at hres
    obtain ⟨rfl, rfl⟩ := hres
    have hn : n = 1 := Nat.eq_of_beq_eq_true hlen
    subst hn
    exact jr_irem hc hd h
  case i2l => 
    simp only [jRes, Option.some.injEq, Prod.mk.injEq] at hres
    obtain ⟨rfl, rfl⟩ := hres
    have hn : n = 1 := Nat.eq_of_beq_eq_true hlen
    subst hn
    exact jr_i2l hc hd h
  case l2i => 
    simp only [jRes, Option.some.injEq, Prod.mk.injEq] at hres
    obtain ⟨rfl, rfl⟩ := hres
    have hn : n = 1 := Nat.eq_of_beq_eq_true hlen
    subst hn
    exact jr_l2i hc hd h
  case i2b => 
    simp only [jRes, Option.some.injEq, Prod.mk.injEq] at hres
    obtain ⟨rfl, rfl⟩ := hres
    have hn : n = 1 := Nat.eq_of_beq_eq_true hlen
    subst hn
    exact jr_i2b hc hd h
  case lneg => 
    simp only [jRes, Option.some.injEq, Prod.mk.injEq] at hres
    obtain ⟨rfl, rfl⟩ := hres
    have hn : n = 1 := Nat.eq_of_beq_eq_true hlen
    subst hn
    exact jr_lneg hc hd h
  case ladd => 
    simp only [jRes, Option.some.injEq, Prod.mk.injEq] at hres
    obtain ⟨rfl, rfl⟩ := hres
    have hn : n = 1 := Nat.eq_of_beq_eq_true hlen
    subst hn
    exact jr_ladd hc hd h
  case lsub => 
    simp only [jRes, Option.some.injEq, Prod.mk.injEq] at hres
    obtain ⟨rfl, rfl⟩ := hres
    have hn : n = 1 := Nat.eq_of_beq_eq_true hlen
    subst hn
    exact jr_lsub hc hd h
  case lmul => 
    simp only [jRes, Option.some.injEq, Prod.mk.injEq] at hres
    obtain ⟨rfl, rfl⟩ := hres
    have hn : n = 1 := Nat.eq_of_beq_eq_true hlen
    subst hn
    exact jr_lmul hc hd h
  case land => 
    simp only [jRes, Option.some.injEq, Prod.mk.injEq] at hres
    obtain ⟨rfl, rfl⟩ := hres
    have hn : n = 1 := Nat.eq_of_beq_eq_true hlen
    subst hn
    exact jr_land hc hd h
  case lor => 
    simp only [jRes, Option.some.injEq, Prod.mk.injEq] at hres
    obtain ⟨rfl, rfl⟩ := hres
    have hn : n = 1 := Nat.eq_of_beq_eq_true hlen
    subst hn
    exact jr_lor hc hd h
  case lxor => 
    simp only [jRes, Option.some.injEq, Prod.mk.injEq] at hres
    obtain ⟨rfl, rfl⟩ := hres
    have hn : n = 1 := Nat.eq_of_beq_eq_true hlen
    subst hn
    exact jr_lxor hc hd h
  case lshl => 
    simp only [jRes, Option.some.injEq, Prod.mk.injEq] at hres
    obtain ⟨rfl, rfl⟩ := hres
    have hn : n = 1 := Nat.eq_of_beq_eq_true hlen
    subst hn
    exact jr_lshl hc hd h
  case ldiv => 
    simp only [jRes, Option.some.injEq, Prod.mk.injEq] at hres
    obtain ⟨rfl, rfl⟩ := hres
    have hn : n = 1 := Nat.eq_of_beq_eq_true hlen
    subst hn
    exact jr_ldiv hc hd h
  case lrem => 
    simp only [jRes, Option.some.injEq, Prod.mk.injEq] at hres
    obtain ⟨rfl, rfl⟩ := hres
    have hn : n = 1 := Nat.eq_of_beq_eq_true hlen
    subst hn
    exact jr_lrem hc hd h
  case dup => 
    simp only [jRes, Option.some.injEq, Prod.mk.injEq] at hres
    obtain ⟨rfl, rfl⟩ := hres
    have hn : n = 1 := Nat.eq_of_beq_eq_true hlen
    subst hn
    exact jr_dup hc hd h
  case dup2 => 
    simp only [jRes, Option.some.injEq, Prod.mk.injEq] at hres
    obtain ⟨rfl, rfl⟩ := hres
    have hn : n = 1 := Nat.eq_of_beq_eq_true hlen
    subst hn
    exact jr_dup2 hc hd h
  case pop2 => 
    simp only [jRes, Option.some.injEq, Prod.mk.injEq] at hres
    obtain ⟨rfl, rfl⟩ := hres
    have hn : n = 1 := Nat.eq_of_beq_eq_true hlen
    subst hn
    exact jr_pop2 hc hd h
  case arraylength => 
    simp only [jRes, Option.some.injEq, Prod.mk.injEq] at hres
    obtain ⟨rfl, rfl⟩ := hres
    have hn : n = 1 := Nat.eq_of_beq_eq_true hlen
    subst hn
    exact jr_arraylength hc hd h
  case iaload => 
    simp only [jRes, Option.some.injEq, Prod.mk.injEq] at hres
    obtain ⟨rfl, rfl⟩ := hres
    have hn : n = 1 := Nat.eq_of_beq_eq_true hlen
    subst hn
    exact jr_iaload hc hd h
  case laload => 
    simp only [jRes, Option.some.injEq, Prod.mk.injEq] at hres
    obtain ⟨rfl, rfl⟩ := hres
    have hn : n = 1 := Nat.eq_of_beq_eq_true hlen
    subst hn
    exact jr_laload hc hd h
  case aaload => 
    simp only [jRes, Option.some.injEq, Prod.mk.injEq] at hres
    obtain ⟨rfl, rfl⟩ := hres
    have hn : n = 1 := Nat.eq_of_beq_eq_true hlen
    subst hn
    exact jr_aaload hc hd h
  case iastore => 
    simp only [jRes, Option.some.injEq, Prod.mk.injEq] at hres
    obtain ⟨rfl, rfl⟩ := hres
    have hn : n = 1 := Nat.eq_of_beq_eq_true hlen
    subst hn
    exact jr_iastore hc hd h
  case lastore => 
    simp only [jRes, Option.some.injEq, Prod.mk.injEq] at hres
    obtain ⟨rfl, rfl⟩ := hres
    have hn : n = 1 := Nat.eq_of_beq_eq_true hlen
    subst hn
    exact jr_lastore hc hd h
  case aastore => 
    simp only [jRes, Option.some.injEq, Prod.mk.injEq] at hres
    obtain ⟨rfl, rfl⟩ := hres
    have hn : n = 1 := Nat.eq_of_beq_eq_true hlen
    subst hn
    exact jr_aastore hc hd h
  case iload_n k => 
    simp only [jRes, Option.some.injEq, Prod.mk.injEq] at hres
    obtain ⟨rfl, rfl⟩ := hres
    have hn : n = 1 := Nat.eq_of_beq_eq_true hlen
    subst hn
    exact jr_iload_n hc hd h
  case iload k => 
    simp only [jRes, Option.some.injEq, Prod.mk.injEq] at hres
    obtain ⟨rfl, rfl⟩ := hres
    have hn : n = 2 := Nat.eq_of_beq_eq_true hlen
    subst hn
    exact jr_iload hc hd h
  case istore_n k => 
    simp only [jRes, Option.some.injEq, Prod.mk.injEq] at hres
    obtain ⟨rfl, rfl⟩ := hres
    have hn : n = 1 := Nat.eq_of_beq_eq_true hlen
    subst hn
    exact jr_istore_n hc hd h
  case istore k => 
    simp only [jRes, Option.some.injEq, Prod.mk.injEq] at hres
    obtain ⟨rfl, rfl⟩ := hres
    have hn : n = 2 := Nat.eq_of_beq_eq_true hlen
    subst hn
    exact jr_istore hc hd h
  case lload_n k => 
    simp only [jRes, Option.some.injEq, Prod.mk.injEq] at hres
    obtain ⟨rfl, rfl⟩ := hres
    have hn : n = 1 := Nat.eq_of_beq_eq_true hlen
    subst hn
    exact jr_lload_n hc hd h
  case lload k => 
    simp only [jRes, Option.some.injEq, Prod.mk.injEq] at hres
    obtain ⟨rfl, rfl⟩ := hres
    have hn : n = 2 := Nat.eq_of_beq_eq_true hlen
    subst hn
    exact jr_lload hc hd h
  case lstore_n k => 
    simp only [jRes, Option.some.injEq, Prod.mk.injEq] at hres
    obtain ⟨rfl, rfl⟩ := hres
    have hn : n = 1 := Nat.eq_of_beq_eq_true hlen
    subst hn
    exact jr_lstore_n hc hd h
  case lstore k => 
    simp only [jRes, Option.some.injEq, Prod.mk.injEq] at hres
    obtain ⟨rfl, rfl⟩ := hres
    have hn : n = 2 := Nat.eq_of_beq_eq_true hlen
    subst hn
    exact jr_lstore hc hd h
  case aload_n k => 
    simp only [jRes, Option.some.injEq, Prod.mk.injEq] at hres
    obtain ⟨rfl, rfl⟩ := hres
    have hn : n = 1 := Nat.eq_of_beq_eq_true hlen
    subst hn
    exact jr_aload_n hc hd h
  case aload k => 
    simp only [jRes, Option.some.injEq, Prod.mk.injEq] at hres
    obtain ⟨rfl, rfl⟩ := hres
    have hn : n = 2 := Nat.eq_of_beq_eq_true hlen
    subst hn
    exact jr_aload hc hd h
  case astore_n k => 
    simp only [jRes, Option.some.injEq, Prod.mk.injEq] at hres
    obtain ⟨rfl, rfl⟩ := hres
    have hn : n = 1 := Nat.eq_of_beq_eq_true hlen
    subst hn
    exact jr_astore_n hc hd h
  case astore k => 
    simp only [jRes, Option.some.injEq, Prod.mk.injEq] at hres
    obtain ⟨rfl, rfl⟩ := hres
    have hn : n = 2 := Nat.eq_of_beq_eq_true hlen
    subst hn
    exact jr_astore hc hd h
  case iinc k v => 
    simp only [jRes, Option.some.injEq, Prod.mk.injEq] at hres
    obtain ⟨rfl, rfl⟩ := hres
    have hn : n = 3 := Nat.eq_of_beq_eq_true hlen
    subst hn
    exact jr_iinc hc hd h
  case lconst k => 
    simp only [jRes, Option.some.injEq, Prod.mk.injEq] at hres
    obtain ⟨rfl, rfl⟩ := hres
    have hn : n = 1 := Nat.eq_of_beq_eq_true hlen
    subst hn
    exact jr_lconst hc hd h
  case iconst v => 
    simp only [jRes] at hres
    split at hres
    · rename_i hv
      cases hres
      have hn : n = 1 := Nat.eq_of_beq_eq_true hlen
      subst hn
      exact jr_iconst hv hc hd h
    · cases hres
  case bipush v => 
    simp only [jRes] at hres
    split at hres
    · rename_i hv
      cases hres
      have hn : n = 2 := Nat.eq_of_beq_eq_true hlen
      subst hn
      exact jr_bipush hv hc hd h
    · cases hres
  case sipush v => 
    simp only [jRes] at hres
    split at hres
    · rename_i hv
      cases hres
      have hn : n = 3 := Nat.eq_of_beq_eq_true hlen
      subst hn
      exact jr_sipush hv hc hd h
    · cases hres
  case goto off => 
    simp only [jRes] at hres
    split at hres
    · rename_i hv
      cases hres
      have hn : n = 3 := Nat.eq_of_beq_eq_true hlen
      subst hn
      exact jr_goto hv hc hd h
    · cases hres
  case ifCond cd off => 
    simp only [jRes] at hres
    split at hres
    · rename_i hv
      cases hres
      have hn : n = 3 := Nat.eq_of_beq_eq_true hlen
      subst hn
      cases cd
      · exact jr_if_eq hv hc hd h
      · exact jr_if_ne hv hc hd h
      · exact jr_if_lt hv hc hd h
      · exact jr_if_ge hv hc hd h
      · exact jr_if_gt hv hc hd h
      · exact jr_if_le hv hc hd h
    · cases hres
  case if_icmp cd off => 
    simp only [jRes] at hres
    split at hres
    · rename_i hv
      cases hres
      have hn : n = 3 := Nat.eq_of_beq_eq_true hlen
      subst hn
      cases cd
      · exact jr_icmp_eq hv hc hd h
      · exact jr_icmp_ne hv hc hd h
      · exact jr_icmp_lt hv hc hd h
      · exact jr_icmp_ge hv hc hd h
      · exact jr_icmp_gt hv hc hd h
      · exact jr_icmp_le hv hc hd h
    · cases hres
  case lcmp => 
    simp only [jRes] at hres
    split at hres
    · rename_i cd off hd2
      split at hres
      · rename_i hv
        cases hres
        have hn : n = 1 := Nat.eq_of_beq_eq_true hlen
        subst hn
        cases cd
        · exact jr_lcmp_eq hv hc hd hd2 h
        · exact jr_lcmp_ne hv hc hd hd2 h
        · exact jr_lcmp_lt hv hc hd hd2 h
        · exact jr_lcmp_ge hv hc hd hd2 h
        · exact jr_lcmp_gt hv hc hd hd2 h
        · exact jr_lcmp_le hv hc hd hd2 h
      · cases hres
    · cases hres
  case tableswitch d0 lo hi os => 
    simp only [jRes] at hres
    split at hres
    · rename_i hv
      cases hres
      exact jr_tableswitch hc hv hd h
    · cases hres
  case lookupswitch d0 ps => 
    simp only [jRes] at hres
    split at hres
    · rename_i hv
      cases hres
      exact jr_lookupswitch hc hv.1 hv.2 hd h
    · cases hres
  case ldc2_w i => 
    simp only [jRes, Option.map_eq_some_iff] at hres
    obtain ⟨⟨f, w⟩, hl, he⟩ := hres
    cases he
    have hn : n = 3 := Nat.eq_of_beq_eq_true hlen
    subst hn
    obtain ⟨q1, q2⟩ := jCk_ok hz16 hl
    exact jr_ldc2 q1 q2 hc hd h
  case ldc i => 
    simp only [jRes, Option.map_eq_some_iff] at hres
    obtain ⟨⟨f, w⟩, hl, he⟩ := hres
    cases he
    have hn : n = 2 := Nat.eq_of_beq_eq_true hlen
    subst hn
    obtain ⟨q1, q2⟩ := jCi_ok hz16 hl
    exact jr_ldc q1 q2 hc hd h
  case ldc_w i => 
    simp only [jRes, Option.map_eq_some_iff] at hres
    obtain ⟨⟨f, w⟩, hl, he⟩ := hres
    cases he
    have hn : n = 3 := Nat.eq_of_beq_eq_true hlen
    subst hn
    obtain ⟨q1, q2⟩ := jCi_ok hz16 hl
    exact jr_ldc_w q1 q2 hc hd h
  case getfield i => 
    simp only [jRes, Option.map_eq_some_iff] at hres
    obtain ⟨⟨f, w⟩, hl, he⟩ := hres
    cases he
    have hn : n = 3 := Nat.eq_of_beq_eq_true hlen
    subst hn
    obtain ⟨q1, q2, q3, q4⟩ := jCf_ok hz16 hl
    exact jr_getfield hc hz16 q1 q2 q3 q4 hd h
  case putfield i => 
    simp only [jRes, Option.bind_eq_some_iff] at hres
    obtain ⟨⟨f, w⟩, hl, he⟩ := hres
    split at he
    · rename_i hown
      cases he
      have hn : n = 3 := Nat.eq_of_beq_eq_true hlen
      subst hn
      obtain ⟨q1, q2, q3, q4⟩ := jCf_ok hz16 hl
      exact jr_putfield hc q1 q2 q3 q4 hown hd h
    · cases he
  case new i => 
    simp only [jRes, Option.map_eq_some_iff] at hres
    obtain ⟨⟨f, w⟩, hl, he⟩ := hres
    cases he
    have hn : n = 3 := Nat.eq_of_beq_eq_true hlen
    subst hn
    obtain ⟨q1, q2⟩ := jCc_ok hz16 hl
    obtain ⟨q3, q4⟩ := jIns_ok q2
    exact jr_new hc q2 q1 q3 q4 hd h
  case anewarray i => 
    simp only [jRes, Option.map_eq_some_iff] at hres
    obtain ⟨⟨f, w⟩, hl, he⟩ := hres
    cases he
    have hn : n = 3 := Nat.eq_of_beq_eq_true hlen
    subst hn
    obtain ⟨q1, q2⟩ := jCy_ok hz16 hl
    exact jr_anewarray hc q2 q1 hd h
  case newarray ty => 
    simp only [jRes, Option.some.injEq, Prod.mk.injEq] at hres
    obtain ⟨rfl, rfl⟩ := hres
    have hn : n = 2 := Nat.eq_of_beq_eq_true hlen
    subst hn
    cases ty
    case int => exact jr_newarrayI hc hd h jOdd_ok.2.2.2.2.2.1
    case long => exact jr_newarrayL hc hd h jOdd_ok.2.2.2.2.2.2
    all_goals exact False.elim h
  case invokevirtual i => 
    simp only [jRes, Option.bind_eq_some_iff] at hres
    obtain ⟨⟨y, w, ne⟩, hl, he⟩ := hres
    split at he
    · rename_i hk
      cases he
      have hn : n = 3 := Nat.eq_of_beq_eq_true hlen
      subst hn
      obtain ⟨q1, q2, q3, q4⟩ := jCm_ok hz16 hl
      have q5 := q3 hk.2
      exact jr_callO _ hc hroom hC q1 q2 hz2 (Or.inl q5) (Or.inr (Or.inl ⟨hk.1, rfl, q5⟩)) hd h
    · cases he
  case invokestatic i => 
    simp only [jRes] at hres
    split at hres
    · rename_i u hl
      cases hres
      have hn : n = 3 := Nat.eq_of_beq_eq_true hlen
      subst hn
      exact jr_swap hc (jCq_ok hz16 hl) jOdd_ok.2.2.1 jOdd_ok.2.2.2.1 jOdd_ok.2.2.2.2.1 hd h
    · simp only [Option.bind_eq_some_iff] at hres
      obtain ⟨⟨y, w, ne⟩, hl, he⟩ := hres
      split at he
      · rename_i hk
        cases he
        have hn : n = 3 := Nat.eq_of_beq_eq_true hlen
        subst hn
        obtain ⟨q1, q2, q3, q4⟩ := jCm_ok hz16 hl
        have q5 := q3 hk.2
        exact jr_callO _ hc hroom hC q1 q2 hz2 (Or.inl q5) (Or.inl ⟨hk.1, rfl, q5⟩) hd h
      · cases he
  case invokespecial i => 
    simp only [jRes] at hres
    split at hres
    · rename_i u hl
      cases hres
      have hn : n = 3 := Nat.eq_of_beq_eq_true hlen
      subst hn
      exact jr_pop hc (jCo_ok hz16 hl) jOdd_ok.1 jOdd_ok.2.1 hd h
    · simp only [Option.bind_eq_some_iff] at hres
      obtain ⟨⟨y, w, ne⟩, hl, he⟩ := hres
      split at he
      · rename_i hk
        cases he
        have hn : n = 3 := Nat.eq_of_beq_eq_true hlen
        subst hn
        obtain ⟨q1, q2, q3, q4⟩ := jCm_ok hz16 hl
        refine jr_callO _ hc hroom hC q1 q2 hz2 ?_ (Or.inr (Or.inr ⟨hk, rfl⟩)) hd h
        by_cases h0 : ne = 0
        · exact Or.inl (q3 h0)
        · exact Or.inr ⟨hk, q4 h0⟩
      · cases he
  case ireturn => 
    simp only [jRes, Option.some.injEq, Prod.mk.injEq] at hres
    obtain ⟨rfl, rfl⟩ := hres
    have hn : n = 1 := Nat.eq_of_beq_eq_true hlen
    subst hn
    exact jr_ireturn hE.1 hd h
  case lreturn => 
    simp only [jRes, Option.some.injEq, Prod.mk.injEq] at hres
    obtain ⟨rfl, rfl⟩ := hres
    have hn : n = 1 := Nat.eq_of_beq_eq_true hlen
    subst hn
    exact jr_lreturn hE.2.1 hd h
  case return_ => 
    simp only [jRes, Option.some.injEq, Prod.mk.injEq] at hres
    obtain ⟨rfl, rfl⟩ := hres
    have hn : n = 1 := Nat.eq_of_beq_eq_true hlen
    subst hn
    exact jr_return_ hE.2.2 hd h
  all_goals (simp only [jRes, reduceCtorEq] at hres)
/-- what is checked of a code at a place -/
theorem jChk_at {own : Nat} {cc : ByteArray} {l : List (Nat × Instr × Nat)} (h : jChk own cc l = true) {pc : Nat} {ai : Instr} {len : Nat} (hl : l.lookup pc = some (ai, len)) : ∃ r n, decode cc pc = .ok (r, n) ∧ jLen r n = true ∧ jRes own pc cc r n = some (ai, len) := by
  have h1 := List.all_eq_true.mp h _ (jLookup_mem hl)
  dsimp only at h1
  cases hd : decode cc pc with
  | error e => rw [hd] at h1; cases h1
  | ok q =>
    obtain ⟨r, n⟩ := q
    rw [hd] at h1
    simp only [Bool.and_eq_true] at h1
    refine ⟨r, n, rfl, h1.1, ?_⟩
    have h2 := h1.2
    unfold jIs at h2
    split at h2
    · rename_i a k hq
      simp only [Bool.and_eq_true, decide_eq_true_eq] at h2
      rw [hq, h2.1, Nat.eq_of_beq_eq_true h2.2]
    · cases h2
/-- a frame: from where the abstract run ends, the machine's walk ends -/
theorem jFrame {d : Nat} (hc : jCx p R s mi args meth c A H0 Ts z fu sb g) (hroom : d + 1 ≤ R.frames ∧ 60 * (d + 1) ≤ R.locals) (hC : ∀ e0, d = e0 + 1 → ∀ y a m K, y ∈ jZs → y ≠ zL_law → jK e0 y a m K → jGood l e0 y a m K) (hE : jEnds p l e R s mi args below meth c Qf D A H0 z fu sb g n0 ws0 Q) (hz16 : jCl z < 16) (hz2 : jMd z ≤ 2) (hdc : jDc z) (h : jA d z pc ls st m Q) : jP p l e R s mi args below meth c Qf D A H0 z fu sb g n0 ws0 pc ls st m := by
  rw [jA_eq] at h
  refine h _ ⟨fun pc ls st m hs => ?_, fun pc l0 ls st m hl hP => ?_⟩
  · unfold jAt at hs
    cases hi : jIns z pc with
    | none => rw [hi] at hs; exact hs.elim
    | some q =>
      obtain ⟨ai, len⟩ := q
      rw [hi] at hs
      obtain ⟨r, n, h1, h2, h3⟩ := jChk_at hdc hi
      cases d with
      | zero => exact jr_all (e0 := 0) hc (Or.inl (fun y a m K f => f)) (fun y a m K _ _ f => f.elim) hE hz16 hz2 h1 h2 h3 hs
      | succ e0 => exact jr_all hc (Or.inr ⟨by omega, by omega⟩) (fun y a m K hy hl hk => hC e0 rfl y a m K hy hl hk) hE hz16 hz2 h1 h2 h3 hs
  · intro H locs cells slots ws tys lsR stR hr
    exact hP _ _ _ _ _ _ _ _ ⟨hr.1, jLr_le hl hr.2.1, hr.2.2⟩
end SOUND
end
section
/-! every method keeps its contract -/
theorem jMet_of {l : Launch} {y : MethodName} {ws ws' : List Jvm.Cond} {rm : Room} {Pc : Array Value → State → Prop} {Qc : Array Value → State → Outcome → State → Prop} {mc ms : Nat} {free : Addr → Prop} {cc : ByteArray} {maxL : Nat} {ret : Option FieldType}
    (hy : plainFor y = true) (hw : ws = Jvm.Cond.code y cc maxL ret :: ws')
    (body : ∀ p e s m args below meth c s₁, BodyLoose p l y (headSpec ws rm) cc maxL ret e s m args below meth c s₁ → c.maxLocals = maxL → Pc args s →
      W p l e (headSpec ws rm).room s m args below meth c s.heap [] 0 0 (MQ below Qc args s mc ms free) (entryFrame m args maxL)) : Met l y ws rm Pc Qc mc ms free := by
  refine MetFree.of_bodySF (code := cc) (maxLocals := maxL) (ret := ret) hy ?_ ?_
  · intro args s m h hn
    obtain ⟨meth, c, h1, h2, h3, h4, h5, h6, -, -⟩ := Cond.code_spec hn (atoms_spec (ws := ws) h _ (by rw [hw]; exact List.mem_cons_self))
    exact ⟨meth, c, h1, h2, h3, h4, h5, h6⟩
  · intro p e s m args below meth c s₁ B hml hP _
    have hh0 : s₁.heap = s.heap := by rw [B.state]; rfl
    obtain ⟨t, a1, o, b1, b2, b3⟩ := body p e s m args below meth c s₁ B hml hP s₁ hh0 (Stand.of_body B)
    exact ⟨t, o, a1, b1, b2, ⟨b3.1, b3.2⟩⟩
theorem jLay_args {ws : va_W} {sb : Option (Nat × Nat)} : ∀ {a : List jV} {b : List Value}, jSr ws sb a b → ∀ k : Nat, (lg_sl b).length = (jLay a).length ∧ ∀ (i : Nat) (v : jV), (jLay a)[i]? = some (some v) → ∃ w, (k + i, w) ∈ lv_args k b ∧ jVr ws sb v w
  | [], [], _, k => ⟨rfl, fun i v h => by simp [jLay] at h⟩
  | v0 :: a, w0 :: b, h, k => by
    have hc := jVr_cat h.1
    by_cases h2 : jCat v0 = 2
    · obtain ⟨x, rfl⟩ : ∃ x, v0 = .inr (.inl x) := by
        match v0, h2 with
        | .inr (.inl x), _ => exact ⟨x, rfl⟩
      obtain ⟨g1, g2⟩ := jLay_args h.2 (k + 2)
      have hw2 : w0.category = 2 := hc
      refine ⟨?_, fun i v hi => ?_⟩
      · simp only [lg_sl, List.flatMap_cons, hw2, if_true, List.length_append, List.length_cons, List.length_nil, jLay]
        unfold lg_sl at g1
        omega
      · simp only [lv_args, hw2, if_true]
        match i, hi with
        | 0, hi =>
          simp [jLay] at hi
          subst hi
          exact ⟨w0, List.mem_cons_self, h.1⟩
        | 1, hi => simp [jLay] at hi
        | i + 2, hi =>
          obtain ⟨w, q1, q2⟩ := g2 i v (by simpa [jLay] using hi)
          exact ⟨w, List.mem_cons_of_mem _ (by rw [show k + (i + 2) = k + 2 + i by omega]; exact q1), q2⟩
    · obtain ⟨g1, g2⟩ := jLay_args h.2 (k + 1)
      have hw2 : ¬ w0.category = 2 := by rw [hc]; exact h2
      have hl : jLay (v0 :: a) = some v0 :: jLay a := by
        match v0, h2 with
        | .inl _, _ => rfl
        | .inr (.inl _), h2 => exact absurd rfl h2
        | .inr (.inr _), _ => rfl
      refine ⟨?_, fun i v hi => ?_⟩
      · rw [hl]
        simp only [lg_sl, List.flatMap_cons, hw2, if_false, List.length_append, List.length_cons, List.length_nil]
        unfold lg_sl at g1
        omega
      · rw [hl] at hi
        simp only [lv_args, hw2, if_false]
        match i, hi with
        | 0, hi =>
          simp at hi
          subst hi
          exact ⟨w0, List.mem_cons_self, h.1⟩
        | i + 1, hi =>
          obtain ⟨w, q1, q2⟩ := g2 i v (by simpa using hi)
          exact ⟨w, List.mem_cons_of_mem _ (by rw [show k + (i + 1) = k + 1 + i by omega]; exact q1), q2⟩
theorem jEnt_lr {ws : va_W} {sb : Option (Nat × Nat)} {z : Nat} {a : List jV} {b : List Value} (h : jSr ws sb a b) (hl : (jLay a).length ≤ jMx z) : jLr ws sb (jMx z) (jEnt z a) ((lg_sl b ++ List.replicate (jMx z - (lg_sl b).length) Slot.unset).toArray) := by
  obtain ⟨g1, g2⟩ := jLay_args h 0
  refine ⟨?_, lv_args 0 b, lv_entry b (by omega), fun i v hi => ?_⟩
  · unfold jEnt
    rw [List.length_append, List.length_replicate]
    omega
  · unfold jEnt at hi
    by_cases hlt : i < (jLay a).length
    · rw [List.getElem?_append_left hlt] at hi
      obtain ⟨w, q1, q2⟩ := g2 i v hi
      exact ⟨w, by rw [Nat.zero_add] at q1; exact q1, q2⟩
    · rw [List.getElem?_append_right (by omega), List.getElem?_replicate] at hi
      split at hi <;> cases hi
theorem jNar_z {x : Int32} (h : x.toInt = 0 ∨ x.toInt = 1) : narrow .boolean (.int x) = .int x := (jNarB h).1
theorem jMw_k1 : jMw.all (fun q => decide (jMd q.1 = 1 → jKi q.1 = 2)) = true := by decide +kernel
theorem jMd1_k2 {y : Nat} (hy : y ∈ jZs) (hl : y ≠ zL_law) (hk : jMd y = 1) : jKi y = 2 := by
  obtain ⟨q, hq, rfl⟩ := jMw_of hy hl
  exact of_decide_eq_true (List.all_eq_true.mp jMw_k1 q hq) hk
theorem jKi2_rt {y : Nat} (hy : y ∈ jZs) (hl : y ≠ zL_law) (hk : jKi y = 2) : jRt y = 0 := by
  obtain ⟨q, hq, rfl⟩ := jMw_of hy hl
  exact of_decide_eq_true (List.all_eq_true.mp jMw_k2 q hq) hk
set_option maxHeartbeats 4000000 in
theorem jSound1 (l : Launch) (d : Nat) (ih : ∀ e0, d = e0 + 1 → ∀ y a m K, y ∈ jZs → y ≠ zL_law → jK e0 y a m K → jGood l e0 y a m K) {y : Nat} {aargs : List jV} {m : jM} {K : Int → jM → Prop} (hy : y ∈ jZs) (hyl : y ≠ zL_law) (hk : jK d y aargs m K) : jGood l d y aargs m K := by
  intro D fu ws tys Args sz g f1 f2 f3 f4 f5 f6
  obtain ⟨w1, w2, w3, w4, w5, w6, w7, w8, w9, w10, d1, d2, d3, d4, d5, d6, d7, d8⟩ := jMw_ok hy hyl
  refine jMet_of (cc := jBy y) (maxL := jMx y) (ret := jRy y) w10 rfl ?_
  intro p e s mi args below meth c s₁ B hml hv
  obtain ⟨rfl, hsz, hP, hK, hD0, hKO⟩ := hv
  have hx := B.exec
  have hb := B.bytes
  have hr := B.returns
  have hts : ∀ w ∈ jWs y, w.before Args.toArray s = true := atoms_spec (ws := jWs y) B.pre
  have hown : s.vm.findClass (jYn y).cls = some mi.cls := findClass_of_methodNamed B.named
  have hnm : meth.name = (jYn y).name := (name_of_methodNamed B.named B.method).1
  have hlocks : meth.locks = false := B.notSynchronized
  have hA : ∀ q, s.heap.size ≤ q → va_A ws sz q := fun q h => Or.inr (by rw [← hsz]; exact h)
  have hnone : jSx s (va_A ws sz) s.heap none g := fun b L h => by cases h
  have hn0 : jMd y = 1 → ws.length + jMc y ≤ 161 := fun h => (f2 h).2.2
  have hm := @jOf_mono ws.length (ws.length + jMc y) (Nat.le_add_right _ _)
  have hc : jCx p (headSpec (jWs y) (jRm d y ws.length)).room s mi Args.toArray meth c (va_A ws sz) s.heap (jWs y) y fu none g := by
    refine ⟨hx, hb, hml, by rw [← w6]; exact hown, hts, fun w h => List.mem_cons_of_mem _ h, hKO.1, hKO.2, hA, ⟨?_, ?_⟩, f1, fun h => ⟨(f2 h).1, Or.inl ?_⟩, hnone⟩
    · show 1 ≤ d + 1
      omega
    · show 60 ≤ 60 * (d + 1)
      omega
    · rw [hnm]
      exact w9 (jMd1_k2 hy hyl h)
  have fin : ∀ {H : Heap} {locs : List Loc} {cells slots : Nat} {ws' : va_W} {tys' : List (ClassId × FieldType)} {lsR : Array Slot} {ls : jS} {m' : jM} {v : Int} {oc : Outcome}, jRel (headSpec (jWs y) (jRm d y ws.length)).room s D (va_A ws sz) s.heap y fu none g ws.length ws H locs cells slots ws' tys' lsR [] ls [] m' → jRet y v m' K → jOc (jRt y) v oc →
      (∀ t : State, t.heap = H → s.WarmedH t.vm → jQc D fu ws sz g y K Args.toArray s oc t) ∧ (∀ q ∈ locs, va_A ws sz q.base) ∧ cells = jMc y ∧ slots = jOf (ws.length + jMc y) - jOf ws.length ∧ (jRt y = 3 → v = 0 ∨ v = 1) := by
    intro H locs cells slots ws' tys' lsR ls m' v oc hrel hret hoc
    obtain ⟨⟨r1, r2, r3, r4, r5⟩, -, -, r8, ⟨b1, b2, b3, b4⟩, r10⟩ := hrel
    have hKv : K v m' ∧ (jRt y = 3 → v = 0 ∨ v = 1) ∧ ws'.length = ws.length + jMc y := by
      unfold jRet at hret
      by_cases h1 : jMd y = 1
      · rw [h1] at hret
        obtain ⟨c1, c2, c3, c4, c5⟩ := b3 h1
        have hl := r5.1
        have := hret.1
        have hk2 := jMd1_k2 hy hyl h1
        refine ⟨hret.2, fun q => ?_, by omega⟩
        have := jKi2_rt hy hyl hk2
        omega
      · have h2 : ws'.length = ws.length + jMc y := by have q1 := b4 h1; have q2 := d2 h1; omega
        split at hret
        · exact absurd ‹_› h1
        · split at hret
          · split at hret
            · exact ⟨hret, fun _ => ‹_›, h2⟩
            · exact hret.elim
          · exact ⟨hret, fun q => absurd q ‹_›, h2⟩
    refine ⟨fun t ht hW => ⟨⟨v, m', ws', tys', hKv.1, hoc, r5, by rw [ht]; exact r1, va_K.moved hW.alike r3, r2, r10, r8, hKv.2.2⟩, r4.F ht⟩, r4.2.2, by omega, ?_, hKv.2.1⟩
    rw [← hKv.2.2]
    omega
  have hE : jEnds p l e (headSpec (jWs y) (jRm d y ws.length)).room s mi Args.toArray below meth c (MQ below (jQc D fu ws sz g y K) Args.toArray s (jMc y) (jOf (ws.length + jMc y) - jOf ws.length) (va_A ws sz)) D (va_A ws sz) s.heap y fu none g ws.length ws K := by
    refine ⟨fun pc H locs cells slots ws' tys' lsR ls m' x hd hrt hrel hret => ?_, fun pc H locs cells slots ws' tys' lsR ls m' x hd hrt hrel hret => ?_, fun pc H locs cells slots ws' tys' lsR ls m' hd hrt hrel hret => ?_⟩
    · have hoc : jOc (jRt y) x.toInt (.returned (some (.int x))) := by
        rcases hrt with q | q <;> (rw [q]; exact ⟨x, rfl, rfl⟩)
      obtain ⟨k1, k2, k3, k4, k5⟩ := fin hrel hret hoc
      subst k3 k4
      rcases hrt with q | q
      · have hr1 : meth.sig.returnType = some .int := by rw [hr, d1, q]; rfl
        exact W.iret hx hb hr1 k1 k2 hd hlocks
      · have hr1 : meth.sig.returnType = some .boolean := by rw [hr, d1, q]; rfl
        exact W.zret hx hb hr1 (jNar_z (k5 q)) k1 k2 hd hlocks
    · have hoc : jOc (jRt y) x.toInt (.returned (some (.long x))) := by rw [hrt]; exact ⟨x, rfl, rfl⟩
      obtain ⟨k1, k2, k3, k4, k5⟩ := fin hrel hret hoc
      subst k3 k4
      have hr1 : meth.sig.returnType = some .long := by rw [hr, d1, hrt]; rfl
      exact W.lret hx hb hr1 k1 k2 hd hlocks
    · have hoc : jOc (jRt y) 0 (.returned none) := by rw [hrt]; rfl
      obtain ⟨k1, k2, k3, k4, k5⟩ := fin hrel hret hoc
      subst k3 k4
      have hr1 : meth.sig.returnType = none := by rw [hr, d1, hrt]; rfl
      exact W.vret hx hb hr1 k1 k2 hd hlocks
  rw [lg_entry_eq]
  refine jFrame (d := d) hc ⟨?_, ?_⟩ ih hE d8 d7 (jDc_of hy hyl) hk _ _ _ _ _ tys _ _ ⟨⟨hP, hD0.self, hK, va_S.rf, f4⟩, jEnt_lr f3 f6, trivial, f5, ?_, jEx_rf ws⟩
  · show d + 1 ≤ d + 1
    omega
  · show 60 * (d + 1) ≤ 60 * (d + 1)
    omega
  · refine ⟨Nat.zero_add _, Nat.zero_add _, fun h => ⟨(f2 h).2.1, Nat.le_refl _, ?_, (f2 h).2.2, Nat.le_add_right _ _⟩, fun _ => rfl⟩
    show jOf (ws.length + jMc y) ≤ jOf (ws.length + jMc y) - jOf ws.length + jOf ws.length
    omega
/-- the induction -/
theorem jSound (l : Launch) (d : Nat) : ∀ (y : Nat) (aargs : List jV) (m : jM) (K : Int → jM → Prop), y ∈ jZs → y ≠ zL_law → jK d y aargs m K → jGood l d y aargs m K := by
  induction d with
  | zero =>
    intro y aargs m K hy hyl hk
    exact jSound1 l 0 (fun e0 h => by omega) hy hyl hk
  | succ d ih =>
    intro y aargs m K hy hyl hk
    exact jSound1 l (d + 1) (fun e0 h y a m K q1 q2 q3 => by cases h; exact ih y a m K q1 q2 q3) hy hyl hk
end
section
/-! THE CLAIM OUT OF ONE WALK OF THE LAW'S BODY. Your part is whole_start (and what it stands on); all else here is the same for every law, but numbers. -/
def R_law : String := "CourtMatcherLaw"
def lw_P (b : Addr) (xs : List Int32) (args : Array Value) (s : State) : Prop := args = #[.ref b] ∧ s.IntsAt b xs ∧ xs.length ≤ 3072 ∧ (Jvm.Cond.and given_1 narrow_1).before args s = true
def lw_Q (_ : Array Value) (s : State) (o : Outcome) (t : State) : Prop := o = .returned (some (.int 1)) ∧ Framed s o t [] 600000 7302249
def lw_Z (below : List Frame) (a : Array Value) (s : State) : State → Prop := fun t => ∃ o, t.status = .running ∧ Ended t below o ∧ lw_Q a s o t
/-- the law's own end, with 1 on the stack, nothing written that was there before, its room as the claim has it -/
theorem lw_ret {p : Program} {l : Launch} {e : Env} {s : State} {m : MethodId} {below : List Frame} {meth : Method} {c : Code} {b : Nat} (hx : p.tables.exec = Jvm.exec) (hb : c.code = code) (hr : meth.sig.returnType = ret) (hlocks : meth.locks = false) {pc : Nat} {H : Heap} {ls : Array Slot} (hdg : decode code pc = .ok (.ireturn, 1)) : W p l e room_1 s m #[Value.ref b] below meth c H [] 600000 7302249 (lw_Z below #[Value.ref b] s) (F0 m pc ls [.int 1]) := by
  intro T hT X
  obtain ⟨fs, hret, hrun, hended, hW, hframe⟩ := X.leave (v := some (.int 1)) (hlocks := hlocks) (fun h => by rw [hr] at h; cases h)
  have hmeth' : T.vm.method? m = some meth := X.method'
  refine ⟨T.setFrames fs, ?_, .returned (some (.int 1)), hrun, hended, rfl, ⟨_, rfl⟩, hW, hframe⟩
  jvm_step X.here [X.here.top, hx, hb, hdg, hmeth', hr, ret, narrow_b1]
  (try refine ⟨rfl, ?_⟩); (try refine ⟨rfl, ?_⟩)
  first | (intro acts; rw [hret _ acts rfl rfl rfl]) | rw [hret _ _ rfl rfl rfl]
  exact Steps.refl _
/-- what holds at the law's entry: the machine, the code, the tables' words (any of lw_tbl by 'hts w (by decide +kernel)'), the script of L ints xs at the cell b, what the Statement gives of the start (any of its parts by flat_of_before) -/
def lw_At (p : Program) (s : State) (m : MethodId) (meth : Method) (c : Code) (b L : Nat) (xs : Nat → Int32) : Prop :=
  p.tables.exec = Jvm.exec ∧ c.code = code ∧ meth.sig.returnType = ret ∧ c.maxLocals = 4 ∧ s.vm.findClass R_law = some m.cls ∧ (∀ w ∈ lw_tbl, w.before #[Value.ref b] s = true) ∧ va_X b L xs s s.heap ∧ b < s.heap.size ∧ meth.locks = false ∧ (Jvm.Cond.and given_1 narrow_1).before #[Value.ref b] s = true
/-! the law's frame: the abstract run of the law gives its walk -/
theorem jAll30 {own : Nat} {cc : ByteArray} {l : List (Nat × Instr × Nat)} (n : Nat) (hn : l.length ≤ 30 * n) (h : ∀ k, k < n → jChk own cc ((l.drop (30 * k)).take 30) = true) : jChk own cc l = true := by
  refine List.all_eq_true.mpr fun q hq => ?_
  obtain ⟨i, hi⟩ := List.getElem?_of_mem hq
  have hlt : i < l.length := (List.getElem?_eq_some_iff.mp hi).1
  refine List.all_eq_true.mp (h (i / 30) (by omega)) q (List.mem_of_getElem? (i := i % 30) ?_)
  rw [List.getElem?_take, if_pos (by omega), List.getElem?_drop, show 30 * (i / 30) + i % 30 = i by omega]
  exact hi
theorem jcL_len : jcL_law.length ≤ 30 * 36 := by decide +kernel
theorem jDc_law : jDc zL_law := by
  refine jAll30 (own := 12) (cc := cL_law) (l := jcL_law) 36 jcL_len (fun k hk => ?_)
  have h36 : k = 0 ∨ k = 1 ∨ k = 2 ∨ k = 3 ∨ k = 4 ∨ k = 5 ∨ k = 6 ∨ k = 7 ∨ k = 8 ∨ k = 9 ∨ k = 10 ∨ k = 11 ∨ k = 12 ∨ k = 13 ∨ k = 14 ∨ k = 15 ∨ k = 16 ∨ k = 17 ∨ k = 18 ∨ k = 19 ∨ k = 20 ∨ k = 21 ∨ k = 22 ∨ k = 23 ∨ k = 24 ∨ k = 25 ∨ k = 26 ∨ k = 27 ∨ k = 28 ∨ k = 29 ∨ k = 30 ∨ k = 31 ∨ k = 32 ∨ k = 33 ∨ k = 34 ∨ k = 35 := by omega
  rcases h36 with rfl | rfl | rfl | rfl | rfl | rfl | rfl | rfl | rfl | rfl | rfl | rfl | rfl | rfl | rfl | rfl | rfl | rfl | rfl | rfl | rfl | rfl | rfl | rfl | rfl | rfl | rfl | rfl | rfl | rfl | rfl | rfl | rfl | rfl | rfl | rfl
  · exact jdL_law_0
  · exact jdL_law_1
  · exact jdL_law_2
  · exact jdL_law_3
  · exact jdL_law_4
  · exact jdL_law_5
  · exact jdL_law_6
  · exact jdL_law_7
  · exact jdL_law_8
  · exact jdL_law_9
  · exact jdL_law_10
  · exact jdL_law_11
  · exact jdL_law_12
  · exact jdL_law_13
  · exact jdL_law_14
  · exact jdL_law_15
  · exact jdL_law_16
  · exact jdL_law_17
  · exact jdL_law_18
  · exact jdL_law_19
  · exact jdL_law_20
  · exact jdL_law_21
  · exact jdL_law_22
  · exact jdL_law_23
  · exact jdL_law_24
  · exact jdL_law_25
  · exact jdL_law_26
  · exact jdL_law_27
  · exact jdL_law_28
  · exact jdL_law_29
  · exact jdL_law_30
  · exact jdL_law_31
  · exact jdL_law_32
  · exact jdL_law_33
  · exact jdL_law_34
  · exact jdL_law_35
/-- the memory at the law's start: the script, nothing made, 161 cells to make -/
def jM0 (xs : Nat → Int32) : jM := fun k i => if k = -2 then (if i = -7 then 161 else if 0 ≤ i then (xs i.toNat).toInt else 0) else 0
/-- what is to be shown of the abstract run -/
def jLaw : Prop := ∀ (L : Nat) (xs : Nat → Int32), L ≤ 3072 → jK 1000 zL_law [jY 4 (L : Int) (-2)] (jM0 xs) (fun v _ => v = 1)
theorem jNests_tbl : ∀ w ∈ jNests, w ∈ lw_tbl := by
  intro w hw
  obtain ⟨i, hi⟩ := List.getElem?_of_mem hw
  have hlt : i < jNests.length := (List.getElem?_eq_some_iff.mp hi).1
  have hlt2 : i < jNestP.length := by rw [← jNest_all.2]; exact hlt
  have hz : (jNests.zip jNestP)[i]? = some (w, jNestP[i]) := by
    rw [List.getElem?_zip_eq_some]
    exact ⟨hi, List.getElem?_eq_getElem hlt2⟩
  exact jHas_mem (List.all_eq_true.mp jNest_all.1 _ (List.mem_of_getElem? hz))
theorem jOf_161 : jOf 161 = 27182 := by decide +kernel
theorem jOf_le {n : Nat} (h : n ≤ 161) : jOf n ≤ 27182 := by
  have := @jOf_mono n 161 h
  rw [jOf_161] at this
  exact this
set_option maxHeartbeats 4000000 in
theorem whole_from (habs : jLaw) {p : Program} {e : Env} {s : State} {m : MethodId} {below : List Frame} {meth : Method} {c : Code} (l : Launch) {b L : Nat} {xs : Nat → Int32} (hL : L ≤ 3072) (C0 : lw_At p s m meth c b L xs) : W p l e room_1 s m #[Value.ref b] below meth c s.heap [] 0 0 (lw_Z below #[Value.ref b] s) (entryFrame m ([Value.ref b] : List Value).toArray 4) := by
  obtain ⟨hx, hb, hr, hml, hown, hts, hX, hbl, hlocks, hgv⟩ := C0
  have hBW : ∀ w ∈ jBW, w ∈ lw_tbl := fun w h => (List.mem_filter.mp h).1
  have hkn : ∀ k : Nat, ∃ q : ClassId × (Nat → Nat), k < 12 → u_Kn s (jRn k) (jTc k) (jNf k) q.1 q.2 := by
    intro k
    by_cases hk : k < 12
    · obtain ⟨cC, iS, h⟩ := u_known (C := jRn k) (T := jTc k) (N := jNf k) (n := jNf k) hts (fun w hw => hBW _ (jLay_in hk w hw)) (hts _ (hBW _ (jIns_ok hk).1))
      exact ⟨(cC, iS), fun _ => h⟩
    · exact ⟨(0, fun _ => 0), fun h => absurd h hk⟩
  obtain ⟨D, hD⟩ : ∃ D : va_G, ∀ k : Nat, k < 12 → u_Kn s (jRn k) (jTc k) (jNf k) (D.1 k) (D.2 k) :=
    ⟨(fun k => (Classical.choose (hkn k)).1, fun k => (Classical.choose (hkn k)).2), fun k hk => Classical.choose_spec (hkn k) hk⟩
  have hK : va_K D jVc [] s := by
    refine ⟨fun k q hq => ?_, fun k q h => by simp at h⟩
    have hk : k < 12 := by
      have := (List.getElem?_eq_some_iff.mp hq).1
      exact this
    rw [jVc_at hk] at hq
    cases hq
    exact hD k hk
  have hodd := jOdd_all
  simp only [Bool.and_eq_true] at hodd
  obtain ⟨⟨-, a8⟩, a9⟩ := hodd
  have hAO6 : va_AO RX6 s := va_AO.of (hts _ (jHas_mem a8))
  have hAO7 : va_AO RX7 s := va_AO.of (hts _ (jHas_mem a9))
  have hc : jCx p room_1 s m #[Value.ref b] meth c (fun q => s.heap.size ≤ q) s.heap lw_tbl zL_law false (some (b, L)) (fun j => jM0 xs (-2) j) := by
    refine ⟨hx, hb, hml, hown, hts, hBW, fun w hw => va_Nw.of (jNests_all w hw).2 (hts _ (jNests_tbl w hw)), ⟨hAO6, hAO7⟩, fun _ h => h, ⟨Nat.le_of_ble_eq_true rfl, Nat.le_of_ble_eq_true rfl⟩, fun h => absurd h (by decide), fun _ => ⟨rfl, Or.inr (by decide)⟩, ?_⟩
    intro b' L' h
    cases h
    refine ⟨by omega, xs, hX, hbl, Nat.not_le.mpr hbl, fun j hj => ?_⟩
    show jM0 xs (-2) (j : Int) = _
    unfold jM0
    rw [if_pos rfl, if_neg (by omega), if_pos (by omega)]
    rfl
  have hE : jEnds p l e room_1 s m #[Value.ref b] below meth c (lw_Z below #[Value.ref b] s) D (fun q => s.heap.size ≤ q) s.heap zL_law false (some (b, L)) (fun j => jM0 xs (-2) j) 0 [] (fun v _ => v = 1) := by
    refine ⟨fun pc H locs cells slots ws tys lsR ls m' x hd hrt hrel hret => ?_, fun pc H locs cells slots ws tys lsR ls m' x hd hrt hrel hret => absurd hrt (by decide), fun pc H locs cells slots ws tys lsR ls m' hd hrt hrel hret => absurd hrt (by decide)⟩
    have h1 : x.toInt = 1 := hret.2
    have hx1 : x = 1 := jn_eq.mpr (by rw [h1]; decide)
    subst hx1
    obtain ⟨⟨r1, r2, r3, r4, r5⟩, -, -, r8, ⟨b1, b2, b3, b4⟩, r10⟩ := hrel
    have hws := r5.2.1
    have hof := jOf_le hws
    refine va_forget (fun q hq => r4.2.2 q hq) ?_
    refine W.widen (k := 600000) (n := 7302249) ?_ ?_ (lw_ret hx hb hr hlocks hd)
    · exact Nat.le_trans (show cells ≤ 161 by omega) (Nat.le_of_ble_eq_true rfl)
    · have h0 : jOf 0 = 0 := rfl
      exact Nat.le_trans (show slots ≤ 27182 by omega) (Nat.le_of_ble_eq_true rfl)
  rw [lg_entry_eq]
  refine jFrame (d := 1000) hc ⟨Nat.le_of_ble_eq_true rfl, Nat.le_of_ble_eq_true rfl⟩ (fun e0 _ y a m K hy hyl hk => jSound l e0 y a m K hy hyl hk) hE (by decide) (by decide) jDc_law (habs L xs hL) _ _ _ _ _ [] _ _ ⟨⟨fun k q h => by simp at h, ⟨fun i j p q h => by simp at h, fun k q h => by simp at h⟩, hK, va_S.rf, ?_⟩, jEnt_lr (b := [.ref b]) ⟨Or.inr ⟨rfl, b, L, rfl, rfl, rfl, rfl⟩, trivial⟩ (Nat.le_of_ble_eq_true rfl), trivial, fun _ => rfl, ?_, jEx_rf []⟩
  · exact ⟨rfl, Nat.le_of_ble_eq_true rfl, (fun h => by cases h), (fun k a e h => by simp at h)⟩
  · refine ⟨rfl, rfl, fun _ => ⟨rfl, Nat.le_of_ble_eq_true rfl, ?_, Nat.le_of_ble_eq_true rfl, Nat.le_of_ble_eq_true rfl⟩, fun h => absurd (by decide) h⟩
    show jOf 161 ≤ _
    rw [jOf_161]
    exact Nat.le_of_ble_eq_true rfl
end
