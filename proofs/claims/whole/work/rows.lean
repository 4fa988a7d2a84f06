section
-- ===== PART A: goes FIRST, ahead of the names: the tables' words, and 'selects' of the private methods out of them =====
/-- a private method of a class that the tables say can be made, by its rows of tables_1 -/
def lw_okq (q : MethodName × Nat) : Prop := (q.1.cls ≠ "java/lang/invoke/MethodHandle" ∧ q.1.cls ≠ "java/lang/invoke/VarHandle") ∧ Cond.instantiable q.1.cls q.2 ∈ tables_1 ∧ Cond.privateMethod q.1 ∈ tables_1 ∧ Cond.instanceMethod q.1 ∈ tables_1
theorem lw_p0 : lw_okq (⟨"CodeJudge$Code", "moveOf", "(II)I"⟩, 10) := ⟨⟨by decide +kernel, by decide +kernel⟩, List.mem_of_getElem? (i := 24) (by decide +kernel), List.mem_of_getElem? (i := 242) (by decide +kernel), List.mem_of_getElem? (i := 243) (by decide +kernel)⟩
theorem lw_p1 : lw_okq (⟨"CodeJudge$Code", "markOf", "(II)I"⟩, 10) := ⟨⟨by decide +kernel, by decide +kernel⟩, List.mem_of_getElem? (i := 24) (by decide +kernel), List.mem_of_getElem? (i := 246) (by decide +kernel), List.mem_of_getElem? (i := 247) (by decide +kernel)⟩
theorem lw_p2 : lw_okq (⟨"CodeJudge$Code", "layOut", "(III)V"⟩, 10) := ⟨⟨by decide +kernel, by decide +kernel⟩, List.mem_of_getElem? (i := 24) (by decide +kernel), List.mem_of_getElem? (i := 260) (by decide +kernel), List.mem_of_getElem? (i := 261) (by decide +kernel)⟩
theorem lw_p3 : lw_okq (⟨"CodeJudge$Reading", "take", "(II)V"⟩, 7) := ⟨⟨by decide +kernel, by decide +kernel⟩, List.mem_of_getElem? (i := 61) (by decide +kernel), List.mem_of_getElem? (i := 280) (by decide +kernel), List.mem_of_getElem? (i := 281) (by decide +kernel)⟩
theorem lw_p4 : lw_okq (⟨"CodeJudge$Code", "moveIn", "(II)I"⟩, 10) := ⟨⟨by decide +kernel, by decide +kernel⟩, List.mem_of_getElem? (i := 24) (by decide +kernel), List.mem_of_getElem? (i := 298) (by decide +kernel), List.mem_of_getElem? (i := 299) (by decide +kernel)⟩
theorem lw_p5 : lw_okq (⟨"CodeJudge$Reading", "countPair", "(II)V"⟩, 7) := ⟨⟨by decide +kernel, by decide +kernel⟩, List.mem_of_getElem? (i := 61) (by decide +kernel), List.mem_of_getElem? (i := 302) (by decide +kernel), List.mem_of_getElem? (i := 303) (by decide +kernel)⟩
theorem lw_p6 : lw_okq (⟨"CodeJudge", "isCode", "(I)Z"⟩, 13) := ⟨⟨by decide +kernel, by decide +kernel⟩, List.mem_of_getElem? (i := 13) (by decide +kernel), List.mem_of_getElem? (i := 322) (by decide +kernel), List.mem_of_getElem? (i := 323) (by decide +kernel)⟩
theorem lw_p7 : lw_okq (⟨"CodeJudge", "readAgain", "()V"⟩, 13) := ⟨⟨by decide +kernel, by decide +kernel⟩, List.mem_of_getElem? (i := 13) (by decide +kernel), List.mem_of_getElem? (i := 338) (by decide +kernel), List.mem_of_getElem? (i := 339) (by decide +kernel)⟩
theorem lw_p8 : lw_okq (⟨"CodeJudge", "letCome", "(I)V"⟩, 13) := ⟨⟨by decide +kernel, by decide +kernel⟩, List.mem_of_getElem? (i := 13) (by decide +kernel), List.mem_of_getElem? (i := 347) (by decide +kernel), List.mem_of_getElem? (i := 348) (by decide +kernel)⟩
theorem lw_p9 : lw_okq (⟨"CodeJudge", "firstSure", "(I)I"⟩, 13) := ⟨⟨by decide +kernel, by decide +kernel⟩, List.mem_of_getElem? (i := 13) (by decide +kernel), List.mem_of_getElem? (i := 391) (by decide +kernel), List.mem_of_getElem? (i := 392) (by decide +kernel)⟩
theorem lw_p10 : lw_okq (⟨"CodeJudge$Outlook", "beginAtEnd", "()V"⟩, 2) := ⟨⟨by decide +kernel, by decide +kernel⟩, List.mem_of_getElem? (i := 90) (by decide +kernel), List.mem_of_getElem? (i := 419) (by decide +kernel), List.mem_of_getElem? (i := 420) (by decide +kernel)⟩
theorem lw_p11 : lw_okq (⟨"CodeJudge$Outlook", "leadAt", "(II)I"⟩, 2) := ⟨⟨by decide +kernel, by decide +kernel⟩, List.mem_of_getElem? (i := 90) (by decide +kernel), List.mem_of_getElem? (i := 425) (by decide +kernel), List.mem_of_getElem? (i := 426) (by decide +kernel)⟩
theorem lw_p12 : lw_okq (⟨"CodeJudge$Outlook", "lengthen", "(LCodeJudge$Code;LCodeJudge$Code;)V"⟩, 2) := ⟨⟨by decide +kernel, by decide +kernel⟩, List.mem_of_getElem? (i := 90) (by decide +kernel), List.mem_of_getElem? (i := 433) (by decide +kernel), List.mem_of_getElem? (i := 434) (by decide +kernel)⟩
theorem lw_p13 : lw_okq (⟨"CodeJudge$Outlook", "lengthenBy", "(IIIILCodeJudge$Code;)V"⟩, 2) := ⟨⟨by decide +kernel, by decide +kernel⟩, List.mem_of_getElem? (i := 90) (by decide +kernel), List.mem_of_getElem? (i := 444) (by decide +kernel), List.mem_of_getElem? (i := 445) (by decide +kernel)⟩
theorem lw_p14 : lw_okq (⟨"CodeJudge", "placeInRanking", "(I)I"⟩, 13) := ⟨⟨by decide +kernel, by decide +kernel⟩, List.mem_of_getElem? (i := 13) (by decide +kernel), List.mem_of_getElem? (i := 455) (by decide +kernel), List.mem_of_getElem? (i := 456) (by decide +kernel)⟩
theorem lw_p15 : lw_okq (⟨"CodeJudge", "isAhead", "(II)Z"⟩, 13) := ⟨⟨by decide +kernel, by decide +kernel⟩, List.mem_of_getElem? (i := 13) (by decide +kernel), List.mem_of_getElem? (i := 459) (by decide +kernel), List.mem_of_getElem? (i := 460) (by decide +kernel)⟩
def lw_privs_1 : List (MethodName × Nat) := [(⟨"CodeJudge$Code", "moveOf", "(II)I"⟩, 10), (⟨"CodeJudge$Code", "markOf", "(II)I"⟩, 10), (⟨"CodeJudge$Code", "layOut", "(III)V"⟩, 10), (⟨"CodeJudge$Reading", "take", "(II)V"⟩, 7), (⟨"CodeJudge$Code", "moveIn", "(II)I"⟩, 10), (⟨"CodeJudge$Reading", "countPair", "(II)V"⟩, 7), (⟨"CodeJudge", "isCode", "(I)Z"⟩, 13), (⟨"CodeJudge", "readAgain", "()V"⟩, 13), (⟨"CodeJudge", "letCome", "(I)V"⟩, 13), (⟨"CodeJudge", "firstSure", "(I)I"⟩, 13), (⟨"CodeJudge$Outlook", "beginAtEnd", "()V"⟩, 2), (⟨"CodeJudge$Outlook", "leadAt", "(II)I"⟩, 2), (⟨"CodeJudge$Outlook", "lengthen", "(LCodeJudge$Code;LCodeJudge$Code;)V"⟩, 2), (⟨"CodeJudge$Outlook", "lengthenBy", "(IIIILCodeJudge$Code;)V"⟩, 2), (⟨"CodeJudge", "placeInRanking", "(I)I"⟩, 13), (⟨"CodeJudge", "isAhead", "(II)Z"⟩, 13)]
theorem lw_r1 : ∀ q ∈ lw_privs_1, lw_okq q := List.forall_mem_cons.mpr ⟨lw_p0, List.forall_mem_cons.mpr ⟨lw_p1, List.forall_mem_cons.mpr ⟨lw_p2, List.forall_mem_cons.mpr ⟨lw_p3, List.forall_mem_cons.mpr ⟨lw_p4, List.forall_mem_cons.mpr ⟨lw_p5, List.forall_mem_cons.mpr ⟨lw_p6, List.forall_mem_cons.mpr ⟨lw_p7, List.forall_mem_cons.mpr ⟨lw_p8, List.forall_mem_cons.mpr ⟨lw_p9, List.forall_mem_cons.mpr ⟨lw_p10, List.forall_mem_cons.mpr ⟨lw_p11, List.forall_mem_cons.mpr ⟨lw_p12, List.forall_mem_cons.mpr ⟨lw_p13, List.forall_mem_cons.mpr ⟨lw_p14, List.forall_mem_cons.mpr ⟨lw_p15, fun _ h => absurd h List.not_mem_nil⟩⟩⟩⟩⟩⟩⟩⟩⟩⟩⟩⟩⟩⟩⟩⟩
theorem lw_p16 : lw_okq (⟨"CodeJudge$Code", "lengthenWays", "()V"⟩, 10) := ⟨⟨by decide +kernel, by decide +kernel⟩, List.mem_of_getElem? (i := 24) (by decide +kernel), List.mem_of_getElem? (i := 500) (by decide +kernel), List.mem_of_getElem? (i := 501) (by decide +kernel)⟩
theorem lw_p17 : lw_okq (⟨"CodeJudge$Parting", "reach", "(III)V"⟩, 6) := ⟨⟨by decide +kernel, by decide +kernel⟩, List.mem_of_getElem? (i := 103) (by decide +kernel), List.mem_of_getElem? (i := 515) (by decide +kernel), List.mem_of_getElem? (i := 516) (by decide +kernel)⟩
theorem lw_p18 : lw_okq (⟨"CodeJudge$Parting", "writeRow", "(I)V"⟩, 6) := ⟨⟨by decide +kernel, by decide +kernel⟩, List.mem_of_getElem? (i := 103) (by decide +kernel), List.mem_of_getElem? (i := 522) (by decide +kernel), List.mem_of_getElem? (i := 523) (by decide +kernel)⟩
theorem lw_p19 : lw_okq (⟨"CodeJudge$Parting", "expand", "(ILCodeJudge$Code;LCodeJudge$Code;)V"⟩, 6) := ⟨⟨by decide +kernel, by decide +kernel⟩, List.mem_of_getElem? (i := 103) (by decide +kernel), List.mem_of_getElem? (i := 526) (by decide +kernel), List.mem_of_getElem? (i := 527) (by decide +kernel)⟩
theorem lw_p20 : lw_okq (⟨"CodeJudge$Division", "tryPieces", "(LCodeJudge$Code;I[III)V"⟩, 5) := ⟨⟨by decide +kernel, by decide +kernel⟩, List.mem_of_getElem? (i := 128) (by decide +kernel), List.mem_of_getElem? (i := 552) (by decide +kernel), List.mem_of_getElem? (i := 553) (by decide +kernel)⟩
theorem lw_p21 : lw_okq (⟨"CodeJudge$Division", "tryPiece", "(IIIII)V"⟩, 5) := ⟨⟨by decide +kernel, by decide +kernel⟩, List.mem_of_getElem? (i := 128) (by decide +kernel), List.mem_of_getElem? (i := 559) (by decide +kernel), List.mem_of_getElem? (i := 560) (by decide +kernel)⟩
theorem lw_p22 : lw_okq (⟨"CodeJudge$Division", "isBetter", "(IIIII)Z"⟩, 5) := ⟨⟨by decide +kernel, by decide +kernel⟩, List.mem_of_getElem? (i := 128) (by decide +kernel), List.mem_of_getElem? (i := 563) (by decide +kernel), List.mem_of_getElem? (i := 564) (by decide +kernel)⟩
theorem lw_p23 : lw_okq (⟨"CodeJudge", "aliveCodes", "()I"⟩, 13) := ⟨⟨by decide +kernel, by decide +kernel⟩, List.mem_of_getElem? (i := 13) (by decide +kernel), List.mem_of_getElem? (i := 587) (by decide +kernel), List.mem_of_getElem? (i := 588) (by decide +kernel)⟩
theorem lw_p24 : lw_okq (⟨"CodeJudge", "validCodes", "()I"⟩, 13) := ⟨⟨by decide +kernel, by decide +kernel⟩, List.mem_of_getElem? (i := 13) (by decide +kernel), List.mem_of_getElem? (i := 591) (by decide +kernel), List.mem_of_getElem? (i := 592) (by decide +kernel)⟩
theorem lw_p25 : lw_okq (⟨"CodeJudge", "foldCode", "(JI)J"⟩, 13) := ⟨⟨by decide +kernel, by decide +kernel⟩, List.mem_of_getElem? (i := 13) (by decide +kernel), List.mem_of_getElem? (i := 600) (by decide +kernel), List.mem_of_getElem? (i := 601) (by decide +kernel)⟩
theorem lw_p26 : lw_okq (⟨"CodeJudge", "foldDivision", "(J)J"⟩, 13) := ⟨⟨by decide +kernel, by decide +kernel⟩, List.mem_of_getElem? (i := 13) (by decide +kernel), List.mem_of_getElem? (i := 614) (by decide +kernel), List.mem_of_getElem? (i := 615) (by decide +kernel)⟩
theorem lw_p27 : lw_okq (⟨"CodeJudgeModel", "read", "()I"⟩, 35) := ⟨⟨by decide +kernel, by decide +kernel⟩, List.mem_of_getElem? (i := 619) (by decide +kernel), List.mem_of_getElem? (i := 747) (by decide +kernel), List.mem_of_getElem? (i := 748) (by decide +kernel)⟩
theorem lw_p28 : lw_okq (⟨"CodeJudgeModel", "fitsAt", "(II)Z"⟩, 35) := ⟨⟨by decide +kernel, by decide +kernel⟩, List.mem_of_getElem? (i := 619) (by decide +kernel), List.mem_of_getElem? (i := 751) (by decide +kernel), List.mem_of_getElem? (i := 752) (by decide +kernel)⟩
theorem lw_p29 : lw_okq (⟨"CodeJudgeModel", "layCode", "(I)V"⟩, 35) := ⟨⟨by decide +kernel, by decide +kernel⟩, List.mem_of_getElem? (i := 619) (by decide +kernel), List.mem_of_getElem? (i := 774) (by decide +kernel), List.mem_of_getElem? (i := 775) (by decide +kernel)⟩
theorem lw_p30 : lw_okq (⟨"CodeJudgeModel", "isCode", "(I)Z"⟩, 35) := ⟨⟨by decide +kernel, by decide +kernel⟩, List.mem_of_getElem? (i := 619) (by decide +kernel), List.mem_of_getElem? (i := 786) (by decide +kernel), List.mem_of_getElem? (i := 787) (by decide +kernel)⟩
theorem lw_p31 : lw_okq (⟨"CodeJudgeModel", "inkNow", "(II)I"⟩, 35) := ⟨⟨by decide +kernel, by decide +kernel⟩, List.mem_of_getElem? (i := 619) (by decide +kernel), List.mem_of_getElem? (i := 790) (by decide +kernel), List.mem_of_getElem? (i := 791) (by decide +kernel)⟩
def lw_privs_2 : List (MethodName × Nat) := [(⟨"CodeJudge$Code", "lengthenWays", "()V"⟩, 10), (⟨"CodeJudge$Parting", "reach", "(III)V"⟩, 6), (⟨"CodeJudge$Parting", "writeRow", "(I)V"⟩, 6), (⟨"CodeJudge$Parting", "expand", "(ILCodeJudge$Code;LCodeJudge$Code;)V"⟩, 6), (⟨"CodeJudge$Division", "tryPieces", "(LCodeJudge$Code;I[III)V"⟩, 5), (⟨"CodeJudge$Division", "tryPiece", "(IIIII)V"⟩, 5), (⟨"CodeJudge$Division", "isBetter", "(IIIII)Z"⟩, 5), (⟨"CodeJudge", "aliveCodes", "()I"⟩, 13), (⟨"CodeJudge", "validCodes", "()I"⟩, 13), (⟨"CodeJudge", "foldCode", "(JI)J"⟩, 13), (⟨"CodeJudge", "foldDivision", "(J)J"⟩, 13), (⟨"CodeJudgeModel", "read", "()I"⟩, 35), (⟨"CodeJudgeModel", "fitsAt", "(II)Z"⟩, 35), (⟨"CodeJudgeModel", "layCode", "(I)V"⟩, 35), (⟨"CodeJudgeModel", "isCode", "(I)Z"⟩, 35), (⟨"CodeJudgeModel", "inkNow", "(II)I"⟩, 35)]
theorem lw_r2 : ∀ q ∈ lw_privs_2, lw_okq q := List.forall_mem_cons.mpr ⟨lw_p16, List.forall_mem_cons.mpr ⟨lw_p17, List.forall_mem_cons.mpr ⟨lw_p18, List.forall_mem_cons.mpr ⟨lw_p19, List.forall_mem_cons.mpr ⟨lw_p20, List.forall_mem_cons.mpr ⟨lw_p21, List.forall_mem_cons.mpr ⟨lw_p22, List.forall_mem_cons.mpr ⟨lw_p23, List.forall_mem_cons.mpr ⟨lw_p24, List.forall_mem_cons.mpr ⟨lw_p25, List.forall_mem_cons.mpr ⟨lw_p26, List.forall_mem_cons.mpr ⟨lw_p27, List.forall_mem_cons.mpr ⟨lw_p28, List.forall_mem_cons.mpr ⟨lw_p29, List.forall_mem_cons.mpr ⟨lw_p30, List.forall_mem_cons.mpr ⟨lw_p31, fun _ h => absurd h List.not_mem_nil⟩⟩⟩⟩⟩⟩⟩⟩⟩⟩⟩⟩⟩⟩⟩⟩
theorem lw_p32 : lw_okq (⟨"CodeJudgeModel", "comes", "(I)V"⟩, 35) := ⟨⟨by decide +kernel, by decide +kernel⟩, List.mem_of_getElem? (i := 619) (by decide +kernel), List.mem_of_getElem? (i := 808) (by decide +kernel), List.mem_of_getElem? (i := 809) (by decide +kernel)⟩
theorem lw_p33 : lw_okq (⟨"CodeJudgeModel", "aboutNow", "(II)I"⟩, 35) := ⟨⟨by decide +kernel, by decide +kernel⟩, List.mem_of_getElem? (i := 619) (by decide +kernel), List.mem_of_getElem? (i := 828) (by decide +kernel), List.mem_of_getElem? (i := 829) (by decide +kernel)⟩
theorem lw_p34 : lw_okq (⟨"CodeJudgeModel", "isAlive", "(I)Z"⟩, 35) := ⟨⟨by decide +kernel, by decide +kernel⟩, List.mem_of_getElem? (i := 619) (by decide +kernel), List.mem_of_getElem? (i := 832) (by decide +kernel), List.mem_of_getElem? (i := 833) (by decide +kernel)⟩
theorem lw_p35 : lw_okq (⟨"CodeJudgeModel", "goAlong", "(II)V"⟩, 35) := ⟨⟨by decide +kernel, by decide +kernel⟩, List.mem_of_getElem? (i := 619) (by decide +kernel), List.mem_of_getElem? (i := 836) (by decide +kernel), List.mem_of_getElem? (i := 837) (by decide +kernel)⟩
theorem lw_p36 : lw_okq (⟨"CodeJudgeModel", "begin", "()V"⟩, 35) := ⟨⟨by decide +kernel, by decide +kernel⟩, List.mem_of_getElem? (i := 619) (by decide +kernel), List.mem_of_getElem? (i := 840) (by decide +kernel), List.mem_of_getElem? (i := 841) (by decide +kernel)⟩
theorem lw_p37 : lw_okq (⟨"CodeJudgeModel", "goOn", "(II)V"⟩, 35) := ⟨⟨by decide +kernel, by decide +kernel⟩, List.mem_of_getElem? (i := 619) (by decide +kernel), List.mem_of_getElem? (i := 844) (by decide +kernel), List.mem_of_getElem? (i := 845) (by decide +kernel)⟩
theorem lw_p38 : lw_okq (⟨"CodeJudgeModel", "step", "(III)I"⟩, 35) := ⟨⟨by decide +kernel, by decide +kernel⟩, List.mem_of_getElem? (i := 619) (by decide +kernel), List.mem_of_getElem? (i := 848) (by decide +kernel), List.mem_of_getElem? (i := 849) (by decide +kernel)⟩
theorem lw_p39 : lw_okq (⟨"CodeJudgeModel", "ends", "(II)I"⟩, 35) := ⟨⟨by decide +kernel, by decide +kernel⟩, List.mem_of_getElem? (i := 619) (by decide +kernel), List.mem_of_getElem? (i := 852) (by decide +kernel), List.mem_of_getElem? (i := 853) (by decide +kernel)⟩
theorem lw_p40 : lw_okq (⟨"CodeJudgeModel", "stepCounted", "(II)I"⟩, 35) := ⟨⟨by decide +kernel, by decide +kernel⟩, List.mem_of_getElem? (i := 619) (by decide +kernel), List.mem_of_getElem? (i := 856) (by decide +kernel), List.mem_of_getElem? (i := 857) (by decide +kernel)⟩
theorem lw_p41 : lw_okq (⟨"CodeJudgeModel", "stepTurned", "(III)I"⟩, 35) := ⟨⟨by decide +kernel, by decide +kernel⟩, List.mem_of_getElem? (i := 619) (by decide +kernel), List.mem_of_getElem? (i := 860) (by decide +kernel), List.mem_of_getElem? (i := 861) (by decide +kernel)⟩
theorem lw_p42 : lw_okq (⟨"CodeJudgeModel", "isValid", "(I)Z"⟩, 35) := ⟨⟨by decide +kernel, by decide +kernel⟩, List.mem_of_getElem? (i := 619) (by decide +kernel), List.mem_of_getElem? (i := 864) (by decide +kernel), List.mem_of_getElem? (i := 865) (by decide +kernel)⟩
theorem lw_p43 : lw_okq (⟨"CodeJudgeModel", "signsOf", "(I)I"⟩, 35) := ⟨⟨by decide +kernel, by decide +kernel⟩, List.mem_of_getElem? (i := 619) (by decide +kernel), List.mem_of_getElem? (i := 868) (by decide +kernel), List.mem_of_getElem? (i := 869) (by decide +kernel)⟩
theorem lw_p44 : lw_okq (⟨"CodeJudgeModel", "weightOf", "(I)I"⟩, 35) := ⟨⟨by decide +kernel, by decide +kernel⟩, List.mem_of_getElem? (i := 619) (by decide +kernel), List.mem_of_getElem? (i := 872) (by decide +kernel), List.mem_of_getElem? (i := 873) (by decide +kernel)⟩
theorem lw_p45 : lw_okq (⟨"CodeJudgeModel", "firstBad", "(I)I"⟩, 35) := ⟨⟨by decide +kernel, by decide +kernel⟩, List.mem_of_getElem? (i := 619) (by decide +kernel), List.mem_of_getElem? (i := 876) (by decide +kernel), List.mem_of_getElem? (i := 877) (by decide +kernel)⟩
theorem lw_p46 : lw_okq (⟨"CodeJudgeModel", "sureAt", "(I)I"⟩, 35) := ⟨⟨by decide +kernel, by decide +kernel⟩, List.mem_of_getElem? (i := 619) (by decide +kernel), List.mem_of_getElem? (i := 880) (by decide +kernel), List.mem_of_getElem? (i := 881) (by decide +kernel)⟩
theorem lw_p47 : lw_okq (⟨"CodeJudgeModel", "layCan", "(I)V"⟩, 35) := ⟨⟨by decide +kernel, by decide +kernel⟩, List.mem_of_getElem? (i := 619) (by decide +kernel), List.mem_of_getElem? (i := 884) (by decide +kernel), List.mem_of_getElem? (i := 885) (by decide +kernel)⟩
def lw_privs_3 : List (MethodName × Nat) := [(⟨"CodeJudgeModel", "comes", "(I)V"⟩, 35), (⟨"CodeJudgeModel", "aboutNow", "(II)I"⟩, 35), (⟨"CodeJudgeModel", "isAlive", "(I)Z"⟩, 35), (⟨"CodeJudgeModel", "goAlong", "(II)V"⟩, 35), (⟨"CodeJudgeModel", "begin", "()V"⟩, 35), (⟨"CodeJudgeModel", "goOn", "(II)V"⟩, 35), (⟨"CodeJudgeModel", "step", "(III)I"⟩, 35), (⟨"CodeJudgeModel", "ends", "(II)I"⟩, 35), (⟨"CodeJudgeModel", "stepCounted", "(II)I"⟩, 35), (⟨"CodeJudgeModel", "stepTurned", "(III)I"⟩, 35), (⟨"CodeJudgeModel", "isValid", "(I)Z"⟩, 35), (⟨"CodeJudgeModel", "signsOf", "(I)I"⟩, 35), (⟨"CodeJudgeModel", "weightOf", "(I)I"⟩, 35), (⟨"CodeJudgeModel", "firstBad", "(I)I"⟩, 35), (⟨"CodeJudgeModel", "sureAt", "(I)I"⟩, 35), (⟨"CodeJudgeModel", "layCan", "(I)V"⟩, 35)]
theorem lw_r3 : ∀ q ∈ lw_privs_3, lw_okq q := List.forall_mem_cons.mpr ⟨lw_p32, List.forall_mem_cons.mpr ⟨lw_p33, List.forall_mem_cons.mpr ⟨lw_p34, List.forall_mem_cons.mpr ⟨lw_p35, List.forall_mem_cons.mpr ⟨lw_p36, List.forall_mem_cons.mpr ⟨lw_p37, List.forall_mem_cons.mpr ⟨lw_p38, List.forall_mem_cons.mpr ⟨lw_p39, List.forall_mem_cons.mpr ⟨lw_p40, List.forall_mem_cons.mpr ⟨lw_p41, List.forall_mem_cons.mpr ⟨lw_p42, List.forall_mem_cons.mpr ⟨lw_p43, List.forall_mem_cons.mpr ⟨lw_p44, List.forall_mem_cons.mpr ⟨lw_p45, List.forall_mem_cons.mpr ⟨lw_p46, List.forall_mem_cons.mpr ⟨lw_p47, fun _ h => absurd h List.not_mem_nil⟩⟩⟩⟩⟩⟩⟩⟩⟩⟩⟩⟩⟩⟩⟩⟩
theorem lw_p48 : lw_okq (⟨"CodeJudgeModel", "goBackCan", "(I)V"⟩, 35) := ⟨⟨by decide +kernel, by decide +kernel⟩, List.mem_of_getElem? (i := 619) (by decide +kernel), List.mem_of_getElem? (i := 888) (by decide +kernel), List.mem_of_getElem? (i := 889) (by decide +kernel)⟩
theorem lw_p49 : lw_okq (⟨"CodeJudgeModel", "layLoses", "(II)V"⟩, 35) := ⟨⟨by decide +kernel, by decide +kernel⟩, List.mem_of_getElem? (i := 619) (by decide +kernel), List.mem_of_getElem? (i := 895) (by decide +kernel), List.mem_of_getElem? (i := 896) (by decide +kernel)⟩
theorem lw_p50 : lw_okq (⟨"CodeJudgeModel", "beginBack", "()V"⟩, 35) := ⟨⟨by decide +kernel, by decide +kernel⟩, List.mem_of_getElem? (i := 619) (by decide +kernel), List.mem_of_getElem? (i := 899) (by decide +kernel), List.mem_of_getElem? (i := 900) (by decide +kernel)⟩
theorem lw_p51 : lw_okq (⟨"CodeJudgeModel", "goBack", "(II)V"⟩, 35) := ⟨⟨by decide +kernel, by decide +kernel⟩, List.mem_of_getElem? (i := 619) (by decide +kernel), List.mem_of_getElem? (i := 904) (by decide +kernel), List.mem_of_getElem? (i := 905) (by decide +kernel)⟩
theorem lw_p52 : lw_okq (⟨"CodeJudgeModel", "moreBy", "(IIII)I"⟩, 35) := ⟨⟨by decide +kernel, by decide +kernel⟩, List.mem_of_getElem? (i := 619) (by decide +kernel), List.mem_of_getElem? (i := 908) (by decide +kernel), List.mem_of_getElem? (i := 909) (by decide +kernel)⟩
theorem lw_p53 : lw_okq (⟨"CodeJudgeModel", "placeBehind", "(III)I"⟩, 35) := ⟨⟨by decide +kernel, by decide +kernel⟩, List.mem_of_getElem? (i := 619) (by decide +kernel), List.mem_of_getElem? (i := 912) (by decide +kernel), List.mem_of_getElem? (i := 913) (by decide +kernel)⟩
theorem lw_p54 : lw_okq (⟨"CodeJudgeModel", "gain", "(II)I"⟩, 35) := ⟨⟨by decide +kernel, by decide +kernel⟩, List.mem_of_getElem? (i := 619) (by decide +kernel), List.mem_of_getElem? (i := 916) (by decide +kernel), List.mem_of_getElem? (i := 917) (by decide +kernel)⟩
theorem lw_p55 : lw_okq (⟨"CodeJudgeModel", "canLose", "(III)Z"⟩, 35) := ⟨⟨by decide +kernel, by decide +kernel⟩, List.mem_of_getElem? (i := 619) (by decide +kernel), List.mem_of_getElem? (i := 923) (by decide +kernel), List.mem_of_getElem? (i := 924) (by decide +kernel)⟩
theorem lw_p56 : lw_okq (⟨"CodeJudgeModel", "rankOf", "(I)I"⟩, 35) := ⟨⟨by decide +kernel, by decide +kernel⟩, List.mem_of_getElem? (i := 619) (by decide +kernel), List.mem_of_getElem? (i := 927) (by decide +kernel), List.mem_of_getElem? (i := 928) (by decide +kernel)⟩
theorem lw_p57 : lw_okq (⟨"CodeJudgeModel", "isAhead", "(II)Z"⟩, 35) := ⟨⟨by decide +kernel, by decide +kernel⟩, List.mem_of_getElem? (i := 619) (by decide +kernel), List.mem_of_getElem? (i := 931) (by decide +kernel), List.mem_of_getElem? (i := 932) (by decide +kernel)⟩
theorem lw_p58 : lw_okq (⟨"CodeJudgeModel", "rankKey", "(I)I"⟩, 35) := ⟨⟨by decide +kernel, by decide +kernel⟩, List.mem_of_getElem? (i := 619) (by decide +kernel), List.mem_of_getElem? (i := 935) (by decide +kernel), List.mem_of_getElem? (i := 936) (by decide +kernel)⟩
theorem lw_p59 : lw_okq (⟨"CodeJudgeModel", "pairsOf", "(II)I"⟩, 35) := ⟨⟨by decide +kernel, by decide +kernel⟩, List.mem_of_getElem? (i := 619) (by decide +kernel), List.mem_of_getElem? (i := 947) (by decide +kernel), List.mem_of_getElem? (i := 948) (by decide +kernel)⟩
theorem lw_p60 : lw_okq (⟨"CodeJudgeModel", "judgedNow", "()I"⟩, 35) := ⟨⟨by decide +kernel, by decide +kernel⟩, List.mem_of_getElem? (i := 619) (by decide +kernel), List.mem_of_getElem? (i := 955) (by decide +kernel), List.mem_of_getElem? (i := 956) (by decide +kernel)⟩
theorem lw_p61 : lw_okq (⟨"CodeJudgeModel", "rowsNow", "(II)I"⟩, 35) := ⟨⟨by decide +kernel, by decide +kernel⟩, List.mem_of_getElem? (i := 619) (by decide +kernel), List.mem_of_getElem? (i := 967) (by decide +kernel), List.mem_of_getElem? (i := 968) (by decide +kernel)⟩
theorem lw_p62 : lw_okq (⟨"CodeJudgeModel", "oneMore", "(I)V"⟩, 35) := ⟨⟨by decide +kernel, by decide +kernel⟩, List.mem_of_getElem? (i := 619) (by decide +kernel), List.mem_of_getElem? (i := 971) (by decide +kernel), List.mem_of_getElem? (i := 972) (by decide +kernel)⟩
theorem lw_p63 : lw_okq (⟨"CodeJudgeModel", "apartNow", "(II)I"⟩, 35) := ⟨⟨by decide +kernel, by decide +kernel⟩, List.mem_of_getElem? (i := 619) (by decide +kernel), List.mem_of_getElem? (i := 979) (by decide +kernel), List.mem_of_getElem? (i := 980) (by decide +kernel)⟩
def lw_privs_4 : List (MethodName × Nat) := [(⟨"CodeJudgeModel", "goBackCan", "(I)V"⟩, 35), (⟨"CodeJudgeModel", "layLoses", "(II)V"⟩, 35), (⟨"CodeJudgeModel", "beginBack", "()V"⟩, 35), (⟨"CodeJudgeModel", "goBack", "(II)V"⟩, 35), (⟨"CodeJudgeModel", "moreBy", "(IIII)I"⟩, 35), (⟨"CodeJudgeModel", "placeBehind", "(III)I"⟩, 35), (⟨"CodeJudgeModel", "gain", "(II)I"⟩, 35), (⟨"CodeJudgeModel", "canLose", "(III)Z"⟩, 35), (⟨"CodeJudgeModel", "rankOf", "(I)I"⟩, 35), (⟨"CodeJudgeModel", "isAhead", "(II)Z"⟩, 35), (⟨"CodeJudgeModel", "rankKey", "(I)I"⟩, 35), (⟨"CodeJudgeModel", "pairsOf", "(II)I"⟩, 35), (⟨"CodeJudgeModel", "judgedNow", "()I"⟩, 35), (⟨"CodeJudgeModel", "rowsNow", "(II)I"⟩, 35), (⟨"CodeJudgeModel", "oneMore", "(I)V"⟩, 35), (⟨"CodeJudgeModel", "apartNow", "(II)I"⟩, 35)]
theorem lw_r4 : ∀ q ∈ lw_privs_4, lw_okq q := List.forall_mem_cons.mpr ⟨lw_p48, List.forall_mem_cons.mpr ⟨lw_p49, List.forall_mem_cons.mpr ⟨lw_p50, List.forall_mem_cons.mpr ⟨lw_p51, List.forall_mem_cons.mpr ⟨lw_p52, List.forall_mem_cons.mpr ⟨lw_p53, List.forall_mem_cons.mpr ⟨lw_p54, List.forall_mem_cons.mpr ⟨lw_p55, List.forall_mem_cons.mpr ⟨lw_p56, List.forall_mem_cons.mpr ⟨lw_p57, List.forall_mem_cons.mpr ⟨lw_p58, List.forall_mem_cons.mpr ⟨lw_p59, List.forall_mem_cons.mpr ⟨lw_p60, List.forall_mem_cons.mpr ⟨lw_p61, List.forall_mem_cons.mpr ⟨lw_p62, List.forall_mem_cons.mpr ⟨lw_p63, fun _ h => absurd h List.not_mem_nil⟩⟩⟩⟩⟩⟩⟩⟩⟩⟩⟩⟩⟩⟩⟩⟩
theorem lw_p64 : lw_okq (⟨"CodeJudgeModel", "layParts", "(II)V"⟩, 35) := ⟨⟨by decide +kernel, by decide +kernel⟩, List.mem_of_getElem? (i := 619) (by decide +kernel), List.mem_of_getElem? (i := 983) (by decide +kernel), List.mem_of_getElem? (i := 984) (by decide +kernel)⟩
theorem lw_p65 : lw_okq (⟨"CodeJudgeModel", "isBoth", "(III)Z"⟩, 35) := ⟨⟨by decide +kernel, by decide +kernel⟩, List.mem_of_getElem? (i := 619) (by decide +kernel), List.mem_of_getElem? (i := 987) (by decide +kernel), List.mem_of_getElem? (i := 988) (by decide +kernel)⟩
theorem lw_p66 : lw_okq (⟨"CodeJudgeModel", "goesTo", "(IIII)Z"⟩, 35) := ⟨⟨by decide +kernel, by decide +kernel⟩, List.mem_of_getElem? (i := 619) (by decide +kernel), List.mem_of_getElem? (i := 991) (by decide +kernel), List.mem_of_getElem? (i := 992) (by decide +kernel)⟩
theorem lw_p67 : lw_okq (⟨"CodeJudgeModel", "bothBehind", "(IIII)I"⟩, 35) := ⟨⟨by decide +kernel, by decide +kernel⟩, List.mem_of_getElem? (i := 619) (by decide +kernel), List.mem_of_getElem? (i := 995) (by decide +kernel), List.mem_of_getElem? (i := 996) (by decide +kernel)⟩
theorem lw_p68 : lw_okq (⟨"CodeJudgeModel", "tellsNow", "(III)I"⟩, 35) := ⟨⟨by decide +kernel, by decide +kernel⟩, List.mem_of_getElem? (i := 619) (by decide +kernel), List.mem_of_getElem? (i := 1003) (by decide +kernel), List.mem_of_getElem? (i := 1004) (by decide +kernel)⟩
theorem lw_p69 : lw_okq (⟨"CodeJudgeModel", "leastTo", "(IIII)I"⟩, 35) := ⟨⟨by decide +kernel, by decide +kernel⟩, List.mem_of_getElem? (i := 619) (by decide +kernel), List.mem_of_getElem? (i := 1007) (by decide +kernel), List.mem_of_getElem? (i := 1008) (by decide +kernel)⟩
theorem lw_p70 : lw_okq (⟨"CodeJudgeModel", "areCuts", "()Z"⟩, 35) := ⟨⟨by decide +kernel, by decide +kernel⟩, List.mem_of_getElem? (i := 619) (by decide +kernel), List.mem_of_getElem? (i := 1015) (by decide +kernel), List.mem_of_getElem? (i := 1016) (by decide +kernel)⟩
theorem lw_p71 : lw_okq (⟨"CodeJudgeModel", "layCuts", "()V"⟩, 35) := ⟨⟨by decide +kernel, by decide +kernel⟩, List.mem_of_getElem? (i := 619) (by decide +kernel), List.mem_of_getElem? (i := 1019) (by decide +kernel), List.mem_of_getElem? (i := 1020) (by decide +kernel)⟩
theorem lw_p72 : lw_okq (⟨"CodeJudgeModel", "tryPiece", "(III)V"⟩, 35) := ⟨⟨by decide +kernel, by decide +kernel⟩, List.mem_of_getElem? (i := 619) (by decide +kernel), List.mem_of_getElem? (i := 1023) (by decide +kernel), List.mem_of_getElem? (i := 1024) (by decide +kernel)⟩
theorem lw_p73 : lw_okq (⟨"CodeJudgeModel", "pieceNow", "(II)I"⟩, 35) := ⟨⟨by decide +kernel, by decide +kernel⟩, List.mem_of_getElem? (i := 619) (by decide +kernel), List.mem_of_getElem? (i := 1031) (by decide +kernel), List.mem_of_getElem? (i := 1032) (by decide +kernel)⟩
theorem lw_p74 : lw_okq (⟨"CodeJudgeModel", "howMany", "(I)I"⟩, 35) := ⟨⟨by decide +kernel, by decide +kernel⟩, List.mem_of_getElem? (i := 619) (by decide +kernel), List.mem_of_getElem? (i := 1039) (by decide +kernel), List.mem_of_getElem? (i := 1040) (by decide +kernel)⟩
theorem lw_p75 : lw_okq (⟨"CodeJudgeModel", "aliveMany", "()I"⟩, 35) := ⟨⟨by decide +kernel, by decide +kernel⟩, List.mem_of_getElem? (i := 619) (by decide +kernel), List.mem_of_getElem? (i := 1043) (by decide +kernel), List.mem_of_getElem? (i := 1044) (by decide +kernel)⟩
theorem lw_p76 : lw_okq (⟨"CodeJudgeModel", "validMany", "()I"⟩, 35) := ⟨⟨by decide +kernel, by decide +kernel⟩, List.mem_of_getElem? (i := 619) (by decide +kernel), List.mem_of_getElem? (i := 1047) (by decide +kernel), List.mem_of_getElem? (i := 1048) (by decide +kernel)⟩
theorem lw_p77 : lw_okq (⟨"CodeJudgeModel", "mixCode", "(I)V"⟩, 35) := ⟨⟨by decide +kernel, by decide +kernel⟩, List.mem_of_getElem? (i := 619) (by decide +kernel), List.mem_of_getElem? (i := 1056) (by decide +kernel), List.mem_of_getElem? (i := 1057) (by decide +kernel)⟩
theorem lw_p78 : lw_okq (⟨"CodeJudgeModel", "mix", "(J)V"⟩, 35) := ⟨⟨by decide +kernel, by decide +kernel⟩, List.mem_of_getElem? (i := 619) (by decide +kernel), List.mem_of_getElem? (i := 1060) (by decide +kernel), List.mem_of_getElem? (i := 1061) (by decide +kernel)⟩
theorem lw_p79 : lw_okq (⟨"CodeJudgeModel", "mixCuts", "()V"⟩, 35) := ⟨⟨by decide +kernel, by decide +kernel⟩, List.mem_of_getElem? (i := 619) (by decide +kernel), List.mem_of_getElem? (i := 1065) (by decide +kernel), List.mem_of_getElem? (i := 1066) (by decide +kernel)⟩
def lw_privs_5 : List (MethodName × Nat) := [(⟨"CodeJudgeModel", "layParts", "(II)V"⟩, 35), (⟨"CodeJudgeModel", "isBoth", "(III)Z"⟩, 35), (⟨"CodeJudgeModel", "goesTo", "(IIII)Z"⟩, 35), (⟨"CodeJudgeModel", "bothBehind", "(IIII)I"⟩, 35), (⟨"CodeJudgeModel", "tellsNow", "(III)I"⟩, 35), (⟨"CodeJudgeModel", "leastTo", "(IIII)I"⟩, 35), (⟨"CodeJudgeModel", "areCuts", "()Z"⟩, 35), (⟨"CodeJudgeModel", "layCuts", "()V"⟩, 35), (⟨"CodeJudgeModel", "tryPiece", "(III)V"⟩, 35), (⟨"CodeJudgeModel", "pieceNow", "(II)I"⟩, 35), (⟨"CodeJudgeModel", "howMany", "(I)I"⟩, 35), (⟨"CodeJudgeModel", "aliveMany", "()I"⟩, 35), (⟨"CodeJudgeModel", "validMany", "()I"⟩, 35), (⟨"CodeJudgeModel", "mixCode", "(I)V"⟩, 35), (⟨"CodeJudgeModel", "mix", "(J)V"⟩, 35), (⟨"CodeJudgeModel", "mixCuts", "()V"⟩, 35)]
theorem lw_r5 : ∀ q ∈ lw_privs_5, lw_okq q := List.forall_mem_cons.mpr ⟨lw_p64, List.forall_mem_cons.mpr ⟨lw_p65, List.forall_mem_cons.mpr ⟨lw_p66, List.forall_mem_cons.mpr ⟨lw_p67, List.forall_mem_cons.mpr ⟨lw_p68, List.forall_mem_cons.mpr ⟨lw_p69, List.forall_mem_cons.mpr ⟨lw_p70, List.forall_mem_cons.mpr ⟨lw_p71, List.forall_mem_cons.mpr ⟨lw_p72, List.forall_mem_cons.mpr ⟨lw_p73, List.forall_mem_cons.mpr ⟨lw_p74, List.forall_mem_cons.mpr ⟨lw_p75, List.forall_mem_cons.mpr ⟨lw_p76, List.forall_mem_cons.mpr ⟨lw_p77, List.forall_mem_cons.mpr ⟨lw_p78, List.forall_mem_cons.mpr ⟨lw_p79, fun _ h => absurd h List.not_mem_nil⟩⟩⟩⟩⟩⟩⟩⟩⟩⟩⟩⟩⟩⟩⟩⟩
def lw_privs : List (MethodName × Nat) := lw_privs_1 ++ (lw_privs_2 ++ (lw_privs_3 ++ (lw_privs_4 ++ (lw_privs_5))))
def lw_tbl : List Cond := k2_sels lw_privs ++ tables_1
theorem lw_privs_ok : ∀ q ∈ lw_privs, lw_okq q := by
  show ∀ q ∈ lw_privs_1 ++ (lw_privs_2 ++ (lw_privs_3 ++ (lw_privs_4 ++ (lw_privs_5)))), lw_okq q
  exact List.forall_mem_append.mpr ⟨lw_r1, List.forall_mem_append.mpr ⟨lw_r2, List.forall_mem_append.mpr ⟨lw_r3, List.forall_mem_append.mpr ⟨lw_r4, lw_r5⟩⟩⟩⟩
end
section
def RX0 : String := "CodeJudge$Code"
def TX0 : u_T := fun k => match k with
  | 0 => ("CodeJudge$Code", "text", "[I", true)
  | 1 => ("CodeJudge$Code", "size", "I", false)
  | 2 => ("CodeJudge$Code", "kind", "I", false)
  | 3 => ("CodeJudge$Code", "modes", "I", false)
  | 4 => ("CodeJudge$Code", "digit", "I", false)
  | 5 => ("CodeJudge$Code", "moves", "[I", true)
  | 6 => ("CodeJudge$Code", "nexts", "[I", true)
  | 7 => ("CodeJudge$Code", "gains", "[I", true)
  | 8 => ("CodeJudge$Code", "ways", "[I", true)
  | _ => ("CodeJudge$Code", "longerWays", "[I", true)
def tyX0 : Nat → FieldType := fun k => match k with
  | 0 => .array .int
  | 1 => .int
  | 2 => .int
  | 3 => .int
  | 4 => .int
  | 5 => .array .int
  | 6 => .array .int
  | 7 => .array .int
  | 8 => .array .int
  | _ => .array .int
theorem nmX0 : ∀ a, a < 10 → ∀ b, b < 10 → a ≠ b → (TX0 a).2.1 ≠ (TX0 b).2.1 := by decide +kernel
theorem tyX0_ok : ∀ k, k < 10 → parseFieldDescriptor (TX0 k).2.2.1 = some (tyX0 k) := by decide +kernel
abbrev cX0_init : ByteArray := prog_2_method_1_code
def yX0_init : MethodName := ⟨RX0, "<init>", "()V"⟩
abbrev cX0_load : ByteArray := prog_2_method_2_code
def yX0_load : MethodName := ⟨RX0, "load", "([II)V"⟩
abbrev cX0_modesOf : ByteArray := prog_2_method_3_code
def yX0_modesOf : MethodName := ⟨RX0, "modesOf", "(I)I"⟩
abbrev cX0_layOut : ByteArray := prog_2_method_4_code
def yX0_layOut : MethodName := ⟨RX0, "layOut", "(III)V"⟩
abbrev cX0_moveOf : ByteArray := prog_2_method_5_code
def yX0_moveOf : MethodName := ⟨RX0, "moveOf", "(II)I"⟩
abbrev cX0_signMove : ByteArray := prog_2_method_6_code
def yX0_signMove : MethodName := ⟨RX0, "signMove", "(II)I"⟩
abbrev cX0_beginMove : ByteArray := prog_2_method_7_code
def yX0_beginMove : MethodName := ⟨RX0, "beginMove", "(I)I"⟩
abbrev cX0_wantedMove : ByteArray := prog_2_method_8_code
def yX0_wantedMove : MethodName := ⟨RX0, "wantedMove", "(II)I"⟩
abbrev cX0_markOf : ByteArray := prog_2_method_9_code
def yX0_markOf : MethodName := ⟨RX0, "markOf", "(II)I"⟩
abbrev cX0_kind : ByteArray := prog_2_method_10_code
def yX0_kind : MethodName := ⟨RX0, "kind", "()I"⟩
abbrev cX0_textLength : ByteArray := prog_2_method_11_code
def yX0_textLength : MethodName := ⟨RX0, "textLength", "()I"⟩
abbrev cX0_textAt : ByteArray := prog_2_method_12_code
def yX0_textAt : MethodName := ⟨RX0, "textAt", "(I)I"⟩
abbrev cX0_pointsOf : ByteArray := prog_2_method_13_code
def yX0_pointsOf : MethodName := ⟨RX0, "pointsOf", "(I)I"⟩
abbrev cX0_states : ByteArray := prog_2_method_14_code
def yX0_states : MethodName := ⟨RX0, "states", "()I"⟩
abbrev cX0_modes : ByteArray := prog_2_method_15_code
def yX0_modes : MethodName := ⟨RX0, "modes", "()I"⟩
abbrev cX0_sortPair : ByteArray := prog_2_method_16_code
def yX0_sortPair : MethodName := ⟨RX0, "sortPair", "(II)I"⟩
abbrev cX0_modeOf : ByteArray := prog_2_method_17_code
def yX0_modeOf : MethodName := ⟨RX0, "modeOf", "(I)I"⟩
abbrev cX0_moveIn : ByteArray := prog_2_method_18_code
def yX0_moveIn : MethodName := ⟨RX0, "moveIn", "(II)I"⟩
abbrev cX0_nextMode : ByteArray := prog_2_method_19_code
def yX0_nextMode : MethodName := ⟨RX0, "nextMode", "(II)I"⟩
abbrev cX0_sortEnded : ByteArray := prog_2_method_20_code
def yX0_sortEnded : MethodName := ⟨RX0, "sortEnded", "(II)I"⟩
abbrev cX0_nextState : ByteArray := prog_2_method_21_code
def yX0_nextState : MethodName := ⟨RX0, "nextState", "(II)I"⟩
abbrev cX0_gain : ByteArray := prog_2_method_22_code
def yX0_gain : MethodName := ⟨RX0, "gain", "(II)I"⟩
abbrev cX0_validRows : ByteArray := prog_2_method_23_code
def yX0_validRows : MethodName := ⟨RX0, "validRows", "(I)I"⟩
abbrev cX0_lengthenWays : ByteArray := prog_2_method_24_code
def yX0_lengthenWays : MethodName := ⟨RX0, "lengthenWays", "()V"⟩
def RX1 : String := "CodeJudge$Division"
def TX1 : u_T := fun k => match k with
  | 0 => ("CodeJudge$Division", "worths", "[I", true)
  | 1 => ("CodeJudge$Division", "pieceCounts", "[I", true)
  | 2 => ("CodeJudge$Division", "ends", "[I", true)
  | 3 => ("CodeJudge$Division", "numbers", "[I", true)
  | _ => ("CodeJudge$Division", "weights", "[I", true)
def tyX1 : Nat → FieldType := fun k => match k with
  | 0 => .array .int
  | 1 => .array .int
  | 2 => .array .int
  | 3 => .array .int
  | _ => .array .int
theorem nmX1 : ∀ a, a < 5 → ∀ b, b < 5 → a ≠ b → (TX1 a).2.1 ≠ (TX1 b).2.1 := by decide +kernel
theorem tyX1_ok : ∀ k, k < 5 → parseFieldDescriptor (TX1 k).2.2.1 = some (tyX1 k) := by decide +kernel
abbrev cX1_init : ByteArray := prog_3_method_1_code
def yX1_init : MethodName := ⟨RX1, "<init>", "()V"⟩
abbrev cX1_divide : ByteArray := prog_3_method_2_code
def yX1_divide : MethodName := ⟨RX1, "divide", "([LCodeJudge$Code;I[II)Z"⟩
abbrev cX1_tryPieces : ByteArray := prog_3_method_3_code
def yX1_tryPieces : MethodName := ⟨RX1, "tryPieces", "(LCodeJudge$Code;I[III)V"⟩
abbrev cX1_tryPiece : ByteArray := prog_3_method_4_code
def yX1_tryPiece : MethodName := ⟨RX1, "tryPiece", "(IIIII)V"⟩
abbrev cX1_isBetter : ByteArray := prog_3_method_5_code
def yX1_isBetter : MethodName := ⟨RX1, "isBetter", "(IIIII)Z"⟩
abbrev cX1_worth : ByteArray := prog_3_method_6_code
def yX1_worth : MethodName := ⟨RX1, "worth", "()I"⟩
abbrev cX1_pieceCount : ByteArray := prog_3_method_7_code
def yX1_pieceCount : MethodName := ⟨RX1, "pieceCount", "()I"⟩
abbrev cX1_propertyOf : ByteArray := prog_3_method_8_code
def yX1_propertyOf : MethodName := ⟨RX1, "propertyOf", "(II)I"⟩
def RX2 : String := "CodeJudge$Grammar"
def TX2 : u_T := fun k => match k with
  | _ => ("", "", "", false)
def tyX2 : Nat → FieldType := fun k => match k with
  | _ => .int
theorem nmX2 : ∀ a, a < 0 → ∀ b, b < 0 → a ≠ b → (TX2 a).2.1 ≠ (TX2 b).2.1 := by decide +kernel
theorem tyX2_ok : ∀ k, k < 0 → parseFieldDescriptor (TX2 k).2.2.1 = some (tyX2 k) := by decide +kernel
abbrev cX2_kindOf : ByteArray := prog_4_method_2_code
def yX2_kindOf : MethodName := ⟨RX2, "kindOf", "(I)I"⟩
abbrev cX2_marksBegin : ByteArray := prog_4_method_3_code
def yX2_marksBegin : MethodName := ⟨RX2, "marksBegin", "(I)I"⟩
abbrev cX2_pointsBegin : ByteArray := prog_4_method_4_code
def yX2_pointsBegin : MethodName := ⟨RX2, "pointsBegin", "(I)I"⟩
abbrev cX2_textLength : ByteArray := prog_4_method_5_code
def yX2_textLength : MethodName := ⟨RX2, "textLength", "(I)I"⟩
abbrev cX2_firstFault : ByteArray := prog_4_method_6_code
def yX2_firstFault : MethodName := ⟨RX2, "firstFault", "([II)I"⟩
abbrev cX2_isWhole : ByteArray := prog_4_method_7_code
def yX2_isWhole : MethodName := ⟨RX2, "isWhole", "([II)Z"⟩
abbrev cX2_fits : ByteArray := prog_4_method_8_code
def yX2_fits : MethodName := ⟨RX2, "fits", "(III)Z"⟩
abbrev cX2_isMark : ByteArray := prog_4_method_9_code
def yX2_isMark : MethodName := ⟨RX2, "isMark", "(II)Z"⟩
def RX3 : String := "CodeJudge$Outlook"
def TX3 : u_T := fun k => match k with
  | 0 => ("CodeJudge$Outlook", "leads", "[I", true)
  | _ => ("CodeJudge$Outlook", "longerLeads", "[I", true)
def tyX3 : Nat → FieldType := fun k => match k with
  | 0 => .array .int
  | _ => .array .int
theorem nmX3 : ∀ a, a < 2 → ∀ b, b < 2 → a ≠ b → (TX3 a).2.1 ≠ (TX3 b).2.1 := by decide +kernel
theorem tyX3_ok : ∀ k, k < 2 → parseFieldDescriptor (TX3 k).2.2.1 = some (tyX3 k) := by decide +kernel
abbrev cX3_init : ByteArray := prog_5_method_1_code
def yX3_init : MethodName := ⟨RX3, "<init>", "()V"⟩
abbrev cX3_lastHope : ByteArray := prog_5_method_2_code
def yX3_lastHope : MethodName := ⟨RX3, "lastHope", "(LCodeJudge$Reading;I)I"⟩
abbrev cX3_oneUnitEarlier : ByteArray := prog_5_method_3_code
def yX3_oneUnitEarlier : MethodName := ⟨RX3, "oneUnitEarlier", "(LCodeJudge$Code;I)I"⟩
abbrev cX3_lastBeaten : ByteArray := prog_5_method_4_code
def yX3_lastBeaten : MethodName := ⟨RX3, "lastBeaten", "(LCodeJudge$Reading;LCodeJudge$Reading;IZ)I"⟩
abbrev cX3_beginAtEnd : ByteArray := prog_5_method_5_code
def yX3_beginAtEnd : MethodName := ⟨RX3, "beginAtEnd", "()V"⟩
abbrev cX3_leadAt : ByteArray := prog_5_method_6_code
def yX3_leadAt : MethodName := ⟨RX3, "leadAt", "(II)I"⟩
abbrev cX3_lengthen : ByteArray := prog_5_method_7_code
def yX3_lengthen : MethodName := ⟨RX3, "lengthen", "(LCodeJudge$Code;LCodeJudge$Code;)V"⟩
abbrev cX3_lengthenBy : ByteArray := prog_5_method_8_code
def yX3_lengthenBy : MethodName := ⟨RX3, "lengthenBy", "(IIIILCodeJudge$Code;)V"⟩
def RX4 : String := "CodeJudge$Parting"
def TX4 : u_T := fun k => match k with
  | 0 => ("CodeJudge$Parting", "queue", "[I", true)
  | 1 => ("CodeJudge$Parting", "parents", "[I", true)
  | 2 => ("CodeJudge$Parting", "lastUnits", "[I", true)
  | 3 => ("CodeJudge$Parting", "row", "[I", true)
  | 4 => ("CodeJudge$Parting", "queued", "I", false)
  | _ => ("CodeJudge$Parting", "rowLength", "I", false)
def tyX4 : Nat → FieldType := fun k => match k with
  | 0 => .array .int
  | 1 => .array .int
  | 2 => .array .int
  | 3 => .array .int
  | 4 => .int
  | _ => .int
theorem nmX4 : ∀ a, a < 6 → ∀ b, b < 6 → a ≠ b → (TX4 a).2.1 ≠ (TX4 b).2.1 := by decide +kernel
theorem tyX4_ok : ∀ k, k < 6 → parseFieldDescriptor (TX4 k).2.2.1 = some (tyX4 k) := by decide +kernel
abbrev cX4_init : ByteArray := prog_6_method_1_code
def yX4_init : MethodName := ⟨RX4, "<init>", "()V"⟩
abbrev cX4_search : ByteArray := prog_6_method_2_code
def yX4_search : MethodName := ⟨RX4, "search", "(LCodeJudge$Code;LCodeJudge$Code;)Z"⟩
abbrev cX4_parts : ByteArray := prog_6_method_3_code
def yX4_parts : MethodName := ⟨RX4, "parts", "(I)Z"⟩
abbrev cX4_expand : ByteArray := prog_6_method_4_code
def yX4_expand : MethodName := ⟨RX4, "expand", "(ILCodeJudge$Code;LCodeJudge$Code;)V"⟩
abbrev cX4_reach : ByteArray := prog_6_method_5_code
def yX4_reach : MethodName := ⟨RX4, "reach", "(III)V"⟩
abbrev cX4_writeRow : ByteArray := prog_6_method_6_code
def yX4_writeRow : MethodName := ⟨RX4, "writeRow", "(I)V"⟩
abbrev cX4_rowLength : ByteArray := prog_6_method_7_code
def yX4_rowLength : MethodName := ⟨RX4, "rowLength", "()I"⟩
abbrev cX4_rowUnit : ByteArray := prog_6_method_8_code
def yX4_rowUnit : MethodName := ⟨RX4, "rowUnit", "(I)I"⟩
def RX5 : String := "CodeJudge$Reading"
def TX5 : u_T := fun k => match k with
  | 0 => ("CodeJudge$Reading", "code", "LCodeJudge$Code;", true)
  | 1 => ("CodeJudge$Reading", "states", "[I", true)
  | 2 => ("CodeJudge$Reading", "weights", "[I", true)
  | 3 => ("CodeJudge$Reading", "pairCounts", "[I", true)
  | 4 => ("CodeJudge$Reading", "signs", "I", false)
  | 5 => ("CodeJudge$Reading", "allowed", "I", false)
  | _ => ("CodeJudge$Reading", "alive", "Z", false)
def tyX5 : Nat → FieldType := fun k => match k with
  | 0 => .object "CodeJudge$Code"
  | 1 => .array .int
  | 2 => .array .int
  | 3 => .array .int
  | 4 => .int
  | 5 => .int
  | _ => .boolean
theorem nmX5 : ∀ a, a < 7 → ∀ b, b < 7 → a ≠ b → (TX5 a).2.1 ≠ (TX5 b).2.1 := by decide +kernel
theorem tyX5_ok : ∀ k, k < 7 → parseFieldDescriptor (TX5 k).2.2.1 = some (tyX5 k) := by decide +kernel
abbrev cX5_init : ByteArray := prog_7_method_1_code
def yX5_init : MethodName := ⟨RX5, "<init>", "(LCodeJudge$Code;)V"⟩
abbrev cX5_follow : ByteArray := prog_7_method_2_code
def yX5_follow : MethodName := ⟨RX5, "follow", "([II)V"⟩
abbrev cX5_take : ByteArray := prog_7_method_3_code
def yX5_take : MethodName := ⟨RX5, "take", "(II)V"⟩
abbrev cX5_countPair : ByteArray := prog_7_method_4_code
def yX5_countPair : MethodName := ⟨RX5, "countPair", "(II)V"⟩
abbrev cX5_isAlive : ByteArray := prog_7_method_5_code
def yX5_isAlive : MethodName := ⟨RX5, "isAlive", "()Z"⟩
abbrev cX5_isValid : ByteArray := prog_7_method_6_code
def yX5_isValid : MethodName := ⟨RX5, "isValid", "()Z"⟩
abbrev cX5_group : ByteArray := prog_7_method_7_code
def yX5_group : MethodName := ⟨RX5, "group", "()I"⟩
abbrev cX5_signCount : ByteArray := prog_7_method_8_code
def yX5_signCount : MethodName := ⟨RX5, "signCount", "()I"⟩
abbrev cX5_weight : ByteArray := prog_7_method_9_code
def yX5_weight : MethodName := ⟨RX5, "weight", "()I"⟩
abbrev cX5_allowedUnits : ByteArray := prog_7_method_10_code
def yX5_allowedUnits : MethodName := ⟨RX5, "allowedUnits", "()I"⟩
abbrev cX5_pairCount : ByteArray := prog_7_method_11_code
def yX5_pairCount : MethodName := ⟨RX5, "pairCount", "(I)I"⟩
abbrev cX5_stateAt : ByteArray := prog_7_method_12_code
def yX5_stateAt : MethodName := ⟨RX5, "stateAt", "(I)I"⟩
abbrev cX5_weightAt : ByteArray := prog_7_method_13_code
def yX5_weightAt : MethodName := ⟨RX5, "weightAt", "(I)I"⟩
def RX6 : String := "CodeJudge"
def TX6 : u_T := fun k => match k with
  | 0 => ("CodeJudge", "page", "[I", true)
  | 1 => ("CodeJudge", "pageLength", "I", false)
  | 2 => ("CodeJudge", "units", "[I", true)
  | 3 => ("CodeJudge", "come", "I", false)
  | 4 => ("CodeJudge", "length", "I", false)
  | 5 => ("CodeJudge", "codes", "[LCodeJudge$Code;", true)
  | 6 => ("CodeJudge", "readings", "[LCodeJudge$Reading;", true)
  | 7 => ("CodeJudge", "codeCount", "I", false)
  | 8 => ("CodeJudge", "codesEver", "I", false)
  | 9 => ("CodeJudge", "unitsEver", "I", false)
  | 10 => ("CodeJudge", "outlook", "LCodeJudge$Outlook;", true)
  | 11 => ("CodeJudge", "parting", "LCodeJudge$Parting;", true)
  | _ => ("CodeJudge", "division", "LCodeJudge$Division;", true)
def tyX6 : Nat → FieldType := fun k => match k with
  | 0 => .array .int
  | 1 => .int
  | 2 => .array .int
  | 3 => .int
  | 4 => .int
  | 5 => .array (.object "CodeJudge$Code")
  | 6 => .array (.object "CodeJudge$Reading")
  | 7 => .int
  | 8 => .int
  | 9 => .int
  | 10 => .object "CodeJudge$Outlook"
  | 11 => .object "CodeJudge$Parting"
  | _ => .object "CodeJudge$Division"
theorem nmX6 : ∀ a, a < 13 → ∀ b, b < 13 → a ≠ b → (TX6 a).2.1 ≠ (TX6 b).2.1 := by decide +kernel
theorem tyX6_ok : ∀ k, k < 13 → parseFieldDescriptor (TX6 k).2.2.1 = some (tyX6 k) := by decide +kernel
abbrev cX6_init : ByteArray := prog_1_method_1_code
def yX6_init : MethodName := ⟨RX6, "<init>", "()V"⟩
abbrev cX6_letter : ByteArray := prog_1_method_2_code
def yX6_letter : MethodName := ⟨RX6, "letter", "(I)I"⟩
abbrev cX6_blank : ByteArray := prog_1_method_3_code
def yX6_blank : MethodName := ⟨RX6, "blank", "()I"⟩
abbrev cX6_fault : ByteArray := prog_1_method_4_code
def yX6_fault : MethodName := ⟨RX6, "fault", "()I"⟩
abbrev cX6_code : ByteArray := prog_1_method_5_code
def yX6_code : MethodName := ⟨RX6, "code", "()I"⟩
abbrev cX6_drop : ByteArray := prog_1_method_6_code
def yX6_drop : MethodName := ⟨RX6, "drop", "()I"⟩
abbrev cX6_ink : ByteArray := prog_1_method_7_code
def yX6_ink : MethodName := ⟨RX6, "ink", "(II)I"⟩
abbrev cX6_open : ByteArray := prog_1_method_8_code
def yX6_open : MethodName := ⟨RX6, "open", "(I)I"⟩
abbrev cX6_feed : ByteArray := prog_1_method_9_code
def yX6_feed : MethodName := ⟨RX6, "feed", "(I)I"⟩
abbrev cX6_feeds : ByteArray := prog_1_method_10_code
def yX6_feeds : MethodName := ⟨RX6, "feeds", "()I"⟩
abbrev cX6_back : ByteArray := prog_1_method_11_code
def yX6_back : MethodName := ⟨RX6, "back", "()I"⟩
abbrev cX6_unit : ByteArray := prog_1_method_12_code
def yX6_unit : MethodName := ⟨RX6, "unit", "(I)I"⟩
abbrev cX6_about : ByteArray := prog_1_method_13_code
def yX6_about : MethodName := ⟨RX6, "about", "(II)I"⟩
abbrev cX6_points : ByteArray := prog_1_method_14_code
def yX6_points : MethodName := ⟨RX6, "points", "(II)I"⟩
abbrev cX6_pairs : ByteArray := prog_1_method_15_code
def yX6_pairs : MethodName := ⟨RX6, "pairs", "(II)I"⟩
abbrev cX6_judged : ByteArray := prog_1_method_16_code
def yX6_judged : MethodName := ⟨RX6, "judged", "()I"⟩
abbrev cX6_rank : ByteArray := prog_1_method_17_code
def yX6_rank : MethodName := ⟨RX6, "rank", "(I)I"⟩
abbrev cX6_rows : ByteArray := prog_1_method_18_code
def yX6_rows : MethodName := ⟨RX6, "rows", "(II)I"⟩
abbrev cX6_apart : ByteArray := prog_1_method_19_code
def yX6_apart : MethodName := ⟨RX6, "apart", "(II)I"⟩
abbrev cX6_tells : ByteArray := prog_1_method_20_code
def yX6_tells : MethodName := ⟨RX6, "tells", "(III)I"⟩
abbrev cX6_cuts : ByteArray := prog_1_method_21_code
def yX6_cuts : MethodName := ⟨RX6, "cuts", "(I)I"⟩
abbrev cX6_piece : ByteArray := prog_1_method_22_code
def yX6_piece : MethodName := ⟨RX6, "piece", "(II)I"⟩
abbrev cX6_count : ByteArray := prog_1_method_23_code
def yX6_count : MethodName := ⟨RX6, "count", "(I)I"⟩
abbrev cX6_digest : ByteArray := prog_1_method_24_code
def yX6_digest : MethodName := ⟨RX6, "digest", "()J"⟩
abbrev cX6_fold : ByteArray := prog_1_method_25_code
def yX6_fold : MethodName := ⟨RX6, "fold", "(JJ)J"⟩
abbrev cX6_foldCode : ByteArray := prog_1_method_26_code
def yX6_foldCode : MethodName := ⟨RX6, "foldCode", "(JI)J"⟩
abbrev cX6_foldDivision : ByteArray := prog_1_method_27_code
def yX6_foldDivision : MethodName := ⟨RX6, "foldDivision", "(J)J"⟩
abbrev cX6_isCode : ByteArray := prog_1_method_28_code
def yX6_isCode : MethodName := ⟨RX6, "isCode", "(I)Z"⟩
abbrev cX6_isUnit : ByteArray := prog_1_method_29_code
def yX6_isUnit : MethodName := ⟨RX6, "isUnit", "(I)Z"⟩
abbrev cX6_isSortPair : ByteArray := prog_1_method_30_code
def yX6_isSortPair : MethodName := ⟨RX6, "isSortPair", "(I)Z"⟩
abbrev cX6_letCome : ByteArray := prog_1_method_31_code
def yX6_letCome : MethodName := ⟨RX6, "letCome", "(I)V"⟩
abbrev cX6_readAgain : ByteArray := prog_1_method_32_code
def yX6_readAgain : MethodName := ⟨RX6, "readAgain", "()V"⟩
abbrev cX6_aliveCodes : ByteArray := prog_1_method_33_code
def yX6_aliveCodes : MethodName := ⟨RX6, "aliveCodes", "()I"⟩
abbrev cX6_validCodes : ByteArray := prog_1_method_34_code
def yX6_validCodes : MethodName := ⟨RX6, "validCodes", "()I"⟩
abbrev cX6_placeInRanking : ByteArray := prog_1_method_35_code
def yX6_placeInRanking : MethodName := ⟨RX6, "placeInRanking", "(I)I"⟩
abbrev cX6_isAhead : ByteArray := prog_1_method_36_code
def yX6_isAhead : MethodName := ⟨RX6, "isAhead", "(II)Z"⟩
abbrev cX6_firstSure : ByteArray := prog_1_method_37_code
def yX6_firstSure : MethodName := ⟨RX6, "firstSure", "(I)I"⟩
def RX7 : String := "CodeJudgeModel"
def TX7 : u_T := fun k => match k with
  | 0 => ("CodeJudgeModel", "codes", "I", false)
  | 1 => ("CodeJudgeModel", "kind", "[I", true)
  | 2 => ("CodeJudgeModel", "digit", "[I", true)
  | 3 => ("CodeJudgeModel", "marks", "[I", true)
  | 4 => ("CodeJudgeModel", "points", "[I", true)
  | 5 => ("CodeJudgeModel", "codesEver", "I", false)
  | 6 => ("CodeJudgeModel", "unitsEver", "I", false)
  | 7 => ("CodeJudgeModel", "length", "I", false)
  | 8 => ("CodeJudgeModel", "came", "I", false)
  | 9 => ("CodeJudgeModel", "unitAt", "[I", true)
  | 10 => ("CodeJudgeModel", "pageLength", "I", false)
  | 11 => ("CodeJudgeModel", "page", "[I", true)
  | 12 => ("CodeJudgeModel", "newKind", "I", false)
  | 13 => ("CodeJudgeModel", "sortNow", "I", false)
  | 14 => ("CodeJudgeModel", "stateNow", "I", false)
  | 15 => ("CodeJudgeModel", "lastNow", "I", false)
  | 16 => ("CodeJudgeModel", "signsNow", "I", false)
  | 17 => ("CodeJudgeModel", "weightNow", "I", false)
  | 18 => ("CodeJudgeModel", "stoodNow", "I", false)
  | 19 => ("CodeJudgeModel", "pairsNow", "[I", true)
  | 20 => ("CodeJudgeModel", "more", "[I", true)
  | 21 => ("CodeJudgeModel", "moreNext", "[I", true)
  | 22 => ("CodeJudgeModel", "isSure", "[Z", true)
  | 23 => ("CodeJudgeModel", "can", "[Z", true)
  | 24 => ("CodeJudgeModel", "canNext", "[Z", true)
  | 25 => ("CodeJudgeModel", "gained", "I", false)
  | 26 => ("CodeJudgeModel", "ways", "[I", true)
  | 27 => ("CodeJudgeModel", "waysNext", "[I", true)
  | 28 => ("CodeJudgeModel", "parts", "[I", true)
  | 29 => ("CodeJudgeModel", "worth", "[I", true)
  | 30 => ("CodeJudgeModel", "pieces", "[I", true)
  | 31 => ("CodeJudgeModel", "endAt", "[I", true)
  | 32 => ("CodeJudgeModel", "codeAt", "[I", true)
  | 33 => ("CodeJudgeModel", "weightAt", "[I", true)
  | _ => ("CodeJudgeModel", "h", "J", false)
def tyX7 : Nat → FieldType := fun k => match k with
  | 0 => .int
  | 1 => .array .int
  | 2 => .array .int
  | 3 => .array .int
  | 4 => .array .int
  | 5 => .int
  | 6 => .int
  | 7 => .int
  | 8 => .int
  | 9 => .array .int
  | 10 => .int
  | 11 => .array .int
  | 12 => .int
  | 13 => .int
  | 14 => .int
  | 15 => .int
  | 16 => .int
  | 17 => .int
  | 18 => .int
  | 19 => .array .int
  | 20 => .array .int
  | 21 => .array .int
  | 22 => .array .boolean
  | 23 => .array .boolean
  | 24 => .array .boolean
  | 25 => .int
  | 26 => .array .int
  | 27 => .array .int
  | 28 => .array .int
  | 29 => .array .int
  | 30 => .array .int
  | 31 => .array .int
  | 32 => .array .int
  | 33 => .array .int
  | _ => .long
theorem nmX7 : ∀ a, a < 35 → ∀ b, b < 35 → a ≠ b → (TX7 a).2.1 ≠ (TX7 b).2.1 := by decide +kernel
theorem tyX7_ok : ∀ k, k < 35 → parseFieldDescriptor (TX7 k).2.2.1 = some (tyX7 k) := by decide +kernel
abbrev cX7_init : ByteArray := prog_9_method_1_code
def yX7_init : MethodName := ⟨RX7, "<init>", "()V"⟩
abbrev cX7_within : ByteArray := prog_9_method_3_code
def yX7_within : MethodName := ⟨RX7, "within", "(III)Z"⟩
abbrev cX7_letter : ByteArray := prog_9_method_4_code
def yX7_letter : MethodName := ⟨RX7, "letter", "(I)I"⟩
abbrev cX7_blank : ByteArray := prog_9_method_5_code
def yX7_blank : MethodName := ⟨RX7, "blank", "()I"⟩
abbrev cX7_kindBy : ByteArray := prog_9_method_6_code
def yX7_kindBy : MethodName := ⟨RX7, "kindBy", "(I)I"⟩
abbrev cX7_markBy : ByteArray := prog_9_method_7_code
def yX7_markBy : MethodName := ⟨RX7, "markBy", "(II)I"⟩
abbrev cX7_markLetter : ByteArray := prog_9_method_8_code
def yX7_markLetter : MethodName := ⟨RX7, "markLetter", "(I)I"⟩
abbrev cX7_digitsOf : ByteArray := prog_9_method_9_code
def yX7_digitsOf : MethodName := ⟨RX7, "digitsOf", "(I)I"⟩
abbrev cX7_marksOf : ByteArray := prog_9_method_10_code
def yX7_marksOf : MethodName := ⟨RX7, "marksOf", "(I)I"⟩
abbrev cX7_lettersOf : ByteArray := prog_9_method_11_code
def yX7_lettersOf : MethodName := ⟨RX7, "lettersOf", "(I)I"⟩
abbrev cX7_fitsAt : ByteArray := prog_9_method_12_code
def yX7_fitsAt : MethodName := ⟨RX7, "fitsAt", "(II)Z"⟩
abbrev cX7_read : ByteArray := prog_9_method_13_code
def yX7_read : MethodName := ⟨RX7, "read", "()I"⟩
abbrev cX7_fault : ByteArray := prog_9_method_14_code
def yX7_fault : MethodName := ⟨RX7, "fault", "()I"⟩
abbrev cX7_layCode : ByteArray := prog_9_method_15_code
def yX7_layCode : MethodName := ⟨RX7, "layCode", "(I)V"⟩
abbrev cX7_code : ByteArray := prog_9_method_16_code
def yX7_code : MethodName := ⟨RX7, "code", "()I"⟩
abbrev cX7_drop : ByteArray := prog_9_method_17_code
def yX7_drop : MethodName := ⟨RX7, "drop", "()I"⟩
abbrev cX7_letterOf : ByteArray := prog_9_method_18_code
def yX7_letterOf : MethodName := ⟨RX7, "letterOf", "(I)I"⟩
abbrev cX7_inkNow : ByteArray := prog_9_method_19_code
def yX7_inkNow : MethodName := ⟨RX7, "inkNow", "(II)I"⟩
abbrev cX7_isCode : ByteArray := prog_9_method_20_code
def yX7_isCode : MethodName := ⟨RX7, "isCode", "(I)Z"⟩
abbrev cX7_ink : ByteArray := prog_9_method_21_code
def yX7_ink : MethodName := ⟨RX7, "ink", "(II)I"⟩
abbrev cX7_open : ByteArray := prog_9_method_22_code
def yX7_open : MethodName := ⟨RX7, "open", "(I)I"⟩
abbrev cX7_comes : ByteArray := prog_9_method_23_code
def yX7_comes : MethodName := ⟨RX7, "comes", "(I)V"⟩
abbrev cX7_feed : ByteArray := prog_9_method_24_code
def yX7_feed : MethodName := ⟨RX7, "feed", "(I)I"⟩
abbrev cX7_feeds : ByteArray := prog_9_method_25_code
def yX7_feeds : MethodName := ⟨RX7, "feeds", "()I"⟩
abbrev cX7_back : ByteArray := prog_9_method_26_code
def yX7_back : MethodName := ⟨RX7, "back", "()I"⟩
abbrev cX7_unit : ByteArray := prog_9_method_27_code
def yX7_unit : MethodName := ⟨RX7, "unit", "(I)I"⟩
abbrev cX7_ends : ByteArray := prog_9_method_28_code
def yX7_ends : MethodName := ⟨RX7, "ends", "(II)I"⟩
abbrev cX7_stepCounted : ByteArray := prog_9_method_29_code
def yX7_stepCounted : MethodName := ⟨RX7, "stepCounted", "(II)I"⟩
abbrev cX7_stepTurned : ByteArray := prog_9_method_30_code
def yX7_stepTurned : MethodName := ⟨RX7, "stepTurned", "(III)I"⟩
abbrev cX7_step : ByteArray := prog_9_method_31_code
def yX7_step : MethodName := ⟨RX7, "step", "(III)I"⟩
abbrev cX7_begin : ByteArray := prog_9_method_32_code
def yX7_begin : MethodName := ⟨RX7, "begin", "()V"⟩
abbrev cX7_goOn : ByteArray := prog_9_method_33_code
def yX7_goOn : MethodName := ⟨RX7, "goOn", "(II)V"⟩
abbrev cX7_goAlong : ByteArray := prog_9_method_34_code
def yX7_goAlong : MethodName := ⟨RX7, "goAlong", "(II)V"⟩
abbrev cX7_isAlive : ByteArray := prog_9_method_35_code
def yX7_isAlive : MethodName := ⟨RX7, "isAlive", "(I)Z"⟩
abbrev cX7_isValid : ByteArray := prog_9_method_36_code
def yX7_isValid : MethodName := ⟨RX7, "isValid", "(I)Z"⟩
abbrev cX7_weightOf : ByteArray := prog_9_method_37_code
def yX7_weightOf : MethodName := ⟨RX7, "weightOf", "(I)I"⟩
abbrev cX7_judgedNow : ByteArray := prog_9_method_38_code
def yX7_judgedNow : MethodName := ⟨RX7, "judgedNow", "()I"⟩
abbrev cX7_rankKey : ByteArray := prog_9_method_39_code
def yX7_rankKey : MethodName := ⟨RX7, "rankKey", "(I)I"⟩
abbrev cX7_isAhead : ByteArray := prog_9_method_40_code
def yX7_isAhead : MethodName := ⟨RX7, "isAhead", "(II)Z"⟩
abbrev cX7_rankOf : ByteArray := prog_9_method_41_code
def yX7_rankOf : MethodName := ⟨RX7, "rankOf", "(I)I"⟩
abbrev cX7_placeOf : ByteArray := prog_9_method_42_code
def yX7_placeOf : MethodName := ⟨RX7, "placeOf", "(II)I"⟩
abbrev cX7_gain : ByteArray := prog_9_method_43_code
def yX7_gain : MethodName := ⟨RX7, "gain", "(II)I"⟩
abbrev cX7_placeBehind : ByteArray := prog_9_method_44_code
def yX7_placeBehind : MethodName := ⟨RX7, "placeBehind", "(III)I"⟩
abbrev cX7_moreBy : ByteArray := prog_9_method_45_code
def yX7_moreBy : MethodName := ⟨RX7, "moreBy", "(IIII)I"⟩
abbrev cX7_isState : ByteArray := prog_9_method_46_code
def yX7_isState : MethodName := ⟨RX7, "isState", "(II)Z"⟩
abbrev cX7_goBack : ByteArray := prog_9_method_47_code
def yX7_goBack : MethodName := ⟨RX7, "goBack", "(II)V"⟩
abbrev cX7_beginBack : ByteArray := prog_9_method_48_code
def yX7_beginBack : MethodName := ⟨RX7, "beginBack", "()V"⟩
abbrev cX7_canLose : ByteArray := prog_9_method_49_code
def yX7_canLose : MethodName := ⟨RX7, "canLose", "(III)Z"⟩
abbrev cX7_layLoses : ByteArray := prog_9_method_50_code
def yX7_layLoses : MethodName := ⟨RX7, "layLoses", "(II)V"⟩
abbrev cX7_layCan : ByteArray := prog_9_method_51_code
def yX7_layCan : MethodName := ⟨RX7, "layCan", "(I)V"⟩
abbrev cX7_goBackCan : ByteArray := prog_9_method_52_code
def yX7_goBackCan : MethodName := ⟨RX7, "goBackCan", "(I)V"⟩
abbrev cX7_sureAt : ByteArray := prog_9_method_53_code
def yX7_sureAt : MethodName := ⟨RX7, "sureAt", "(I)I"⟩
abbrev cX7_signsOf : ByteArray := prog_9_method_54_code
def yX7_signsOf : MethodName := ⟨RX7, "signsOf", "(I)I"⟩
abbrev cX7_firstBad : ByteArray := prog_9_method_55_code
def yX7_firstBad : MethodName := ⟨RX7, "firstBad", "(I)I"⟩
abbrev cX7_aboutNow : ByteArray := prog_9_method_56_code
def yX7_aboutNow : MethodName := ⟨RX7, "aboutNow", "(II)I"⟩
abbrev cX7_about : ByteArray := prog_9_method_57_code
def yX7_about : MethodName := ⟨RX7, "about", "(II)I"⟩
abbrev cX7_points : ByteArray := prog_9_method_58_code
def yX7_points : MethodName := ⟨RX7, "points", "(II)I"⟩
abbrev cX7_pairsOf : ByteArray := prog_9_method_59_code
def yX7_pairsOf : MethodName := ⟨RX7, "pairsOf", "(II)I"⟩
abbrev cX7_pairs : ByteArray := prog_9_method_60_code
def yX7_pairs : MethodName := ⟨RX7, "pairs", "(II)I"⟩
abbrev cX7_judged : ByteArray := prog_9_method_61_code
def yX7_judged : MethodName := ⟨RX7, "judged", "()I"⟩
abbrev cX7_rank : ByteArray := prog_9_method_62_code
def yX7_rank : MethodName := ⟨RX7, "rank", "(I)I"⟩
abbrev cX7_oneMore : ByteArray := prog_9_method_63_code
def yX7_oneMore : MethodName := ⟨RX7, "oneMore", "(I)V"⟩
abbrev cX7_rowsNow : ByteArray := prog_9_method_64_code
def yX7_rowsNow : MethodName := ⟨RX7, "rowsNow", "(II)I"⟩
abbrev cX7_rows : ByteArray := prog_9_method_65_code
def yX7_rows : MethodName := ⟨RX7, "rows", "(II)I"⟩
abbrev cX7_bothBehind : ByteArray := prog_9_method_66_code
def yX7_bothBehind : MethodName := ⟨RX7, "bothBehind", "(IIII)I"⟩
abbrev cX7_goesTo : ByteArray := prog_9_method_67_code
def yX7_goesTo : MethodName := ⟨RX7, "goesTo", "(IIII)Z"⟩
abbrev cX7_isBoth : ByteArray := prog_9_method_68_code
def yX7_isBoth : MethodName := ⟨RX7, "isBoth", "(III)Z"⟩
abbrev cX7_layParts : ByteArray := prog_9_method_69_code
def yX7_layParts : MethodName := ⟨RX7, "layParts", "(II)V"⟩
abbrev cX7_apartNow : ByteArray := prog_9_method_70_code
def yX7_apartNow : MethodName := ⟨RX7, "apartNow", "(II)I"⟩
abbrev cX7_apart : ByteArray := prog_9_method_71_code
def yX7_apart : MethodName := ⟨RX7, "apart", "(II)I"⟩
abbrev cX7_leastTo : ByteArray := prog_9_method_72_code
def yX7_leastTo : MethodName := ⟨RX7, "leastTo", "(IIII)I"⟩
abbrev cX7_tellsNow : ByteArray := prog_9_method_73_code
def yX7_tellsNow : MethodName := ⟨RX7, "tellsNow", "(III)I"⟩
abbrev cX7_tells : ByteArray := prog_9_method_74_code
def yX7_tells : MethodName := ⟨RX7, "tells", "(III)I"⟩
abbrev cX7_tryPiece : ByteArray := prog_9_method_75_code
def yX7_tryPiece : MethodName := ⟨RX7, "tryPiece", "(III)V"⟩
abbrev cX7_layCuts : ByteArray := prog_9_method_76_code
def yX7_layCuts : MethodName := ⟨RX7, "layCuts", "()V"⟩
abbrev cX7_areCuts : ByteArray := prog_9_method_77_code
def yX7_areCuts : MethodName := ⟨RX7, "areCuts", "()Z"⟩
abbrev cX7_cuts : ByteArray := prog_9_method_78_code
def yX7_cuts : MethodName := ⟨RX7, "cuts", "(I)I"⟩
abbrev cX7_pieceNow : ByteArray := prog_9_method_79_code
def yX7_pieceNow : MethodName := ⟨RX7, "pieceNow", "(II)I"⟩
abbrev cX7_piece : ByteArray := prog_9_method_80_code
def yX7_piece : MethodName := ⟨RX7, "piece", "(II)I"⟩
abbrev cX7_aliveMany : ByteArray := prog_9_method_81_code
def yX7_aliveMany : MethodName := ⟨RX7, "aliveMany", "()I"⟩
abbrev cX7_validMany : ByteArray := prog_9_method_82_code
def yX7_validMany : MethodName := ⟨RX7, "validMany", "()I"⟩
abbrev cX7_howMany : ByteArray := prog_9_method_83_code
def yX7_howMany : MethodName := ⟨RX7, "howMany", "(I)I"⟩
abbrev cX7_count : ByteArray := prog_9_method_84_code
def yX7_count : MethodName := ⟨RX7, "count", "(I)I"⟩
abbrev cX7_mix : ByteArray := prog_9_method_85_code
def yX7_mix : MethodName := ⟨RX7, "mix", "(J)V"⟩
abbrev cX7_mixCode : ByteArray := prog_9_method_86_code
def yX7_mixCode : MethodName := ⟨RX7, "mixCode", "(I)V"⟩
abbrev cX7_mixCuts : ByteArray := prog_9_method_87_code
def yX7_mixCuts : MethodName := ⟨RX7, "mixCuts", "()V"⟩
abbrev cX7_digest : ByteArray := prog_9_method_88_code
def yX7_digest : MethodName := ⟨RX7, "digest", "()J"⟩
def RJ9 : String := "java/lang/Math"
def TJ9 : u_T := fun k => match k with
  | _ => ("", "", "", false)
def tyJ9 : Nat → FieldType := fun k => match k with
  | _ => .int
theorem nmJ9 : ∀ a, a < 0 → ∀ b, b < 0 → a ≠ b → (TJ9 a).2.1 ≠ (TJ9 b).2.1 := by decide +kernel
theorem tyJ9_ok : ∀ k, k < 0 → parseFieldDescriptor (TJ9 k).2.2.1 = some (tyJ9 k) := by decide +kernel
abbrev cJ9_max_7cf53 : ByteArray := prog_10_method_65_code
def yJ9_max_7cf53 : MethodName := ⟨RJ9, "max", "(II)I"⟩
abbrev cJ9_min_7cf53 : ByteArray := prog_10_method_69_code
def yJ9_min_7cf53 : MethodName := ⟨RJ9, "min", "(II)I"⟩
def RJ10 : String := "java/lang/System"
def TJ10 : u_T := fun k => match k with
  | _ => ("", "", "", false)
def tyJ10 : Nat → FieldType := fun k => match k with
  | _ => .int
theorem nmJ10 : ∀ a, a < 0 → ∀ b, b < 0 → a ≠ b → (TJ10 a).2.1 ≠ (TJ10 b).2.1 := by decide +kernel
theorem tyJ10_ok : ∀ k, k < 0 → parseFieldDescriptor (TJ10 k).2.2.1 = some (tyJ10 k) := by decide +kernel
def RJ7 : String := "java/util/Arrays"
def TJ7 : u_T := fun k => match k with
  | _ => ("", "", "", false)
def tyJ7 : Nat → FieldType := fun k => match k with
  | _ => .int
theorem nmJ7 : ∀ a, a < 0 → ∀ b, b < 0 → a ≠ b → (TJ7 a).2.1 ≠ (TJ7 b).2.1 := by decide +kernel
theorem tyJ7_ok : ∀ k, k < 0 → parseFieldDescriptor (TJ7 k).2.2.1 = some (tyJ7 k) := by decide +kernel
abbrev cJ7_fill_53178 : ByteArray := prog_12_method_103_code
def yJ7_fill_53178 : MethodName := ⟨RJ7, "fill", "([II)V"⟩
def RL : String := "CodeJudgeLaw"
abbrev cL_law : ByteArray := code
def yL_law : MethodName := ⟨RL, "law", "([I)Z"⟩
abbrev vwCl : List vw_C := [(RX0, TX0, 10), (RX1, TX1, 5), (RX3, TX3, 2), (RX4, TX4, 6), (RX5, TX5, 7), (RX6, TX6, 13), (RX7, TX7, 35)]
/-- one list of words for all methods: those of the tables that a step keeps -/
def wsG : List Cond := lw_tbl.filter goodWord
theorem wsG_in {w : Cond} (h : w ∈ wsG) : w ∈ lw_tbl := (List.mem_filter.mp h).1
theorem wsG_at (i : Nat) {w : Cond} (h : lw_tbl[i]? = some w) (g : goodWord w = true) : w ∈ wsG := List.mem_filter.mpr ⟨List.mem_of_getElem? h, g⟩
theorem wsG_list (ws : List Cond) (ps : List Nat) (hp : ws = ps.filterMap (fun i => lw_tbl[i]?)) (h : ws.all goodWord = true) : ∀ w ∈ ws, w ∈ wsG := by
  intro w hw
  have h1 := List.all_eq_true.mp h w hw
  rw [hp] at hw
  obtain ⟨i, -, hi⟩ := List.mem_filterMap.mp hw
  exact wsG_at i hi h1

set_option maxRecDepth 20000 in
theorem wG_X0 : ∀ w ∈ u_ws RX0 TX0 10, w ∈ wsG := wsG_list _ [119, 121, 123, 125, 127, 129, 131, 133, 135, 137] (by decide +kernel) (by decide +kernel)
set_option maxRecDepth 20000 in
theorem wG_X1 : ∀ w ∈ u_ws RX1 TX1 5, w ∈ wsG := wsG_list _ [218, 220, 222, 224, 226] (by decide +kernel) (by decide +kernel)
set_option maxRecDepth 20000 in
theorem wG_X3 : ∀ w ∈ u_ws RX3 TX3 2, w ∈ wsG := wsG_list _ [177, 179] (by decide +kernel) (by decide +kernel)
set_option maxRecDepth 20000 in
theorem wG_X4 : ∀ w ∈ u_ws RX4 TX4 6, w ∈ wsG := wsG_list _ [194, 196, 198, 200, 202, 204] (by decide +kernel) (by decide +kernel)
set_option maxRecDepth 20000 in
theorem wG_X5 : ∀ w ∈ u_ws RX5 TX5 7, w ∈ wsG := wsG_list _ [154, 156, 158, 160, 162, 164, 166] (by decide +kernel) (by decide +kernel)
set_option maxRecDepth 20000 in
theorem wG_X6 : ∀ w ∈ u_ws RX6 TX6 13, w ∈ wsG := wsG_list _ [242, 244, 246, 248, 250, 252, 254, 256, 258, 260, 262, 264, 266] (by decide +kernel) (by decide +kernel)
set_option maxRecDepth 20000 in
theorem wG_X7 : ∀ w ∈ u_ws RX7 TX7 35, w ∈ wsG := wsG_list _ [739, 741, 743, 745, 747, 749, 751, 753, 755, 757, 759, 761, 763, 765, 767, 769, 771, 773, 775, 777, 779, 781, 783, 785, 787, 789, 791, 793, 795, 797, 799, 801, 803, 805, 807] (by decide +kernel) (by decide +kernel)
theorem wG0 : (Cond.selects RX0 yX0_moveOf yX0_moveOf : Cond) ∈ wsG := wsG_at 0 (by decide +kernel) (by decide +kernel)
theorem wG1 : (Cond.selects RX0 yX0_markOf yX0_markOf : Cond) ∈ wsG := wsG_at 1 (by decide +kernel) (by decide +kernel)
theorem wG2 : (Cond.selects RX0 yX0_layOut yX0_layOut : Cond) ∈ wsG := wsG_at 2 (by decide +kernel) (by decide +kernel)
theorem wG3 : (Cond.selects RX5 yX5_take yX5_take : Cond) ∈ wsG := wsG_at 3 (by decide +kernel) (by decide +kernel)
theorem wG4 : (Cond.selects RX0 yX0_moveIn yX0_moveIn : Cond) ∈ wsG := wsG_at 4 (by decide +kernel) (by decide +kernel)
theorem wG5 : (Cond.selects RX5 yX5_countPair yX5_countPair : Cond) ∈ wsG := wsG_at 5 (by decide +kernel) (by decide +kernel)
theorem wG6 : (Cond.selects RX6 yX6_isCode yX6_isCode : Cond) ∈ wsG := wsG_at 6 (by decide +kernel) (by decide +kernel)
theorem wG7 : (Cond.selects RX6 yX6_readAgain yX6_readAgain : Cond) ∈ wsG := wsG_at 7 (by decide +kernel) (by decide +kernel)
theorem wG8 : (Cond.selects RX6 yX6_letCome yX6_letCome : Cond) ∈ wsG := wsG_at 8 (by decide +kernel) (by decide +kernel)
theorem wG9 : (Cond.selects RX6 yX6_firstSure yX6_firstSure : Cond) ∈ wsG := wsG_at 9 (by decide +kernel) (by decide +kernel)
theorem wG10 : (Cond.selects RX3 yX3_beginAtEnd yX3_beginAtEnd : Cond) ∈ wsG := wsG_at 10 (by decide +kernel) (by decide +kernel)
theorem wG11 : (Cond.selects RX3 yX3_leadAt yX3_leadAt : Cond) ∈ wsG := wsG_at 11 (by decide +kernel) (by decide +kernel)
theorem wG12 : (Cond.selects RX3 yX3_lengthen yX3_lengthen : Cond) ∈ wsG := wsG_at 12 (by decide +kernel) (by decide +kernel)
theorem wG13 : (Cond.selects RX3 yX3_lengthenBy yX3_lengthenBy : Cond) ∈ wsG := wsG_at 13 (by decide +kernel) (by decide +kernel)
theorem wG14 : (Cond.selects RX6 yX6_placeInRanking yX6_placeInRanking : Cond) ∈ wsG := wsG_at 14 (by decide +kernel) (by decide +kernel)
theorem wG15 : (Cond.selects RX6 yX6_isAhead yX6_isAhead : Cond) ∈ wsG := wsG_at 15 (by decide +kernel) (by decide +kernel)
theorem wG16 : (Cond.selects RX0 yX0_lengthenWays yX0_lengthenWays : Cond) ∈ wsG := wsG_at 16 (by decide +kernel) (by decide +kernel)
theorem wG17 : (Cond.selects RX4 yX4_reach yX4_reach : Cond) ∈ wsG := wsG_at 17 (by decide +kernel) (by decide +kernel)
theorem wG18 : (Cond.selects RX4 yX4_writeRow yX4_writeRow : Cond) ∈ wsG := wsG_at 18 (by decide +kernel) (by decide +kernel)
theorem wG19 : (Cond.selects RX4 yX4_expand yX4_expand : Cond) ∈ wsG := wsG_at 19 (by decide +kernel) (by decide +kernel)
theorem wG20 : (Cond.selects RX1 yX1_tryPieces yX1_tryPieces : Cond) ∈ wsG := wsG_at 20 (by decide +kernel) (by decide +kernel)
theorem wG21 : (Cond.selects RX1 yX1_tryPiece yX1_tryPiece : Cond) ∈ wsG := wsG_at 21 (by decide +kernel) (by decide +kernel)
theorem wG22 : (Cond.selects RX1 yX1_isBetter yX1_isBetter : Cond) ∈ wsG := wsG_at 22 (by decide +kernel) (by decide +kernel)
theorem wG23 : (Cond.selects RX6 yX6_aliveCodes yX6_aliveCodes : Cond) ∈ wsG := wsG_at 23 (by decide +kernel) (by decide +kernel)
theorem wG24 : (Cond.selects RX6 yX6_validCodes yX6_validCodes : Cond) ∈ wsG := wsG_at 24 (by decide +kernel) (by decide +kernel)
theorem wG25 : (Cond.selects RX6 yX6_foldCode yX6_foldCode : Cond) ∈ wsG := wsG_at 25 (by decide +kernel) (by decide +kernel)
theorem wG26 : (Cond.selects RX6 yX6_foldDivision yX6_foldDivision : Cond) ∈ wsG := wsG_at 26 (by decide +kernel) (by decide +kernel)
theorem wG27 : (Cond.selects RX7 yX7_read yX7_read : Cond) ∈ wsG := wsG_at 27 (by decide +kernel) (by decide +kernel)
theorem wG28 : (Cond.selects RX7 yX7_fitsAt yX7_fitsAt : Cond) ∈ wsG := wsG_at 28 (by decide +kernel) (by decide +kernel)
theorem wG29 : (Cond.selects RX7 yX7_layCode yX7_layCode : Cond) ∈ wsG := wsG_at 29 (by decide +kernel) (by decide +kernel)
theorem wG30 : (Cond.selects RX7 yX7_isCode yX7_isCode : Cond) ∈ wsG := wsG_at 30 (by decide +kernel) (by decide +kernel)
theorem wG31 : (Cond.selects RX7 yX7_inkNow yX7_inkNow : Cond) ∈ wsG := wsG_at 31 (by decide +kernel) (by decide +kernel)
theorem wG32 : (Cond.selects RX7 yX7_comes yX7_comes : Cond) ∈ wsG := wsG_at 32 (by decide +kernel) (by decide +kernel)
theorem wG33 : (Cond.selects RX7 yX7_aboutNow yX7_aboutNow : Cond) ∈ wsG := wsG_at 33 (by decide +kernel) (by decide +kernel)
theorem wG34 : (Cond.selects RX7 yX7_isAlive yX7_isAlive : Cond) ∈ wsG := wsG_at 34 (by decide +kernel) (by decide +kernel)
theorem wG35 : (Cond.selects RX7 yX7_goAlong yX7_goAlong : Cond) ∈ wsG := wsG_at 35 (by decide +kernel) (by decide +kernel)
theorem wG36 : (Cond.selects RX7 yX7_begin yX7_begin : Cond) ∈ wsG := wsG_at 36 (by decide +kernel) (by decide +kernel)
theorem wG37 : (Cond.selects RX7 yX7_goOn yX7_goOn : Cond) ∈ wsG := wsG_at 37 (by decide +kernel) (by decide +kernel)
theorem wG38 : (Cond.selects RX7 yX7_step yX7_step : Cond) ∈ wsG := wsG_at 38 (by decide +kernel) (by decide +kernel)
theorem wG39 : (Cond.selects RX7 yX7_ends yX7_ends : Cond) ∈ wsG := wsG_at 39 (by decide +kernel) (by decide +kernel)
theorem wG40 : (Cond.selects RX7 yX7_stepCounted yX7_stepCounted : Cond) ∈ wsG := wsG_at 40 (by decide +kernel) (by decide +kernel)
theorem wG41 : (Cond.selects RX7 yX7_stepTurned yX7_stepTurned : Cond) ∈ wsG := wsG_at 41 (by decide +kernel) (by decide +kernel)
theorem wG42 : (Cond.selects RX7 yX7_isValid yX7_isValid : Cond) ∈ wsG := wsG_at 42 (by decide +kernel) (by decide +kernel)
theorem wG43 : (Cond.selects RX7 yX7_signsOf yX7_signsOf : Cond) ∈ wsG := wsG_at 43 (by decide +kernel) (by decide +kernel)
theorem wG44 : (Cond.selects RX7 yX7_weightOf yX7_weightOf : Cond) ∈ wsG := wsG_at 44 (by decide +kernel) (by decide +kernel)
theorem wG45 : (Cond.selects RX7 yX7_firstBad yX7_firstBad : Cond) ∈ wsG := wsG_at 45 (by decide +kernel) (by decide +kernel)
theorem wG46 : (Cond.selects RX7 yX7_sureAt yX7_sureAt : Cond) ∈ wsG := wsG_at 46 (by decide +kernel) (by decide +kernel)
theorem wG47 : (Cond.selects RX7 yX7_layCan yX7_layCan : Cond) ∈ wsG := wsG_at 47 (by decide +kernel) (by decide +kernel)
theorem wG48 : (Cond.selects RX7 yX7_goBackCan yX7_goBackCan : Cond) ∈ wsG := wsG_at 48 (by decide +kernel) (by decide +kernel)
theorem wG49 : (Cond.selects RX7 yX7_layLoses yX7_layLoses : Cond) ∈ wsG := wsG_at 49 (by decide +kernel) (by decide +kernel)
theorem wG50 : (Cond.selects RX7 yX7_beginBack yX7_beginBack : Cond) ∈ wsG := wsG_at 50 (by decide +kernel) (by decide +kernel)
theorem wG51 : (Cond.selects RX7 yX7_goBack yX7_goBack : Cond) ∈ wsG := wsG_at 51 (by decide +kernel) (by decide +kernel)
theorem wG52 : (Cond.selects RX7 yX7_moreBy yX7_moreBy : Cond) ∈ wsG := wsG_at 52 (by decide +kernel) (by decide +kernel)
theorem wG53 : (Cond.selects RX7 yX7_placeBehind yX7_placeBehind : Cond) ∈ wsG := wsG_at 53 (by decide +kernel) (by decide +kernel)
theorem wG54 : (Cond.selects RX7 yX7_gain yX7_gain : Cond) ∈ wsG := wsG_at 54 (by decide +kernel) (by decide +kernel)
theorem wG55 : (Cond.selects RX7 yX7_canLose yX7_canLose : Cond) ∈ wsG := wsG_at 55 (by decide +kernel) (by decide +kernel)
theorem wG56 : (Cond.selects RX7 yX7_rankOf yX7_rankOf : Cond) ∈ wsG := wsG_at 56 (by decide +kernel) (by decide +kernel)
theorem wG57 : (Cond.selects RX7 yX7_isAhead yX7_isAhead : Cond) ∈ wsG := wsG_at 57 (by decide +kernel) (by decide +kernel)
theorem wG58 : (Cond.selects RX7 yX7_rankKey yX7_rankKey : Cond) ∈ wsG := wsG_at 58 (by decide +kernel) (by decide +kernel)
theorem wG59 : (Cond.selects RX7 yX7_pairsOf yX7_pairsOf : Cond) ∈ wsG := wsG_at 59 (by decide +kernel) (by decide +kernel)
theorem wG60 : (Cond.selects RX7 yX7_judgedNow yX7_judgedNow : Cond) ∈ wsG := wsG_at 60 (by decide +kernel) (by decide +kernel)
theorem wG61 : (Cond.selects RX7 yX7_rowsNow yX7_rowsNow : Cond) ∈ wsG := wsG_at 61 (by decide +kernel) (by decide +kernel)
theorem wG62 : (Cond.selects RX7 yX7_oneMore yX7_oneMore : Cond) ∈ wsG := wsG_at 62 (by decide +kernel) (by decide +kernel)
theorem wG63 : (Cond.selects RX7 yX7_apartNow yX7_apartNow : Cond) ∈ wsG := wsG_at 63 (by decide +kernel) (by decide +kernel)
theorem wG64 : (Cond.selects RX7 yX7_layParts yX7_layParts : Cond) ∈ wsG := wsG_at 64 (by decide +kernel) (by decide +kernel)
theorem wG65 : (Cond.selects RX7 yX7_isBoth yX7_isBoth : Cond) ∈ wsG := wsG_at 65 (by decide +kernel) (by decide +kernel)
theorem wG66 : (Cond.selects RX7 yX7_goesTo yX7_goesTo : Cond) ∈ wsG := wsG_at 66 (by decide +kernel) (by decide +kernel)
theorem wG67 : (Cond.selects RX7 yX7_bothBehind yX7_bothBehind : Cond) ∈ wsG := wsG_at 67 (by decide +kernel) (by decide +kernel)
theorem wG68 : (Cond.selects RX7 yX7_tellsNow yX7_tellsNow : Cond) ∈ wsG := wsG_at 68 (by decide +kernel) (by decide +kernel)
theorem wG69 : (Cond.selects RX7 yX7_leastTo yX7_leastTo : Cond) ∈ wsG := wsG_at 69 (by decide +kernel) (by decide +kernel)
theorem wG70 : (Cond.selects RX7 yX7_areCuts yX7_areCuts : Cond) ∈ wsG := wsG_at 70 (by decide +kernel) (by decide +kernel)
theorem wG71 : (Cond.selects RX7 yX7_layCuts yX7_layCuts : Cond) ∈ wsG := wsG_at 71 (by decide +kernel) (by decide +kernel)
theorem wG72 : (Cond.selects RX7 yX7_tryPiece yX7_tryPiece : Cond) ∈ wsG := wsG_at 72 (by decide +kernel) (by decide +kernel)
theorem wG73 : (Cond.selects RX7 yX7_pieceNow yX7_pieceNow : Cond) ∈ wsG := wsG_at 73 (by decide +kernel) (by decide +kernel)
theorem wG74 : (Cond.selects RX7 yX7_howMany yX7_howMany : Cond) ∈ wsG := wsG_at 74 (by decide +kernel) (by decide +kernel)
theorem wG75 : (Cond.selects RX7 yX7_aliveMany yX7_aliveMany : Cond) ∈ wsG := wsG_at 75 (by decide +kernel) (by decide +kernel)
theorem wG76 : (Cond.selects RX7 yX7_validMany yX7_validMany : Cond) ∈ wsG := wsG_at 76 (by decide +kernel) (by decide +kernel)
theorem wG77 : (Cond.selects RX7 yX7_mixCode yX7_mixCode : Cond) ∈ wsG := wsG_at 77 (by decide +kernel) (by decide +kernel)
theorem wG78 : (Cond.selects RX7 yX7_mix yX7_mix : Cond) ∈ wsG := wsG_at 78 (by decide +kernel) (by decide +kernel)
theorem wG79 : (Cond.selects RX7 yX7_mixCuts yX7_mixCuts : Cond) ∈ wsG := wsG_at 79 (by decide +kernel) (by decide +kernel)
theorem wG80 : (Cond.initialized RL : Cond) ∈ wsG := wsG_at 80 (by decide +kernel) (by decide +kernel)
theorem wG81 : (Cond.initialized RX6 : Cond) ∈ wsG := wsG_at 81 (by decide +kernel) (by decide +kernel)
theorem wG82 : (Cond.initialized RX0 : Cond) ∈ wsG := wsG_at 82 (by decide +kernel) (by decide +kernel)
theorem wG83 : (Cond.initialized RX5 : Cond) ∈ wsG := wsG_at 83 (by decide +kernel) (by decide +kernel)
theorem wG84 : (Cond.initialized RX3 : Cond) ∈ wsG := wsG_at 84 (by decide +kernel) (by decide +kernel)
theorem wG85 : (Cond.initialized RX4 : Cond) ∈ wsG := wsG_at 85 (by decide +kernel) (by decide +kernel)
theorem wG86 : (Cond.initialized RX1 : Cond) ∈ wsG := wsG_at 86 (by decide +kernel) (by decide +kernel)
theorem wG87 : (Cond.initialized RX7 : Cond) ∈ wsG := wsG_at 87 (by decide +kernel) (by decide +kernel)
theorem wG88 : (Cond.initialized RX2 : Cond) ∈ wsG := wsG_at 88 (by decide +kernel) (by decide +kernel)
theorem wG89 : (Cond.initialized RJ9 : Cond) ∈ wsG := wsG_at 89 (by decide +kernel) (by decide +kernel)
theorem wG90 : (Cond.initialized RJ7 : Cond) ∈ wsG := wsG_at 90 (by decide +kernel) (by decide +kernel)
theorem wG91 : (Cond.initialized RJ10 : Cond) ∈ wsG := wsG_at 91 (by decide +kernel) (by decide +kernel)
theorem wG92 : (Cond.classLink RL 7 RX6 : Cond) ∈ wsG := wsG_at 92 (by decide +kernel) (by decide +kernel)
theorem wG93 : (Cond.instantiable RX6 13 : Cond) ∈ wsG := wsG_at 93 (by decide +kernel) (by decide +kernel)
theorem wG94 : (Cond.methodLink RL 9 yX6_init : Cond) ∈ wsG := wsG_at 94 (by decide +kernel) (by decide +kernel)
theorem wG95 : (Cond.instanceMethod yX6_init : Cond) ∈ wsG := wsG_at 95 (by decide +kernel) (by decide +kernel)
theorem wG96 : (Cond.code yX6_init cX6_init 2 none : Cond) ∈ wsG := wsG_at 96 (by decide +kernel) (by decide +kernel)
theorem wG97 : (Cond.methodLink RX6 3 objectInit : Cond) ∈ wsG := wsG_at 97 (by decide +kernel) (by decide +kernel)
theorem wG98 : (Cond.instanceMethod objectInit : Cond) ∈ wsG := wsG_at 98 (by decide +kernel) (by decide +kernel)
theorem wG99 : (Cond.code objectInit ⟨#[0xb1]⟩ 1 none : Cond) ∈ wsG := wsG_at 99 (by decide +kernel) (by decide +kernel)
theorem wG100 : (Cond.classLink RX6 26 RX0 : Cond) ∈ wsG := wsG_at 100 (by decide +kernel) (by decide +kernel)
theorem wG102 : (Cond.classLink RX6 32 RX5 : Cond) ∈ wsG := wsG_at 102 (by decide +kernel) (by decide +kernel)
theorem wG104 : (Cond.instantiable RX0 10 : Cond) ∈ wsG := wsG_at 104 (by decide +kernel) (by decide +kernel)
theorem wG106 : (Cond.instanceMethod yX0_init : Cond) ∈ wsG := wsG_at 106 (by decide +kernel) (by decide +kernel)
theorem wG107 : (Cond.code yX0_init cX0_init 1 none : Cond) ∈ wsG := wsG_at 107 (by decide +kernel) (by decide +kernel)
theorem wG108 : (Cond.methodLink RX0 3 objectInit : Cond) ∈ wsG := wsG_at 108 (by decide +kernel) (by decide +kernel)
theorem wG109 : (Cond.fieldLink RX0 9 "CodeJudge$Code" "text" "[I" : Cond) ∈ wsG := wsG_at 109 (by decide +kernel) (by decide +kernel)
theorem wG110 : (Cond.fieldLink RX0 36 "CodeJudge$Code" "size" "I" : Cond) ∈ wsG := wsG_at 110 (by decide +kernel) (by decide +kernel)
theorem wG111 : (Cond.fieldLink RX0 46 "CodeJudge$Code" "kind" "I" : Cond) ∈ wsG := wsG_at 111 (by decide +kernel) (by decide +kernel)
theorem wG112 : (Cond.fieldLink RX0 55 "CodeJudge$Code" "modes" "I" : Cond) ∈ wsG := wsG_at 112 (by decide +kernel) (by decide +kernel)
theorem wG113 : (Cond.fieldLink RX0 49 "CodeJudge$Code" "digit" "I" : Cond) ∈ wsG := wsG_at 113 (by decide +kernel) (by decide +kernel)
theorem wG114 : (Cond.fieldLink RX0 15 "CodeJudge$Code" "moves" "[I" : Cond) ∈ wsG := wsG_at 114 (by decide +kernel) (by decide +kernel)
theorem wG115 : (Cond.fieldLink RX0 18 "CodeJudge$Code" "nexts" "[I" : Cond) ∈ wsG := wsG_at 115 (by decide +kernel) (by decide +kernel)
theorem wG116 : (Cond.fieldLink RX0 21 "CodeJudge$Code" "gains" "[I" : Cond) ∈ wsG := wsG_at 116 (by decide +kernel) (by decide +kernel)
theorem wG117 : (Cond.fieldLink RX0 24 "CodeJudge$Code" "ways" "[I" : Cond) ∈ wsG := wsG_at 117 (by decide +kernel) (by decide +kernel)
theorem wG118 : (Cond.fieldLink RX0 27 "CodeJudge$Code" "longerWays" "[I" : Cond) ∈ wsG := wsG_at 118 (by decide +kernel) (by decide +kernel)
theorem wG140 : (Cond.arrayClass .int : Cond) ∈ wsG := wsG_at 140 (by decide +kernel) (by decide +kernel)
theorem wG141 : (Cond.instantiable RX5 7 : Cond) ∈ wsG := wsG_at 141 (by decide +kernel) (by decide +kernel)
theorem wG142 : (Cond.methodLink RX6 39 yX5_init : Cond) ∈ wsG := wsG_at 142 (by decide +kernel) (by decide +kernel)
theorem wG143 : (Cond.instanceMethod yX5_init : Cond) ∈ wsG := wsG_at 143 (by decide +kernel) (by decide +kernel)
theorem wG144 : (Cond.code yX5_init cX5_init 2 none : Cond) ∈ wsG := wsG_at 144 (by decide +kernel) (by decide +kernel)
theorem wG145 : (Cond.methodLink RX5 3 objectInit : Cond) ∈ wsG := wsG_at 145 (by decide +kernel) (by decide +kernel)
theorem wG146 : (Cond.fieldLink RX5 21 "CodeJudge$Reading" "code" "LCodeJudge$Code;" : Cond) ∈ wsG := wsG_at 146 (by decide +kernel) (by decide +kernel)
theorem wG148 : (Cond.fieldLink RX5 9 "CodeJudge$Reading" "states" "[I" : Cond) ∈ wsG := wsG_at 148 (by decide +kernel) (by decide +kernel)
theorem wG149 : (Cond.fieldLink RX5 15 "CodeJudge$Reading" "weights" "[I" : Cond) ∈ wsG := wsG_at 149 (by decide +kernel) (by decide +kernel)
theorem wG150 : (Cond.fieldLink RX5 18 "CodeJudge$Reading" "pairCounts" "[I" : Cond) ∈ wsG := wsG_at 150 (by decide +kernel) (by decide +kernel)
theorem wG151 : (Cond.fieldLink RX5 31 "CodeJudge$Reading" "signs" "I" : Cond) ∈ wsG := wsG_at 151 (by decide +kernel) (by decide +kernel)
theorem wG152 : (Cond.fieldLink RX5 35 "CodeJudge$Reading" "allowed" "I" : Cond) ∈ wsG := wsG_at 152 (by decide +kernel) (by decide +kernel)
theorem wG153 : (Cond.fieldLink RX5 48 "CodeJudge$Reading" "alive" "Z" : Cond) ∈ wsG := wsG_at 153 (by decide +kernel) (by decide +kernel)
theorem wG169 : (Cond.classLink RX6 51 RX3 : Cond) ∈ wsG := wsG_at 169 (by decide +kernel) (by decide +kernel)
theorem wG170 : (Cond.instantiable RX3 2 : Cond) ∈ wsG := wsG_at 170 (by decide +kernel) (by decide +kernel)
theorem wG172 : (Cond.instanceMethod yX3_init : Cond) ∈ wsG := wsG_at 172 (by decide +kernel) (by decide +kernel)
theorem wG173 : (Cond.code yX3_init cX3_init 1 none : Cond) ∈ wsG := wsG_at 173 (by decide +kernel) (by decide +kernel)
theorem wG174 : (Cond.methodLink RX3 3 objectInit : Cond) ∈ wsG := wsG_at 174 (by decide +kernel) (by decide +kernel)
theorem wG175 : (Cond.fieldLink RX3 9 "CodeJudge$Outlook" "leads" "[I" : Cond) ∈ wsG := wsG_at 175 (by decide +kernel) (by decide +kernel)
theorem wG176 : (Cond.fieldLink RX3 15 "CodeJudge$Outlook" "longerLeads" "[I" : Cond) ∈ wsG := wsG_at 176 (by decide +kernel) (by decide +kernel)
theorem wG182 : (Cond.classLink RX6 58 RX4 : Cond) ∈ wsG := wsG_at 182 (by decide +kernel) (by decide +kernel)
theorem wG183 : (Cond.instantiable RX4 6 : Cond) ∈ wsG := wsG_at 183 (by decide +kernel) (by decide +kernel)
theorem wG185 : (Cond.instanceMethod yX4_init : Cond) ∈ wsG := wsG_at 185 (by decide +kernel) (by decide +kernel)
theorem wG186 : (Cond.code yX4_init cX4_init 1 none : Cond) ∈ wsG := wsG_at 186 (by decide +kernel) (by decide +kernel)
theorem wG187 : (Cond.methodLink RX4 5 objectInit : Cond) ∈ wsG := wsG_at 187 (by decide +kernel) (by decide +kernel)
theorem wG188 : (Cond.fieldLink RX4 11 "CodeJudge$Parting" "queue" "[I" : Cond) ∈ wsG := wsG_at 188 (by decide +kernel) (by decide +kernel)
theorem wG189 : (Cond.fieldLink RX4 15 "CodeJudge$Parting" "parents" "[I" : Cond) ∈ wsG := wsG_at 189 (by decide +kernel) (by decide +kernel)
theorem wG190 : (Cond.fieldLink RX4 18 "CodeJudge$Parting" "lastUnits" "[I" : Cond) ∈ wsG := wsG_at 190 (by decide +kernel) (by decide +kernel)
theorem wG191 : (Cond.fieldLink RX4 21 "CodeJudge$Parting" "row" "[I" : Cond) ∈ wsG := wsG_at 191 (by decide +kernel) (by decide +kernel)
theorem wG192 : (Cond.fieldLink RX4 30 "CodeJudge$Parting" "queued" "I" : Cond) ∈ wsG := wsG_at 192 (by decide +kernel) (by decide +kernel)
theorem wG193 : (Cond.fieldLink RX4 34 "CodeJudge$Parting" "rowLength" "I" : Cond) ∈ wsG := wsG_at 193 (by decide +kernel) (by decide +kernel)
theorem wG207 : (Cond.classLink RX6 65 RX1 : Cond) ∈ wsG := wsG_at 207 (by decide +kernel) (by decide +kernel)
theorem wG208 : (Cond.instantiable RX1 5 : Cond) ∈ wsG := wsG_at 208 (by decide +kernel) (by decide +kernel)
theorem wG210 : (Cond.instanceMethod yX1_init : Cond) ∈ wsG := wsG_at 210 (by decide +kernel) (by decide +kernel)
theorem wG211 : (Cond.code yX1_init cX1_init 1 none : Cond) ∈ wsG := wsG_at 211 (by decide +kernel) (by decide +kernel)
theorem wG212 : (Cond.methodLink RX1 3 objectInit : Cond) ∈ wsG := wsG_at 212 (by decide +kernel) (by decide +kernel)
theorem wG213 : (Cond.fieldLink RX1 9 "CodeJudge$Division" "worths" "[I" : Cond) ∈ wsG := wsG_at 213 (by decide +kernel) (by decide +kernel)
theorem wG214 : (Cond.fieldLink RX1 15 "CodeJudge$Division" "pieceCounts" "[I" : Cond) ∈ wsG := wsG_at 214 (by decide +kernel) (by decide +kernel)
theorem wG215 : (Cond.fieldLink RX1 18 "CodeJudge$Division" "ends" "[I" : Cond) ∈ wsG := wsG_at 215 (by decide +kernel) (by decide +kernel)
theorem wG216 : (Cond.fieldLink RX1 21 "CodeJudge$Division" "numbers" "[I" : Cond) ∈ wsG := wsG_at 216 (by decide +kernel) (by decide +kernel)
theorem wG217 : (Cond.fieldLink RX1 24 "CodeJudge$Division" "weights" "[I" : Cond) ∈ wsG := wsG_at 217 (by decide +kernel) (by decide +kernel)
theorem wG229 : (Cond.fieldLink RX6 9 "CodeJudge" "page" "[I" : Cond) ∈ wsG := wsG_at 229 (by decide +kernel) (by decide +kernel)
theorem wG230 : (Cond.fieldLink RX6 13 "CodeJudge" "pageLength" "I" : Cond) ∈ wsG := wsG_at 230 (by decide +kernel) (by decide +kernel)
theorem wG231 : (Cond.fieldLink RX6 17 "CodeJudge" "units" "[I" : Cond) ∈ wsG := wsG_at 231 (by decide +kernel) (by decide +kernel)
theorem wG232 : (Cond.fieldLink RX6 20 "CodeJudge" "come" "I" : Cond) ∈ wsG := wsG_at 232 (by decide +kernel) (by decide +kernel)
theorem wG233 : (Cond.fieldLink RX6 23 "CodeJudge" "length" "I" : Cond) ∈ wsG := wsG_at 233 (by decide +kernel) (by decide +kernel)
theorem wG234 : (Cond.fieldLink RX6 28 "CodeJudge" "codes" "[LCodeJudge$Code;" : Cond) ∈ wsG := wsG_at 234 (by decide +kernel) (by decide +kernel)
theorem wG235 : (Cond.fieldLink RX6 34 "CodeJudge" "readings" "[LCodeJudge$Reading;" : Cond) ∈ wsG := wsG_at 235 (by decide +kernel) (by decide +kernel)
theorem wG236 : (Cond.fieldLink RX6 42 "CodeJudge" "codeCount" "I" : Cond) ∈ wsG := wsG_at 236 (by decide +kernel) (by decide +kernel)
theorem wG237 : (Cond.fieldLink RX6 45 "CodeJudge" "codesEver" "I" : Cond) ∈ wsG := wsG_at 237 (by decide +kernel) (by decide +kernel)
theorem wG238 : (Cond.fieldLink RX6 48 "CodeJudge" "unitsEver" "I" : Cond) ∈ wsG := wsG_at 238 (by decide +kernel) (by decide +kernel)
theorem wG239 : (Cond.fieldLink RX6 54 "CodeJudge" "outlook" "LCodeJudge$Outlook;" : Cond) ∈ wsG := wsG_at 239 (by decide +kernel) (by decide +kernel)
theorem wG240 : (Cond.fieldLink RX6 61 "CodeJudge" "parting" "LCodeJudge$Parting;" : Cond) ∈ wsG := wsG_at 240 (by decide +kernel) (by decide +kernel)
theorem wG241 : (Cond.fieldLink RX6 68 "CodeJudge" "division" "LCodeJudge$Division;" : Cond) ∈ wsG := wsG_at 241 (by decide +kernel) (by decide +kernel)
theorem wG269 : (Cond.methodLink RL 13 yX6_letter : Cond) ∈ wsG := wsG_at 269 (by decide +kernel) (by decide +kernel)
theorem wG270 : (Cond.instanceMethod yX6_letter : Cond) ∈ wsG := wsG_at 270 (by decide +kernel) (by decide +kernel)
theorem wG271 : (Cond.selects RX6 yX6_letter yX6_letter : Cond) ∈ wsG := wsG_at 271 (by decide +kernel) (by decide +kernel)
theorem wG272 : (Cond.code yX6_letter cX6_letter 2 (some .int) : Cond) ∈ wsG := wsG_at 272 (by decide +kernel) (by decide +kernel)
theorem wG273 : (Cond.methodLink RL 18 yX6_blank : Cond) ∈ wsG := wsG_at 273 (by decide +kernel) (by decide +kernel)
theorem wG274 : (Cond.instanceMethod yX6_blank : Cond) ∈ wsG := wsG_at 274 (by decide +kernel) (by decide +kernel)
theorem wG275 : (Cond.selects RX6 yX6_blank yX6_blank : Cond) ∈ wsG := wsG_at 275 (by decide +kernel) (by decide +kernel)
theorem wG276 : (Cond.code yX6_blank cX6_blank 2 (some .int) : Cond) ∈ wsG := wsG_at 276 (by decide +kernel) (by decide +kernel)
theorem wG277 : (Cond.methodLink RL 23 yX6_fault : Cond) ∈ wsG := wsG_at 277 (by decide +kernel) (by decide +kernel)
theorem wG278 : (Cond.instanceMethod yX6_fault : Cond) ∈ wsG := wsG_at 278 (by decide +kernel) (by decide +kernel)
theorem wG279 : (Cond.selects RX6 yX6_fault yX6_fault : Cond) ∈ wsG := wsG_at 279 (by decide +kernel) (by decide +kernel)
theorem wG280 : (Cond.code yX6_fault cX6_fault 1 (some .int) : Cond) ∈ wsG := wsG_at 280 (by decide +kernel) (by decide +kernel)
theorem wG281 : (Cond.methodLink RX6 72 yX2_firstFault : Cond) ∈ wsG := wsG_at 281 (by decide +kernel) (by decide +kernel)
theorem wG282 : (Cond.static yX2_firstFault : Cond) ∈ wsG := wsG_at 282 (by decide +kernel) (by decide +kernel)
theorem wG283 : (Cond.code yX2_firstFault cX2_firstFault 4 (some .int) : Cond) ∈ wsG := wsG_at 283 (by decide +kernel) (by decide +kernel)
theorem wG284 : (Cond.methodLink RX2 18 yX2_kindOf : Cond) ∈ wsG := wsG_at 284 (by decide +kernel) (by decide +kernel)
theorem wG285 : (Cond.static yX2_kindOf : Cond) ∈ wsG := wsG_at 285 (by decide +kernel) (by decide +kernel)
theorem wG286 : (Cond.code yX2_kindOf cX2_kindOf 1 (some .int) : Cond) ∈ wsG := wsG_at 286 (by decide +kernel) (by decide +kernel)
theorem wG287 : (Cond.methodLink RX2 21 yX2_fits : Cond) ∈ wsG := wsG_at 287 (by decide +kernel) (by decide +kernel)
theorem wG288 : (Cond.static yX2_fits : Cond) ∈ wsG := wsG_at 288 (by decide +kernel) (by decide +kernel)
theorem wG289 : (Cond.code yX2_fits cX2_fits 3 (some .boolean) : Cond) ∈ wsG := wsG_at 289 (by decide +kernel) (by decide +kernel)
theorem wG290 : (Cond.methodLink RX2 9 yX2_marksBegin : Cond) ∈ wsG := wsG_at 290 (by decide +kernel) (by decide +kernel)
theorem wG291 : (Cond.static yX2_marksBegin : Cond) ∈ wsG := wsG_at 291 (by decide +kernel) (by decide +kernel)
theorem wG292 : (Cond.code yX2_marksBegin cX2_marksBegin 1 (some .int) : Cond) ∈ wsG := wsG_at 292 (by decide +kernel) (by decide +kernel)
theorem wG293 : (Cond.methodLink RX2 15 yX2_pointsBegin : Cond) ∈ wsG := wsG_at 293 (by decide +kernel) (by decide +kernel)
theorem wG294 : (Cond.static yX2_pointsBegin : Cond) ∈ wsG := wsG_at 294 (by decide +kernel) (by decide +kernel)
theorem wG295 : (Cond.code yX2_pointsBegin cX2_pointsBegin 1 (some .int) : Cond) ∈ wsG := wsG_at 295 (by decide +kernel) (by decide +kernel)
theorem wG296 : (Cond.methodLink RX2 32 yX2_isMark : Cond) ∈ wsG := wsG_at 296 (by decide +kernel) (by decide +kernel)
theorem wG297 : (Cond.static yX2_isMark : Cond) ∈ wsG := wsG_at 297 (by decide +kernel) (by decide +kernel)
theorem wG298 : (Cond.code yX2_isMark cX2_isMark 2 (some .boolean) : Cond) ∈ wsG := wsG_at 298 (by decide +kernel) (by decide +kernel)
theorem wG299 : (Cond.methodLink RX2 25 yX2_textLength : Cond) ∈ wsG := wsG_at 299 (by decide +kernel) (by decide +kernel)
theorem wG300 : (Cond.static yX2_textLength : Cond) ∈ wsG := wsG_at 300 (by decide +kernel) (by decide +kernel)
theorem wG301 : (Cond.code yX2_textLength cX2_textLength 1 (some .int) : Cond) ∈ wsG := wsG_at 301 (by decide +kernel) (by decide +kernel)
theorem wG302 : (Cond.methodLink RL 27 yX6_code : Cond) ∈ wsG := wsG_at 302 (by decide +kernel) (by decide +kernel)
theorem wG303 : (Cond.instanceMethod yX6_code : Cond) ∈ wsG := wsG_at 303 (by decide +kernel) (by decide +kernel)
theorem wG304 : (Cond.selects RX6 yX6_code yX6_code : Cond) ∈ wsG := wsG_at 304 (by decide +kernel) (by decide +kernel)
theorem wG305 : (Cond.code yX6_code cX6_code 2 (some .int) : Cond) ∈ wsG := wsG_at 305 (by decide +kernel) (by decide +kernel)
theorem wG306 : (Cond.methodLink RX6 78 yX2_isWhole : Cond) ∈ wsG := wsG_at 306 (by decide +kernel) (by decide +kernel)
theorem wG307 : (Cond.static yX2_isWhole : Cond) ∈ wsG := wsG_at 307 (by decide +kernel) (by decide +kernel)
theorem wG308 : (Cond.code yX2_isWhole cX2_isWhole 3 (some .boolean) : Cond) ∈ wsG := wsG_at 308 (by decide +kernel) (by decide +kernel)
theorem wG309 : (Cond.methodLink RX2 28 yX2_firstFault : Cond) ∈ wsG := wsG_at 309 (by decide +kernel) (by decide +kernel)
theorem wG310 : (Cond.methodLink RX6 82 yX0_load : Cond) ∈ wsG := wsG_at 310 (by decide +kernel) (by decide +kernel)
theorem wG311 : (Cond.instanceMethod yX0_load : Cond) ∈ wsG := wsG_at 311 (by decide +kernel) (by decide +kernel)
theorem wG312 : (Cond.selects RX0 yX0_load yX0_load : Cond) ∈ wsG := wsG_at 312 (by decide +kernel) (by decide +kernel)
theorem wG313 : (Cond.code yX0_load cX0_load 6 none : Cond) ∈ wsG := wsG_at 313 (by decide +kernel) (by decide +kernel)
theorem wG314 : (Cond.methodLink RX0 30 yJ9_min_7cf53 : Cond) ∈ wsG := wsG_at 314 (by decide +kernel) (by decide +kernel)
theorem wG315 : (Cond.static yJ9_min_7cf53 : Cond) ∈ wsG := wsG_at 315 (by decide +kernel) (by decide +kernel)
theorem wG316 : (Cond.code yJ9_min_7cf53 cJ9_min_7cf53 2 (some .int) : Cond) ∈ wsG := wsG_at 316 (by decide +kernel) (by decide +kernel)
theorem wG317 : (Cond.methodLink RX0 40 yX2_kindOf : Cond) ∈ wsG := wsG_at 317 (by decide +kernel) (by decide +kernel)
theorem wG318 : (Cond.methodLink RX0 52 yX0_modesOf : Cond) ∈ wsG := wsG_at 318 (by decide +kernel) (by decide +kernel)
theorem wG319 : (Cond.static yX0_modesOf : Cond) ∈ wsG := wsG_at 319 (by decide +kernel) (by decide +kernel)
theorem wG320 : (Cond.code yX0_modesOf cX0_modesOf 1 (some .int) : Cond) ∈ wsG := wsG_at 320 (by decide +kernel) (by decide +kernel)
theorem wG321 : (Cond.methodLink RX0 58 yX0_moveOf : Cond) ∈ wsG := wsG_at 321 (by decide +kernel) (by decide +kernel)
theorem wG323 : (Cond.instanceMethod yX0_moveOf : Cond) ∈ wsG := wsG_at 323 (by decide +kernel) (by decide +kernel)
theorem wG324 : (Cond.code yX0_moveOf cX0_moveOf 3 (some .int) : Cond) ∈ wsG := wsG_at 324 (by decide +kernel) (by decide +kernel)
theorem wG325 : (Cond.methodLink RX0 71 yX0_markOf : Cond) ∈ wsG := wsG_at 325 (by decide +kernel) (by decide +kernel)
theorem wG327 : (Cond.instanceMethod yX0_markOf : Cond) ∈ wsG := wsG_at 327 (by decide +kernel) (by decide +kernel)
theorem wG328 : (Cond.code yX0_markOf cX0_markOf 4 (some .int) : Cond) ∈ wsG := wsG_at 328 (by decide +kernel) (by decide +kernel)
theorem wG329 : (Cond.methodLink RX0 83 yX2_marksBegin : Cond) ∈ wsG := wsG_at 329 (by decide +kernel) (by decide +kernel)
theorem wG330 : (Cond.methodLink RX0 74 yX0_signMove : Cond) ∈ wsG := wsG_at 330 (by decide +kernel) (by decide +kernel)
theorem wG331 : (Cond.static yX0_signMove : Cond) ∈ wsG := wsG_at 331 (by decide +kernel) (by decide +kernel)
theorem wG332 : (Cond.code yX0_signMove cX0_signMove 2 (some .int) : Cond) ∈ wsG := wsG_at 332 (by decide +kernel) (by decide +kernel)
theorem wG333 : (Cond.methodLink RX0 77 yX0_beginMove : Cond) ∈ wsG := wsG_at 333 (by decide +kernel) (by decide +kernel)
theorem wG334 : (Cond.static yX0_beginMove : Cond) ∈ wsG := wsG_at 334 (by decide +kernel) (by decide +kernel)
theorem wG335 : (Cond.code yX0_beginMove cX0_beginMove 1 (some .int) : Cond) ∈ wsG := wsG_at 335 (by decide +kernel) (by decide +kernel)
theorem wG336 : (Cond.methodLink RX0 80 yX0_wantedMove : Cond) ∈ wsG := wsG_at 336 (by decide +kernel) (by decide +kernel)
theorem wG337 : (Cond.static yX0_wantedMove : Cond) ∈ wsG := wsG_at 337 (by decide +kernel) (by decide +kernel)
theorem wG338 : (Cond.code yX0_wantedMove cX0_wantedMove 2 (some .int) : Cond) ∈ wsG := wsG_at 338 (by decide +kernel) (by decide +kernel)
theorem wG339 : (Cond.methodLink RX0 61 yX0_layOut : Cond) ∈ wsG := wsG_at 339 (by decide +kernel) (by decide +kernel)
theorem wG341 : (Cond.instanceMethod yX0_layOut : Cond) ∈ wsG := wsG_at 341 (by decide +kernel) (by decide +kernel)
theorem wG342 : (Cond.code yX0_layOut cX0_layOut 7 none : Cond) ∈ wsG := wsG_at 342 (by decide +kernel) (by decide +kernel)
theorem wG343 : (Cond.methodLink RX0 65 yX0_sortPair : Cond) ∈ wsG := wsG_at 343 (by decide +kernel) (by decide +kernel)
theorem wG344 : (Cond.static yX0_sortPair : Cond) ∈ wsG := wsG_at 344 (by decide +kernel) (by decide +kernel)
theorem wG345 : (Cond.code yX0_sortPair cX0_sortPair 2 (some .int) : Cond) ∈ wsG := wsG_at 345 (by decide +kernel) (by decide +kernel)
theorem wG346 : (Cond.methodLink RX0 68 yX0_pointsOf : Cond) ∈ wsG := wsG_at 346 (by decide +kernel) (by decide +kernel)
theorem wG347 : (Cond.instanceMethod yX0_pointsOf : Cond) ∈ wsG := wsG_at 347 (by decide +kernel) (by decide +kernel)
theorem wG348 : (Cond.selects RX0 yX0_pointsOf yX0_pointsOf : Cond) ∈ wsG := wsG_at 348 (by decide +kernel) (by decide +kernel)
theorem wG349 : (Cond.code yX0_pointsOf cX0_pointsOf 3 (some .int) : Cond) ∈ wsG := wsG_at 349 (by decide +kernel) (by decide +kernel)
theorem wG350 : (Cond.methodLink RX0 86 yX2_pointsBegin : Cond) ∈ wsG := wsG_at 350 (by decide +kernel) (by decide +kernel)
theorem wG351 : (Cond.methodLink RX6 86 yX5_follow : Cond) ∈ wsG := wsG_at 351 (by decide +kernel) (by decide +kernel)
theorem wG352 : (Cond.instanceMethod yX5_follow : Cond) ∈ wsG := wsG_at 352 (by decide +kernel) (by decide +kernel)
theorem wG353 : (Cond.selects RX5 yX5_follow yX5_follow : Cond) ∈ wsG := wsG_at 353 (by decide +kernel) (by decide +kernel)
theorem wG354 : (Cond.code yX5_follow cX5_follow 5 none : Cond) ∈ wsG := wsG_at 354 (by decide +kernel) (by decide +kernel)
theorem wG355 : (Cond.methodLink RX5 25 yJ7_fill_53178 : Cond) ∈ wsG := wsG_at 355 (by decide +kernel) (by decide +kernel)
theorem wG356 : (Cond.static yJ7_fill_53178 : Cond) ∈ wsG := wsG_at 356 (by decide +kernel) (by decide +kernel)
theorem wG357 : (Cond.code yJ7_fill_53178 cJ7_fill_53178 4 none : Cond) ∈ wsG := wsG_at 357 (by decide +kernel) (by decide +kernel)
theorem wG358 : (Cond.methodLink RX5 38 yJ9_min_7cf53 : Cond) ∈ wsG := wsG_at 358 (by decide +kernel) (by decide +kernel)
theorem wG359 : (Cond.methodLink RX5 44 yX5_take : Cond) ∈ wsG := wsG_at 359 (by decide +kernel) (by decide +kernel)
theorem wG361 : (Cond.instanceMethod yX5_take : Cond) ∈ wsG := wsG_at 361 (by decide +kernel) (by decide +kernel)
theorem wG362 : (Cond.code yX5_take cX5_take 7 none : Cond) ∈ wsG := wsG_at 362 (by decide +kernel) (by decide +kernel)
theorem wG363 : (Cond.methodLink RX5 52 yX0_nextState : Cond) ∈ wsG := wsG_at 363 (by decide +kernel) (by decide +kernel)
theorem wG364 : (Cond.instanceMethod yX0_nextState : Cond) ∈ wsG := wsG_at 364 (by decide +kernel) (by decide +kernel)
theorem wG365 : (Cond.selects RX0 yX0_nextState yX0_nextState : Cond) ∈ wsG := wsG_at 365 (by decide +kernel) (by decide +kernel)
theorem wG366 : (Cond.code yX0_nextState cX0_nextState 3 (some .int) : Cond) ∈ wsG := wsG_at 366 (by decide +kernel) (by decide +kernel)
theorem wG368 : (Cond.static yX6_isUnit : Cond) ∈ wsG := wsG_at 368 (by decide +kernel) (by decide +kernel)
theorem wG369 : (Cond.code yX6_isUnit cX6_isUnit 1 (some .boolean) : Cond) ∈ wsG := wsG_at 369 (by decide +kernel) (by decide +kernel)
theorem wG370 : (Cond.methodLink RX5 57 yX0_modeOf : Cond) ∈ wsG := wsG_at 370 (by decide +kernel) (by decide +kernel)
theorem wG371 : (Cond.static yX0_modeOf : Cond) ∈ wsG := wsG_at 371 (by decide +kernel) (by decide +kernel)
theorem wG372 : (Cond.code yX0_modeOf cX0_modeOf 1 (some .int) : Cond) ∈ wsG := wsG_at 372 (by decide +kernel) (by decide +kernel)
theorem wG373 : (Cond.methodLink RX5 61 yX0_sortEnded : Cond) ∈ wsG := wsG_at 373 (by decide +kernel) (by decide +kernel)
theorem wG374 : (Cond.instanceMethod yX0_sortEnded : Cond) ∈ wsG := wsG_at 374 (by decide +kernel) (by decide +kernel)
theorem wG375 : (Cond.selects RX0 yX0_sortEnded yX0_sortEnded : Cond) ∈ wsG := wsG_at 375 (by decide +kernel) (by decide +kernel)
theorem wG376 : (Cond.code yX0_sortEnded cX0_sortEnded 4 (some .int) : Cond) ∈ wsG := wsG_at 376 (by decide +kernel) (by decide +kernel)
theorem wG377 : (Cond.methodLink RX0 93 yX0_moveIn : Cond) ∈ wsG := wsG_at 377 (by decide +kernel) (by decide +kernel)
theorem wG379 : (Cond.instanceMethod yX0_moveIn : Cond) ∈ wsG := wsG_at 379 (by decide +kernel) (by decide +kernel)
theorem wG380 : (Cond.code yX0_moveIn cX0_moveIn 3 (some .int) : Cond) ∈ wsG := wsG_at 380 (by decide +kernel) (by decide +kernel)
theorem wG381 : (Cond.methodLink RX5 64 yX5_countPair : Cond) ∈ wsG := wsG_at 381 (by decide +kernel) (by decide +kernel)
theorem wG383 : (Cond.instanceMethod yX5_countPair : Cond) ∈ wsG := wsG_at 383 (by decide +kernel) (by decide +kernel)
theorem wG384 : (Cond.code yX5_countPair cX5_countPair 4 none : Cond) ∈ wsG := wsG_at 384 (by decide +kernel) (by decide +kernel)
theorem wG385 : (Cond.methodLink RX5 70 yX0_sortPair : Cond) ∈ wsG := wsG_at 385 (by decide +kernel) (by decide +kernel)
theorem wG387 : (Cond.static yX6_isSortPair : Cond) ∈ wsG := wsG_at 387 (by decide +kernel) (by decide +kernel)
theorem wG388 : (Cond.code yX6_isSortPair cX6_isSortPair 1 (some .boolean) : Cond) ∈ wsG := wsG_at 388 (by decide +kernel) (by decide +kernel)
theorem wG389 : (Cond.methodLink RX5 67 yX0_gain : Cond) ∈ wsG := wsG_at 389 (by decide +kernel) (by decide +kernel)
theorem wG390 : (Cond.instanceMethod yX0_gain : Cond) ∈ wsG := wsG_at 390 (by decide +kernel) (by decide +kernel)
theorem wG391 : (Cond.selects RX0 yX0_gain yX0_gain : Cond) ∈ wsG := wsG_at 391 (by decide +kernel) (by decide +kernel)
theorem wG392 : (Cond.code yX0_gain cX0_gain 3 (some .int) : Cond) ∈ wsG := wsG_at 392 (by decide +kernel) (by decide +kernel)
theorem wG393 : (Cond.methodLink RL 31 yX6_drop : Cond) ∈ wsG := wsG_at 393 (by decide +kernel) (by decide +kernel)
theorem wG394 : (Cond.instanceMethod yX6_drop : Cond) ∈ wsG := wsG_at 394 (by decide +kernel) (by decide +kernel)
theorem wG395 : (Cond.selects RX6 yX6_drop yX6_drop : Cond) ∈ wsG := wsG_at 395 (by decide +kernel) (by decide +kernel)
theorem wG396 : (Cond.code yX6_drop cX6_drop 1 (some .int) : Cond) ∈ wsG := wsG_at 396 (by decide +kernel) (by decide +kernel)
theorem wG397 : (Cond.methodLink RL 35 yX6_ink : Cond) ∈ wsG := wsG_at 397 (by decide +kernel) (by decide +kernel)
theorem wG398 : (Cond.instanceMethod yX6_ink : Cond) ∈ wsG := wsG_at 398 (by decide +kernel) (by decide +kernel)
theorem wG399 : (Cond.selects RX6 yX6_ink yX6_ink : Cond) ∈ wsG := wsG_at 399 (by decide +kernel) (by decide +kernel)
theorem wG400 : (Cond.code yX6_ink cX6_ink 3 (some .int) : Cond) ∈ wsG := wsG_at 400 (by decide +kernel) (by decide +kernel)
theorem wG401 : (Cond.methodLink RX6 89 yX6_isCode : Cond) ∈ wsG := wsG_at 401 (by decide +kernel) (by decide +kernel)
theorem wG403 : (Cond.instanceMethod yX6_isCode : Cond) ∈ wsG := wsG_at 403 (by decide +kernel) (by decide +kernel)
theorem wG404 : (Cond.code yX6_isCode cX6_isCode 2 (some .boolean) : Cond) ∈ wsG := wsG_at 404 (by decide +kernel) (by decide +kernel)
theorem wG405 : (Cond.methodLink RX6 93 yX0_textLength : Cond) ∈ wsG := wsG_at 405 (by decide +kernel) (by decide +kernel)
theorem wG406 : (Cond.instanceMethod yX0_textLength : Cond) ∈ wsG := wsG_at 406 (by decide +kernel) (by decide +kernel)
theorem wG407 : (Cond.selects RX0 yX0_textLength yX0_textLength : Cond) ∈ wsG := wsG_at 407 (by decide +kernel) (by decide +kernel)
theorem wG408 : (Cond.code yX0_textLength cX0_textLength 1 (some .int) : Cond) ∈ wsG := wsG_at 408 (by decide +kernel) (by decide +kernel)
theorem wG409 : (Cond.methodLink RX6 97 yX0_textAt : Cond) ∈ wsG := wsG_at 409 (by decide +kernel) (by decide +kernel)
theorem wG410 : (Cond.instanceMethod yX0_textAt : Cond) ∈ wsG := wsG_at 410 (by decide +kernel) (by decide +kernel)
theorem wG411 : (Cond.selects RX0 yX0_textAt yX0_textAt : Cond) ∈ wsG := wsG_at 411 (by decide +kernel) (by decide +kernel)
theorem wG412 : (Cond.code yX0_textAt cX0_textAt 2 (some .int) : Cond) ∈ wsG := wsG_at 412 (by decide +kernel) (by decide +kernel)
theorem wG413 : (Cond.methodLink RL 40 yX6_open : Cond) ∈ wsG := wsG_at 413 (by decide +kernel) (by decide +kernel)
theorem wG414 : (Cond.instanceMethod yX6_open : Cond) ∈ wsG := wsG_at 414 (by decide +kernel) (by decide +kernel)
theorem wG415 : (Cond.selects RX6 yX6_open yX6_open : Cond) ∈ wsG := wsG_at 415 (by decide +kernel) (by decide +kernel)
theorem wG416 : (Cond.code yX6_open cX6_open 3 (some .int) : Cond) ∈ wsG := wsG_at 416 (by decide +kernel) (by decide +kernel)
theorem wG417 : (Cond.methodLink RX6 101 yX6_readAgain : Cond) ∈ wsG := wsG_at 417 (by decide +kernel) (by decide +kernel)
theorem wG419 : (Cond.instanceMethod yX6_readAgain : Cond) ∈ wsG := wsG_at 419 (by decide +kernel) (by decide +kernel)
theorem wG420 : (Cond.code yX6_readAgain cX6_readAgain 2 none : Cond) ∈ wsG := wsG_at 420 (by decide +kernel) (by decide +kernel)
theorem wG421 : (Cond.methodLink RL 44 yX6_feed : Cond) ∈ wsG := wsG_at 421 (by decide +kernel) (by decide +kernel)
theorem wG422 : (Cond.instanceMethod yX6_feed : Cond) ∈ wsG := wsG_at 422 (by decide +kernel) (by decide +kernel)
theorem wG423 : (Cond.selects RX6 yX6_feed yX6_feed : Cond) ∈ wsG := wsG_at 423 (by decide +kernel) (by decide +kernel)
theorem wG424 : (Cond.code yX6_feed cX6_feed 2 (some .int) : Cond) ∈ wsG := wsG_at 424 (by decide +kernel) (by decide +kernel)
theorem wG425 : (Cond.methodLink RX6 104 yX6_isUnit : Cond) ∈ wsG := wsG_at 425 (by decide +kernel) (by decide +kernel)
theorem wG426 : (Cond.methodLink RX6 107 yX6_letCome : Cond) ∈ wsG := wsG_at 426 (by decide +kernel) (by decide +kernel)
theorem wG428 : (Cond.instanceMethod yX6_letCome : Cond) ∈ wsG := wsG_at 428 (by decide +kernel) (by decide +kernel)
theorem wG429 : (Cond.code yX6_letCome cX6_letCome 2 none : Cond) ∈ wsG := wsG_at 429 (by decide +kernel) (by decide +kernel)
theorem wG430 : (Cond.methodLink RL 48 yX6_feeds : Cond) ∈ wsG := wsG_at 430 (by decide +kernel) (by decide +kernel)
theorem wG431 : (Cond.instanceMethod yX6_feeds : Cond) ∈ wsG := wsG_at 431 (by decide +kernel) (by decide +kernel)
theorem wG432 : (Cond.selects RX6 yX6_feeds yX6_feeds : Cond) ∈ wsG := wsG_at 432 (by decide +kernel) (by decide +kernel)
theorem wG433 : (Cond.code yX6_feeds cX6_feeds 2 (some .int) : Cond) ∈ wsG := wsG_at 433 (by decide +kernel) (by decide +kernel)
theorem wG434 : (Cond.methodLink RL 52 yX6_back : Cond) ∈ wsG := wsG_at 434 (by decide +kernel) (by decide +kernel)
theorem wG435 : (Cond.instanceMethod yX6_back : Cond) ∈ wsG := wsG_at 435 (by decide +kernel) (by decide +kernel)
theorem wG436 : (Cond.selects RX6 yX6_back yX6_back : Cond) ∈ wsG := wsG_at 436 (by decide +kernel) (by decide +kernel)
theorem wG437 : (Cond.code yX6_back cX6_back 1 (some .int) : Cond) ∈ wsG := wsG_at 437 (by decide +kernel) (by decide +kernel)
theorem wG438 : (Cond.methodLink RL 56 yX6_unit : Cond) ∈ wsG := wsG_at 438 (by decide +kernel) (by decide +kernel)
theorem wG439 : (Cond.instanceMethod yX6_unit : Cond) ∈ wsG := wsG_at 439 (by decide +kernel) (by decide +kernel)
theorem wG440 : (Cond.selects RX6 yX6_unit yX6_unit : Cond) ∈ wsG := wsG_at 440 (by decide +kernel) (by decide +kernel)
theorem wG441 : (Cond.code yX6_unit cX6_unit 2 (some .int) : Cond) ∈ wsG := wsG_at 441 (by decide +kernel) (by decide +kernel)
theorem wG442 : (Cond.methodLink RL 60 yX6_about : Cond) ∈ wsG := wsG_at 442 (by decide +kernel) (by decide +kernel)
theorem wG443 : (Cond.instanceMethod yX6_about : Cond) ∈ wsG := wsG_at 443 (by decide +kernel) (by decide +kernel)
theorem wG444 : (Cond.selects RX6 yX6_about yX6_about : Cond) ∈ wsG := wsG_at 444 (by decide +kernel) (by decide +kernel)
theorem wG445 : (Cond.code yX6_about cX6_about 4 (some .int) : Cond) ∈ wsG := wsG_at 445 (by decide +kernel) (by decide +kernel)
theorem wG446 : (Cond.methodLink RX6 111 yX0_kind : Cond) ∈ wsG := wsG_at 446 (by decide +kernel) (by decide +kernel)
theorem wG447 : (Cond.instanceMethod yX0_kind : Cond) ∈ wsG := wsG_at 447 (by decide +kernel) (by decide +kernel)
theorem wG448 : (Cond.selects RX0 yX0_kind yX0_kind : Cond) ∈ wsG := wsG_at 448 (by decide +kernel) (by decide +kernel)
theorem wG449 : (Cond.code yX0_kind cX0_kind 1 (some .int) : Cond) ∈ wsG := wsG_at 449 (by decide +kernel) (by decide +kernel)
theorem wG450 : (Cond.methodLink RX6 114 yX5_isAlive : Cond) ∈ wsG := wsG_at 450 (by decide +kernel) (by decide +kernel)
theorem wG451 : (Cond.instanceMethod yX5_isAlive : Cond) ∈ wsG := wsG_at 451 (by decide +kernel) (by decide +kernel)
theorem wG452 : (Cond.selects RX5 yX5_isAlive yX5_isAlive : Cond) ∈ wsG := wsG_at 452 (by decide +kernel) (by decide +kernel)
theorem wG453 : (Cond.code yX5_isAlive cX5_isAlive 1 (some .boolean) : Cond) ∈ wsG := wsG_at 453 (by decide +kernel) (by decide +kernel)
theorem wG454 : (Cond.methodLink RX6 118 yX5_isValid : Cond) ∈ wsG := wsG_at 454 (by decide +kernel) (by decide +kernel)
theorem wG455 : (Cond.instanceMethod yX5_isValid : Cond) ∈ wsG := wsG_at 455 (by decide +kernel) (by decide +kernel)
theorem wG456 : (Cond.selects RX5 yX5_isValid yX5_isValid : Cond) ∈ wsG := wsG_at 456 (by decide +kernel) (by decide +kernel)
theorem wG457 : (Cond.code yX5_isValid cX5_isValid 1 (some .boolean) : Cond) ∈ wsG := wsG_at 457 (by decide +kernel) (by decide +kernel)
theorem wG458 : (Cond.methodLink RX6 121 yX5_signCount : Cond) ∈ wsG := wsG_at 458 (by decide +kernel) (by decide +kernel)
theorem wG459 : (Cond.instanceMethod yX5_signCount : Cond) ∈ wsG := wsG_at 459 (by decide +kernel) (by decide +kernel)
theorem wG460 : (Cond.selects RX5 yX5_signCount yX5_signCount : Cond) ∈ wsG := wsG_at 460 (by decide +kernel) (by decide +kernel)
theorem wG461 : (Cond.code yX5_signCount cX5_signCount 1 (some .int) : Cond) ∈ wsG := wsG_at 461 (by decide +kernel) (by decide +kernel)
theorem wG462 : (Cond.methodLink RX6 124 yX5_weight : Cond) ∈ wsG := wsG_at 462 (by decide +kernel) (by decide +kernel)
theorem wG463 : (Cond.instanceMethod yX5_weight : Cond) ∈ wsG := wsG_at 463 (by decide +kernel) (by decide +kernel)
theorem wG464 : (Cond.selects RX5 yX5_weight yX5_weight : Cond) ∈ wsG := wsG_at 464 (by decide +kernel) (by decide +kernel)
theorem wG465 : (Cond.code yX5_weight cX5_weight 1 (some .int) : Cond) ∈ wsG := wsG_at 465 (by decide +kernel) (by decide +kernel)
theorem wG466 : (Cond.methodLink RX6 127 yX5_allowedUnits : Cond) ∈ wsG := wsG_at 466 (by decide +kernel) (by decide +kernel)
theorem wG467 : (Cond.instanceMethod yX5_allowedUnits : Cond) ∈ wsG := wsG_at 467 (by decide +kernel) (by decide +kernel)
theorem wG468 : (Cond.selects RX5 yX5_allowedUnits yX5_allowedUnits : Cond) ∈ wsG := wsG_at 468 (by decide +kernel) (by decide +kernel)
theorem wG469 : (Cond.code yX5_allowedUnits cX5_allowedUnits 1 (some .int) : Cond) ∈ wsG := wsG_at 469 (by decide +kernel) (by decide +kernel)
theorem wG470 : (Cond.methodLink RX6 130 yX6_firstSure : Cond) ∈ wsG := wsG_at 470 (by decide +kernel) (by decide +kernel)
theorem wG472 : (Cond.instanceMethod yX6_firstSure : Cond) ∈ wsG := wsG_at 472 (by decide +kernel) (by decide +kernel)
theorem wG473 : (Cond.code yX6_firstSure cX6_firstSure 6 (some .int) : Cond) ∈ wsG := wsG_at 473 (by decide +kernel) (by decide +kernel)
theorem wG474 : (Cond.methodLink RX6 225 yX3_lastHope : Cond) ∈ wsG := wsG_at 474 (by decide +kernel) (by decide +kernel)
theorem wG475 : (Cond.instanceMethod yX3_lastHope : Cond) ∈ wsG := wsG_at 475 (by decide +kernel) (by decide +kernel)
theorem wG476 : (Cond.selects RX3 yX3_lastHope yX3_lastHope : Cond) ∈ wsG := wsG_at 476 (by decide +kernel) (by decide +kernel)
theorem wG477 : (Cond.code yX3_lastHope cX3_lastHope 6 (some .int) : Cond) ∈ wsG := wsG_at 477 (by decide +kernel) (by decide +kernel)
theorem wG478 : (Cond.methodLink RX3 18 yX5_stateAt : Cond) ∈ wsG := wsG_at 478 (by decide +kernel) (by decide +kernel)
theorem wG479 : (Cond.instanceMethod yX5_stateAt : Cond) ∈ wsG := wsG_at 479 (by decide +kernel) (by decide +kernel)
theorem wG480 : (Cond.selects RX5 yX5_stateAt yX5_stateAt : Cond) ∈ wsG := wsG_at 480 (by decide +kernel) (by decide +kernel)
theorem wG481 : (Cond.code yX5_stateAt cX5_stateAt 2 (some .int) : Cond) ∈ wsG := wsG_at 481 (by decide +kernel) (by decide +kernel)
theorem wG482 : (Cond.methodLink RX3 24 yX0_modeOf : Cond) ∈ wsG := wsG_at 482 (by decide +kernel) (by decide +kernel)
theorem wG483 : (Cond.methodLink RX3 33 yX3_oneUnitEarlier : Cond) ∈ wsG := wsG_at 483 (by decide +kernel) (by decide +kernel)
theorem wG484 : (Cond.static yX3_oneUnitEarlier : Cond) ∈ wsG := wsG_at 484 (by decide +kernel) (by decide +kernel)
theorem wG485 : (Cond.code yX3_oneUnitEarlier cX3_oneUnitEarlier 7 (some .int) : Cond) ∈ wsG := wsG_at 485 (by decide +kernel) (by decide +kernel)
theorem wG486 : (Cond.methodLink RX3 37 yX0_modes : Cond) ∈ wsG := wsG_at 486 (by decide +kernel) (by decide +kernel)
theorem wG487 : (Cond.instanceMethod yX0_modes : Cond) ∈ wsG := wsG_at 487 (by decide +kernel) (by decide +kernel)
theorem wG488 : (Cond.selects RX0 yX0_modes yX0_modes : Cond) ∈ wsG := wsG_at 488 (by decide +kernel) (by decide +kernel)
theorem wG489 : (Cond.code yX0_modes cX0_modes 1 (some .int) : Cond) ∈ wsG := wsG_at 489 (by decide +kernel) (by decide +kernel)
theorem wG490 : (Cond.methodLink RX3 41 yX0_nextMode : Cond) ∈ wsG := wsG_at 490 (by decide +kernel) (by decide +kernel)
theorem wG491 : (Cond.instanceMethod yX0_nextMode : Cond) ∈ wsG := wsG_at 491 (by decide +kernel) (by decide +kernel)
theorem wG492 : (Cond.selects RX0 yX0_nextMode yX0_nextMode : Cond) ∈ wsG := wsG_at 492 (by decide +kernel) (by decide +kernel)
theorem wG493 : (Cond.code yX0_nextMode cX0_nextMode 4 (some .int) : Cond) ∈ wsG := wsG_at 493 (by decide +kernel) (by decide +kernel)
theorem wG494 : (Cond.methodLink RX6 229 yX3_lastBeaten : Cond) ∈ wsG := wsG_at 494 (by decide +kernel) (by decide +kernel)
theorem wG495 : (Cond.instanceMethod yX3_lastBeaten : Cond) ∈ wsG := wsG_at 495 (by decide +kernel) (by decide +kernel)
theorem wG496 : (Cond.selects RX3 yX3_lastBeaten yX3_lastBeaten : Cond) ∈ wsG := wsG_at 496 (by decide +kernel) (by decide +kernel)
theorem wG497 : (Cond.code yX3_lastBeaten cX3_lastBeaten 8 (some .int) : Cond) ∈ wsG := wsG_at 497 (by decide +kernel) (by decide +kernel)
theorem wG498 : (Cond.methodLink RX3 45 yX3_beginAtEnd : Cond) ∈ wsG := wsG_at 498 (by decide +kernel) (by decide +kernel)
theorem wG500 : (Cond.instanceMethod yX3_beginAtEnd : Cond) ∈ wsG := wsG_at 500 (by decide +kernel) (by decide +kernel)
theorem wG501 : (Cond.code yX3_beginAtEnd cX3_beginAtEnd 3 none : Cond) ∈ wsG := wsG_at 501 (by decide +kernel) (by decide +kernel)
theorem wG502 : (Cond.constant RX3 51 (-1000000) : Cond) ∈ wsG := wsG_at 502 (by decide +kernel) (by decide +kernel)
theorem wG503 : (Cond.methodLink RX3 59 yJ7_fill_53178 : Cond) ∈ wsG := wsG_at 503 (by decide +kernel) (by decide +kernel)
theorem wG504 : (Cond.methodLink RX3 48 yX3_leadAt : Cond) ∈ wsG := wsG_at 504 (by decide +kernel) (by decide +kernel)
theorem wG506 : (Cond.instanceMethod yX3_leadAt : Cond) ∈ wsG := wsG_at 506 (by decide +kernel) (by decide +kernel)
theorem wG507 : (Cond.code yX3_leadAt cX3_leadAt 3 (some .int) : Cond) ∈ wsG := wsG_at 507 (by decide +kernel) (by decide +kernel)
theorem wG508 : (Cond.methodLink RX3 52 yX5_weightAt : Cond) ∈ wsG := wsG_at 508 (by decide +kernel) (by decide +kernel)
theorem wG509 : (Cond.instanceMethod yX5_weightAt : Cond) ∈ wsG := wsG_at 509 (by decide +kernel) (by decide +kernel)
theorem wG510 : (Cond.selects RX5 yX5_weightAt yX5_weightAt : Cond) ∈ wsG := wsG_at 510 (by decide +kernel) (by decide +kernel)
theorem wG511 : (Cond.code yX5_weightAt cX5_weightAt 2 (some .int) : Cond) ∈ wsG := wsG_at 511 (by decide +kernel) (by decide +kernel)
theorem wG512 : (Cond.methodLink RX3 55 yX3_lengthen : Cond) ∈ wsG := wsG_at 512 (by decide +kernel) (by decide +kernel)
theorem wG514 : (Cond.instanceMethod yX3_lengthen : Cond) ∈ wsG := wsG_at 514 (by decide +kernel) (by decide +kernel)
theorem wG515 : (Cond.code yX3_lengthen cX3_lengthen 7 none : Cond) ∈ wsG := wsG_at 515 (by decide +kernel) (by decide +kernel)
theorem wG516 : (Cond.methodLink RX3 65 yX0_states : Cond) ∈ wsG := wsG_at 516 (by decide +kernel) (by decide +kernel)
theorem wG517 : (Cond.instanceMethod yX0_states : Cond) ∈ wsG := wsG_at 517 (by decide +kernel) (by decide +kernel)
theorem wG518 : (Cond.selects RX0 yX0_states yX0_states : Cond) ∈ wsG := wsG_at 518 (by decide +kernel) (by decide +kernel)
theorem wG519 : (Cond.code yX0_states cX0_states 1 (some .int) : Cond) ∈ wsG := wsG_at 519 (by decide +kernel) (by decide +kernel)
theorem wG520 : (Cond.methodLink RX3 68 yJ9_min_7cf53 : Cond) ∈ wsG := wsG_at 520 (by decide +kernel) (by decide +kernel)
theorem wG521 : (Cond.methodLink RX3 73 yX0_nextState : Cond) ∈ wsG := wsG_at 521 (by decide +kernel) (by decide +kernel)
theorem wG522 : (Cond.methodLink RX3 76 yX0_gain : Cond) ∈ wsG := wsG_at 522 (by decide +kernel) (by decide +kernel)
theorem wG523 : (Cond.methodLink RX3 79 yX3_lengthenBy : Cond) ∈ wsG := wsG_at 523 (by decide +kernel) (by decide +kernel)
theorem wG525 : (Cond.instanceMethod yX3_lengthenBy : Cond) ∈ wsG := wsG_at 525 (by decide +kernel) (by decide +kernel)
theorem wG526 : (Cond.code yX3_lengthenBy cX3_lengthenBy 11 none : Cond) ∈ wsG := wsG_at 526 (by decide +kernel) (by decide +kernel)
theorem wG527 : (Cond.methodLink RX3 89 yJ9_max_7cf53 : Cond) ∈ wsG := wsG_at 527 (by decide +kernel) (by decide +kernel)
theorem wG528 : (Cond.static yJ9_max_7cf53 : Cond) ∈ wsG := wsG_at 528 (by decide +kernel) (by decide +kernel)
theorem wG529 : (Cond.code yJ9_max_7cf53 cJ9_max_7cf53 2 (some .int) : Cond) ∈ wsG := wsG_at 529 (by decide +kernel) (by decide +kernel)
theorem wG530 : (Cond.methodLink RX3 83 arraycopyName : Cond) ∈ wsG := wsG_at 530 (by decide +kernel) (by decide +kernel)
theorem wG531 : (Cond.static arraycopyName : Cond) ∈ wsG := wsG_at 531 (by decide +kernel) (by decide +kernel)
theorem wG532 : (Cond.native arraycopyName : Cond) ∈ wsG := wsG_at 532 (by decide +kernel) (by decide +kernel)
theorem wG533 : (Cond.methodLink RX6 233 yJ9_max_7cf53 : Cond) ∈ wsG := wsG_at 533 (by decide +kernel) (by decide +kernel)
theorem wG534 : (Cond.methodLink RX6 133 yX6_placeInRanking : Cond) ∈ wsG := wsG_at 534 (by decide +kernel) (by decide +kernel)
theorem wG536 : (Cond.instanceMethod yX6_placeInRanking : Cond) ∈ wsG := wsG_at 536 (by decide +kernel) (by decide +kernel)
theorem wG537 : (Cond.code yX6_placeInRanking cX6_placeInRanking 4 (some .int) : Cond) ∈ wsG := wsG_at 537 (by decide +kernel) (by decide +kernel)
theorem wG538 : (Cond.methodLink RX6 218 yX6_isAhead : Cond) ∈ wsG := wsG_at 538 (by decide +kernel) (by decide +kernel)
theorem wG540 : (Cond.instanceMethod yX6_isAhead : Cond) ∈ wsG := wsG_at 540 (by decide +kernel) (by decide +kernel)
theorem wG541 : (Cond.code yX6_isAhead cX6_isAhead 5 (some .boolean) : Cond) ∈ wsG := wsG_at 541 (by decide +kernel) (by decide +kernel)
theorem wG542 : (Cond.methodLink RX6 222 yX5_group : Cond) ∈ wsG := wsG_at 542 (by decide +kernel) (by decide +kernel)
theorem wG543 : (Cond.instanceMethod yX5_group : Cond) ∈ wsG := wsG_at 543 (by decide +kernel) (by decide +kernel)
theorem wG544 : (Cond.selects RX5 yX5_group yX5_group : Cond) ∈ wsG := wsG_at 544 (by decide +kernel) (by decide +kernel)
theorem wG545 : (Cond.code yX5_group cX5_group 1 (some .int) : Cond) ∈ wsG := wsG_at 545 (by decide +kernel) (by decide +kernel)
theorem wG546 : (Cond.methodLink RX5 77 yX5_isValid : Cond) ∈ wsG := wsG_at 546 (by decide +kernel) (by decide +kernel)
theorem wG547 : (Cond.methodLink RL 64 yX6_points : Cond) ∈ wsG := wsG_at 547 (by decide +kernel) (by decide +kernel)
theorem wG548 : (Cond.instanceMethod yX6_points : Cond) ∈ wsG := wsG_at 548 (by decide +kernel) (by decide +kernel)
theorem wG549 : (Cond.selects RX6 yX6_points yX6_points : Cond) ∈ wsG := wsG_at 549 (by decide +kernel) (by decide +kernel)
theorem wG550 : (Cond.code yX6_points cX6_points 3 (some .int) : Cond) ∈ wsG := wsG_at 550 (by decide +kernel) (by decide +kernel)
theorem wG551 : (Cond.methodLink RX6 136 yX6_isSortPair : Cond) ∈ wsG := wsG_at 551 (by decide +kernel) (by decide +kernel)
theorem wG552 : (Cond.methodLink RX6 139 yX0_pointsOf : Cond) ∈ wsG := wsG_at 552 (by decide +kernel) (by decide +kernel)
theorem wG553 : (Cond.methodLink RL 68 yX6_pairs : Cond) ∈ wsG := wsG_at 553 (by decide +kernel) (by decide +kernel)
theorem wG554 : (Cond.instanceMethod yX6_pairs : Cond) ∈ wsG := wsG_at 554 (by decide +kernel) (by decide +kernel)
theorem wG555 : (Cond.selects RX6 yX6_pairs yX6_pairs : Cond) ∈ wsG := wsG_at 555 (by decide +kernel) (by decide +kernel)
theorem wG556 : (Cond.code yX6_pairs cX6_pairs 3 (some .int) : Cond) ∈ wsG := wsG_at 556 (by decide +kernel) (by decide +kernel)
theorem wG557 : (Cond.methodLink RX6 142 yX5_pairCount : Cond) ∈ wsG := wsG_at 557 (by decide +kernel) (by decide +kernel)
theorem wG558 : (Cond.instanceMethod yX5_pairCount : Cond) ∈ wsG := wsG_at 558 (by decide +kernel) (by decide +kernel)
theorem wG559 : (Cond.selects RX5 yX5_pairCount yX5_pairCount : Cond) ∈ wsG := wsG_at 559 (by decide +kernel) (by decide +kernel)
theorem wG560 : (Cond.code yX5_pairCount cX5_pairCount 2 (some .int) : Cond) ∈ wsG := wsG_at 560 (by decide +kernel) (by decide +kernel)
theorem wG561 : (Cond.methodLink RL 72 yX6_judged : Cond) ∈ wsG := wsG_at 561 (by decide +kernel) (by decide +kernel)
theorem wG562 : (Cond.instanceMethod yX6_judged : Cond) ∈ wsG := wsG_at 562 (by decide +kernel) (by decide +kernel)
theorem wG563 : (Cond.selects RX6 yX6_judged yX6_judged : Cond) ∈ wsG := wsG_at 563 (by decide +kernel) (by decide +kernel)
theorem wG564 : (Cond.code yX6_judged cX6_judged 2 (some .int) : Cond) ∈ wsG := wsG_at 564 (by decide +kernel) (by decide +kernel)
theorem wG565 : (Cond.methodLink RX6 145 yX6_rank : Cond) ∈ wsG := wsG_at 565 (by decide +kernel) (by decide +kernel)
theorem wG566 : (Cond.instanceMethod yX6_rank : Cond) ∈ wsG := wsG_at 566 (by decide +kernel) (by decide +kernel)
theorem wG567 : (Cond.selects RX6 yX6_rank yX6_rank : Cond) ∈ wsG := wsG_at 567 (by decide +kernel) (by decide +kernel)
theorem wG568 : (Cond.code yX6_rank cX6_rank 3 (some .int) : Cond) ∈ wsG := wsG_at 568 (by decide +kernel) (by decide +kernel)
theorem wG569 : (Cond.methodLink RL 76 yX6_rank : Cond) ∈ wsG := wsG_at 569 (by decide +kernel) (by decide +kernel)
theorem wG570 : (Cond.methodLink RL 80 yX6_rows : Cond) ∈ wsG := wsG_at 570 (by decide +kernel) (by decide +kernel)
theorem wG571 : (Cond.instanceMethod yX6_rows : Cond) ∈ wsG := wsG_at 571 (by decide +kernel) (by decide +kernel)
theorem wG572 : (Cond.selects RX6 yX6_rows yX6_rows : Cond) ∈ wsG := wsG_at 572 (by decide +kernel) (by decide +kernel)
theorem wG573 : (Cond.code yX6_rows cX6_rows 3 (some .int) : Cond) ∈ wsG := wsG_at 573 (by decide +kernel) (by decide +kernel)
theorem wG574 : (Cond.methodLink RX6 148 yX0_validRows : Cond) ∈ wsG := wsG_at 574 (by decide +kernel) (by decide +kernel)
theorem wG575 : (Cond.instanceMethod yX0_validRows : Cond) ∈ wsG := wsG_at 575 (by decide +kernel) (by decide +kernel)
theorem wG576 : (Cond.selects RX0 yX0_validRows yX0_validRows : Cond) ∈ wsG := wsG_at 576 (by decide +kernel) (by decide +kernel)
theorem wG577 : (Cond.code yX0_validRows cX0_validRows 3 (some .int) : Cond) ∈ wsG := wsG_at 577 (by decide +kernel) (by decide +kernel)
theorem wG578 : (Cond.methodLink RX0 96 yJ7_fill_53178 : Cond) ∈ wsG := wsG_at 578 (by decide +kernel) (by decide +kernel)
theorem wG579 : (Cond.methodLink RX0 102 yX0_lengthenWays : Cond) ∈ wsG := wsG_at 579 (by decide +kernel) (by decide +kernel)
theorem wG581 : (Cond.instanceMethod yX0_lengthenWays : Cond) ∈ wsG := wsG_at 581 (by decide +kernel) (by decide +kernel)
theorem wG582 : (Cond.code yX0_lengthenWays cX0_lengthenWays 4 none : Cond) ∈ wsG := wsG_at 582 (by decide +kernel) (by decide +kernel)
theorem wG583 : (Cond.methodLink RX0 105 yX0_nextMode : Cond) ∈ wsG := wsG_at 583 (by decide +kernel) (by decide +kernel)
theorem wG584 : (Cond.methodLink RX0 108 arraycopyName : Cond) ∈ wsG := wsG_at 584 (by decide +kernel) (by decide +kernel)
theorem wG585 : (Cond.methodLink RL 84 yX6_apart : Cond) ∈ wsG := wsG_at 585 (by decide +kernel) (by decide +kernel)
theorem wG586 : (Cond.instanceMethod yX6_apart : Cond) ∈ wsG := wsG_at 586 (by decide +kernel) (by decide +kernel)
theorem wG587 : (Cond.selects RX6 yX6_apart yX6_apart : Cond) ∈ wsG := wsG_at 587 (by decide +kernel) (by decide +kernel)
theorem wG588 : (Cond.code yX6_apart cX6_apart 3 (some .int) : Cond) ∈ wsG := wsG_at 588 (by decide +kernel) (by decide +kernel)
theorem wG589 : (Cond.methodLink RX6 151 yX4_search : Cond) ∈ wsG := wsG_at 589 (by decide +kernel) (by decide +kernel)
theorem wG590 : (Cond.instanceMethod yX4_search : Cond) ∈ wsG := wsG_at 590 (by decide +kernel) (by decide +kernel)
theorem wG591 : (Cond.selects RX4 yX4_search yX4_search : Cond) ∈ wsG := wsG_at 591 (by decide +kernel) (by decide +kernel)
theorem wG592 : (Cond.code yX4_search cX4_search 5 (some .boolean) : Cond) ∈ wsG := wsG_at 592 (by decide +kernel) (by decide +kernel)
theorem wG593 : (Cond.methodLink RX4 24 yJ7_fill_53178 : Cond) ∈ wsG := wsG_at 593 (by decide +kernel) (by decide +kernel)
theorem wG594 : (Cond.methodLink RX4 37 yX4_reach : Cond) ∈ wsG := wsG_at 594 (by decide +kernel) (by decide +kernel)
theorem wG596 : (Cond.instanceMethod yX4_reach : Cond) ∈ wsG := wsG_at 596 (by decide +kernel) (by decide +kernel)
theorem wG597 : (Cond.code yX4_reach cX4_reach 4 none : Cond) ∈ wsG := wsG_at 597 (by decide +kernel) (by decide +kernel)
theorem wG598 : (Cond.methodLink RX4 41 yX4_parts : Cond) ∈ wsG := wsG_at 598 (by decide +kernel) (by decide +kernel)
theorem wG599 : (Cond.static yX4_parts : Cond) ∈ wsG := wsG_at 599 (by decide +kernel) (by decide +kernel)
theorem wG600 : (Cond.code yX4_parts cX4_parts 1 (some .boolean) : Cond) ∈ wsG := wsG_at 600 (by decide +kernel) (by decide +kernel)
theorem wG601 : (Cond.methodLink RX4 45 yX4_writeRow : Cond) ∈ wsG := wsG_at 601 (by decide +kernel) (by decide +kernel)
theorem wG603 : (Cond.instanceMethod yX4_writeRow : Cond) ∈ wsG := wsG_at 603 (by decide +kernel) (by decide +kernel)
theorem wG604 : (Cond.code yX4_writeRow cX4_writeRow 5 none : Cond) ∈ wsG := wsG_at 604 (by decide +kernel) (by decide +kernel)
theorem wG605 : (Cond.methodLink RX4 49 yX4_expand : Cond) ∈ wsG := wsG_at 605 (by decide +kernel) (by decide +kernel)
theorem wG607 : (Cond.instanceMethod yX4_expand : Cond) ∈ wsG := wsG_at 607 (by decide +kernel) (by decide +kernel)
theorem wG608 : (Cond.code yX4_expand cX4_expand 7 none : Cond) ∈ wsG := wsG_at 608 (by decide +kernel) (by decide +kernel)
theorem wG609 : (Cond.methodLink RX4 53 yX0_nextMode : Cond) ∈ wsG := wsG_at 609 (by decide +kernel) (by decide +kernel)
theorem wG610 : (Cond.methodLink RX6 155 yX4_rowLength : Cond) ∈ wsG := wsG_at 610 (by decide +kernel) (by decide +kernel)
theorem wG611 : (Cond.instanceMethod yX4_rowLength : Cond) ∈ wsG := wsG_at 611 (by decide +kernel) (by decide +kernel)
theorem wG612 : (Cond.selects RX4 yX4_rowLength yX4_rowLength : Cond) ∈ wsG := wsG_at 612 (by decide +kernel) (by decide +kernel)
theorem wG613 : (Cond.code yX4_rowLength cX4_rowLength 1 (some .int) : Cond) ∈ wsG := wsG_at 613 (by decide +kernel) (by decide +kernel)
theorem wG614 : (Cond.methodLink RL 88 yX6_tells : Cond) ∈ wsG := wsG_at 614 (by decide +kernel) (by decide +kernel)
theorem wG615 : (Cond.instanceMethod yX6_tells : Cond) ∈ wsG := wsG_at 615 (by decide +kernel) (by decide +kernel)
theorem wG616 : (Cond.selects RX6 yX6_tells yX6_tells : Cond) ∈ wsG := wsG_at 616 (by decide +kernel) (by decide +kernel)
theorem wG617 : (Cond.code yX6_tells cX6_tells 4 (some .int) : Cond) ∈ wsG := wsG_at 617 (by decide +kernel) (by decide +kernel)
theorem wG618 : (Cond.methodLink RX6 158 yX4_rowUnit : Cond) ∈ wsG := wsG_at 618 (by decide +kernel) (by decide +kernel)
theorem wG619 : (Cond.instanceMethod yX4_rowUnit : Cond) ∈ wsG := wsG_at 619 (by decide +kernel) (by decide +kernel)
theorem wG620 : (Cond.selects RX4 yX4_rowUnit yX4_rowUnit : Cond) ∈ wsG := wsG_at 620 (by decide +kernel) (by decide +kernel)
theorem wG621 : (Cond.code yX4_rowUnit cX4_rowUnit 2 (some .int) : Cond) ∈ wsG := wsG_at 621 (by decide +kernel) (by decide +kernel)
theorem wG622 : (Cond.methodLink RL 93 yX6_cuts : Cond) ∈ wsG := wsG_at 622 (by decide +kernel) (by decide +kernel)
theorem wG623 : (Cond.instanceMethod yX6_cuts : Cond) ∈ wsG := wsG_at 623 (by decide +kernel) (by decide +kernel)
theorem wG624 : (Cond.selects RX6 yX6_cuts yX6_cuts : Cond) ∈ wsG := wsG_at 624 (by decide +kernel) (by decide +kernel)
theorem wG625 : (Cond.code yX6_cuts cX6_cuts 2 (some .int) : Cond) ∈ wsG := wsG_at 625 (by decide +kernel) (by decide +kernel)
theorem wG626 : (Cond.methodLink RX6 161 yX1_divide : Cond) ∈ wsG := wsG_at 626 (by decide +kernel) (by decide +kernel)
theorem wG627 : (Cond.instanceMethod yX1_divide : Cond) ∈ wsG := wsG_at 627 (by decide +kernel) (by decide +kernel)
theorem wG628 : (Cond.selects RX1 yX1_divide yX1_divide : Cond) ∈ wsG := wsG_at 628 (by decide +kernel) (by decide +kernel)
theorem wG629 : (Cond.code yX1_divide cX1_divide 8 (some .boolean) : Cond) ∈ wsG := wsG_at 629 (by decide +kernel) (by decide +kernel)
theorem wG630 : (Cond.methodLink RX1 27 yJ9_min_7cf53 : Cond) ∈ wsG := wsG_at 630 (by decide +kernel) (by decide +kernel)
theorem wG631 : (Cond.methodLink RX1 33 yX1_tryPieces : Cond) ∈ wsG := wsG_at 631 (by decide +kernel) (by decide +kernel)
theorem wG633 : (Cond.instanceMethod yX1_tryPieces : Cond) ∈ wsG := wsG_at 633 (by decide +kernel) (by decide +kernel)
theorem wG634 : (Cond.code yX1_tryPieces cX1_tryPieces 9 none : Cond) ∈ wsG := wsG_at 634 (by decide +kernel) (by decide +kernel)
theorem wG635 : (Cond.methodLink RX1 37 yX0_gain : Cond) ∈ wsG := wsG_at 635 (by decide +kernel) (by decide +kernel)
theorem wG636 : (Cond.methodLink RX1 42 yX0_nextState : Cond) ∈ wsG := wsG_at 636 (by decide +kernel) (by decide +kernel)
theorem wG637 : (Cond.methodLink RX1 45 yX0_modeOf : Cond) ∈ wsG := wsG_at 637 (by decide +kernel) (by decide +kernel)
theorem wG638 : (Cond.methodLink RX1 49 yX1_tryPiece : Cond) ∈ wsG := wsG_at 638 (by decide +kernel) (by decide +kernel)
theorem wG640 : (Cond.instanceMethod yX1_tryPiece : Cond) ∈ wsG := wsG_at 640 (by decide +kernel) (by decide +kernel)
theorem wG641 : (Cond.code yX1_tryPiece cX1_tryPiece 8 none : Cond) ∈ wsG := wsG_at 641 (by decide +kernel) (by decide +kernel)
theorem wG642 : (Cond.methodLink RX1 53 yX1_isBetter : Cond) ∈ wsG := wsG_at 642 (by decide +kernel) (by decide +kernel)
theorem wG644 : (Cond.instanceMethod yX1_isBetter : Cond) ∈ wsG := wsG_at 644 (by decide +kernel) (by decide +kernel)
theorem wG645 : (Cond.code yX1_isBetter cX1_isBetter 6 (some .boolean) : Cond) ∈ wsG := wsG_at 645 (by decide +kernel) (by decide +kernel)
theorem wG646 : (Cond.methodLink RX6 165 yX1_worth : Cond) ∈ wsG := wsG_at 646 (by decide +kernel) (by decide +kernel)
theorem wG647 : (Cond.instanceMethod yX1_worth : Cond) ∈ wsG := wsG_at 647 (by decide +kernel) (by decide +kernel)
theorem wG648 : (Cond.selects RX1 yX1_worth yX1_worth : Cond) ∈ wsG := wsG_at 648 (by decide +kernel) (by decide +kernel)
theorem wG649 : (Cond.code yX1_worth cX1_worth 1 (some .int) : Cond) ∈ wsG := wsG_at 649 (by decide +kernel) (by decide +kernel)
theorem wG650 : (Cond.methodLink RX6 168 yX1_pieceCount : Cond) ∈ wsG := wsG_at 650 (by decide +kernel) (by decide +kernel)
theorem wG651 : (Cond.instanceMethod yX1_pieceCount : Cond) ∈ wsG := wsG_at 651 (by decide +kernel) (by decide +kernel)
theorem wG652 : (Cond.selects RX1 yX1_pieceCount yX1_pieceCount : Cond) ∈ wsG := wsG_at 652 (by decide +kernel) (by decide +kernel)
theorem wG653 : (Cond.code yX1_pieceCount cX1_pieceCount 1 (some .int) : Cond) ∈ wsG := wsG_at 653 (by decide +kernel) (by decide +kernel)
theorem wG654 : (Cond.methodLink RL 97 yX6_piece : Cond) ∈ wsG := wsG_at 654 (by decide +kernel) (by decide +kernel)
theorem wG655 : (Cond.instanceMethod yX6_piece : Cond) ∈ wsG := wsG_at 655 (by decide +kernel) (by decide +kernel)
theorem wG656 : (Cond.selects RX6 yX6_piece yX6_piece : Cond) ∈ wsG := wsG_at 656 (by decide +kernel) (by decide +kernel)
theorem wG657 : (Cond.code yX6_piece cX6_piece 3 (some .int) : Cond) ∈ wsG := wsG_at 657 (by decide +kernel) (by decide +kernel)
theorem wG658 : (Cond.methodLink RX6 171 yX1_propertyOf : Cond) ∈ wsG := wsG_at 658 (by decide +kernel) (by decide +kernel)
theorem wG659 : (Cond.instanceMethod yX1_propertyOf : Cond) ∈ wsG := wsG_at 659 (by decide +kernel) (by decide +kernel)
theorem wG660 : (Cond.selects RX1 yX1_propertyOf yX1_propertyOf : Cond) ∈ wsG := wsG_at 660 (by decide +kernel) (by decide +kernel)
theorem wG661 : (Cond.code yX1_propertyOf cX1_propertyOf 5 (some .int) : Cond) ∈ wsG := wsG_at 661 (by decide +kernel) (by decide +kernel)
theorem wG662 : (Cond.methodLink RL 101 yX6_count : Cond) ∈ wsG := wsG_at 662 (by decide +kernel) (by decide +kernel)
theorem wG663 : (Cond.instanceMethod yX6_count : Cond) ∈ wsG := wsG_at 663 (by decide +kernel) (by decide +kernel)
theorem wG664 : (Cond.selects RX6 yX6_count yX6_count : Cond) ∈ wsG := wsG_at 664 (by decide +kernel) (by decide +kernel)
theorem wG665 : (Cond.code yX6_count cX6_count 2 (some .int) : Cond) ∈ wsG := wsG_at 665 (by decide +kernel) (by decide +kernel)
theorem wG666 : (Cond.methodLink RX6 175 yX6_aliveCodes : Cond) ∈ wsG := wsG_at 666 (by decide +kernel) (by decide +kernel)
theorem wG668 : (Cond.instanceMethod yX6_aliveCodes : Cond) ∈ wsG := wsG_at 668 (by decide +kernel) (by decide +kernel)
theorem wG669 : (Cond.code yX6_aliveCodes cX6_aliveCodes 3 (some .int) : Cond) ∈ wsG := wsG_at 669 (by decide +kernel) (by decide +kernel)
theorem wG670 : (Cond.methodLink RX6 178 yX6_validCodes : Cond) ∈ wsG := wsG_at 670 (by decide +kernel) (by decide +kernel)
theorem wG672 : (Cond.instanceMethod yX6_validCodes : Cond) ∈ wsG := wsG_at 672 (by decide +kernel) (by decide +kernel)
theorem wG673 : (Cond.code yX6_validCodes cX6_validCodes 3 (some .int) : Cond) ∈ wsG := wsG_at 673 (by decide +kernel) (by decide +kernel)
theorem wG674 : (Cond.methodLink RL 105 yX6_digest : Cond) ∈ wsG := wsG_at 674 (by decide +kernel) (by decide +kernel)
theorem wG675 : (Cond.instanceMethod yX6_digest : Cond) ∈ wsG := wsG_at 675 (by decide +kernel) (by decide +kernel)
theorem wG676 : (Cond.selects RX6 yX6_digest yX6_digest : Cond) ∈ wsG := wsG_at 676 (by decide +kernel) (by decide +kernel)
theorem wG677 : (Cond.code yX6_digest cX6_digest 4 (some .long) : Cond) ∈ wsG := wsG_at 677 (by decide +kernel) (by decide +kernel)
theorem wG678 : (Cond.constantLong RX6 181 (1511) : Cond) ∈ wsG := wsG_at 678 (by decide +kernel) (by decide +kernel)
theorem wG679 : (Cond.methodLink RX6 183 yX6_foldCode : Cond) ∈ wsG := wsG_at 679 (by decide +kernel) (by decide +kernel)
theorem wG681 : (Cond.instanceMethod yX6_foldCode : Cond) ∈ wsG := wsG_at 681 (by decide +kernel) (by decide +kernel)
theorem wG682 : (Cond.code yX6_foldCode cX6_foldCode 8 (some .long) : Cond) ∈ wsG := wsG_at 682 (by decide +kernel) (by decide +kernel)
theorem wG683 : (Cond.methodLink RX6 203 yX6_ink : Cond) ∈ wsG := wsG_at 683 (by decide +kernel) (by decide +kernel)
theorem wG684 : (Cond.methodLink RX6 187 yX6_fold : Cond) ∈ wsG := wsG_at 684 (by decide +kernel) (by decide +kernel)
theorem wG685 : (Cond.static yX6_fold : Cond) ∈ wsG := wsG_at 685 (by decide +kernel) (by decide +kernel)
theorem wG686 : (Cond.code yX6_fold cX6_fold 4 (some .long) : Cond) ∈ wsG := wsG_at 686 (by decide +kernel) (by decide +kernel)
theorem wG687 : (Cond.constantLong RX6 201 (31) : Cond) ∈ wsG := wsG_at 687 (by decide +kernel) (by decide +kernel)
theorem wG688 : (Cond.methodLink RX6 206 yX6_about : Cond) ∈ wsG := wsG_at 688 (by decide +kernel) (by decide +kernel)
theorem wG689 : (Cond.methodLink RX6 209 yX6_pairs : Cond) ∈ wsG := wsG_at 689 (by decide +kernel) (by decide +kernel)
theorem wG690 : (Cond.methodLink RX6 212 yX6_rows : Cond) ∈ wsG := wsG_at 690 (by decide +kernel) (by decide +kernel)
theorem wG691 : (Cond.methodLink RX6 215 yX6_apart : Cond) ∈ wsG := wsG_at 691 (by decide +kernel) (by decide +kernel)
theorem wG692 : (Cond.methodLink RX6 191 yX6_judged : Cond) ∈ wsG := wsG_at 692 (by decide +kernel) (by decide +kernel)
theorem wG693 : (Cond.methodLink RX6 194 yX6_foldDivision : Cond) ∈ wsG := wsG_at 693 (by decide +kernel) (by decide +kernel)
theorem wG695 : (Cond.instanceMethod yX6_foldDivision : Cond) ∈ wsG := wsG_at 695 (by decide +kernel) (by decide +kernel)
theorem wG696 : (Cond.code yX6_foldDivision cX6_foldDivision 8 (some .long) : Cond) ∈ wsG := wsG_at 696 (by decide +kernel) (by decide +kernel)
theorem wG697 : (Cond.methodLink RX6 198 yX6_count : Cond) ∈ wsG := wsG_at 697 (by decide +kernel) (by decide +kernel)
theorem wG698 : (Cond.classLink RL 10 RX7 : Cond) ∈ wsG := wsG_at 698 (by decide +kernel) (by decide +kernel)
theorem wG699 : (Cond.instantiable RX7 35 : Cond) ∈ wsG := wsG_at 699 (by decide +kernel) (by decide +kernel)
theorem wG700 : (Cond.methodLink RL 12 yX7_init : Cond) ∈ wsG := wsG_at 700 (by decide +kernel) (by decide +kernel)
theorem wG701 : (Cond.instanceMethod yX7_init : Cond) ∈ wsG := wsG_at 701 (by decide +kernel) (by decide +kernel)
theorem wG702 : (Cond.code yX7_init cX7_init 1 none : Cond) ∈ wsG := wsG_at 702 (by decide +kernel) (by decide +kernel)
theorem wG703 : (Cond.methodLink RX7 1 objectInit : Cond) ∈ wsG := wsG_at 703 (by decide +kernel) (by decide +kernel)
theorem wG704 : (Cond.fieldLink RX7 110 "CodeJudgeModel" "codes" "I" : Cond) ∈ wsG := wsG_at 704 (by decide +kernel) (by decide +kernel)
theorem wG705 : (Cond.fieldLink RX7 7 "CodeJudgeModel" "kind" "[I" : Cond) ∈ wsG := wsG_at 705 (by decide +kernel) (by decide +kernel)
theorem wG706 : (Cond.fieldLink RX7 13 "CodeJudgeModel" "digit" "[I" : Cond) ∈ wsG := wsG_at 706 (by decide +kernel) (by decide +kernel)
theorem wG707 : (Cond.fieldLink RX7 16 "CodeJudgeModel" "marks" "[I" : Cond) ∈ wsG := wsG_at 707 (by decide +kernel) (by decide +kernel)
theorem wG708 : (Cond.fieldLink RX7 19 "CodeJudgeModel" "points" "[I" : Cond) ∈ wsG := wsG_at 708 (by decide +kernel) (by decide +kernel)
theorem wG709 : (Cond.fieldLink RX7 117 "CodeJudgeModel" "codesEver" "I" : Cond) ∈ wsG := wsG_at 709 (by decide +kernel) (by decide +kernel)
theorem wG710 : (Cond.fieldLink RX7 136 "CodeJudgeModel" "unitsEver" "I" : Cond) ∈ wsG := wsG_at 710 (by decide +kernel) (by decide +kernel)
theorem wG711 : (Cond.fieldLink RX7 22 "CodeJudgeModel" "length" "I" : Cond) ∈ wsG := wsG_at 711 (by decide +kernel) (by decide +kernel)
theorem wG712 : (Cond.fieldLink RX7 133 "CodeJudgeModel" "came" "I" : Cond) ∈ wsG := wsG_at 712 (by decide +kernel) (by decide +kernel)
theorem wG713 : (Cond.fieldLink RX7 26 "CodeJudgeModel" "unitAt" "[I" : Cond) ∈ wsG := wsG_at 713 (by decide +kernel) (by decide +kernel)
theorem wG714 : (Cond.fieldLink RX7 79 "CodeJudgeModel" "pageLength" "I" : Cond) ∈ wsG := wsG_at 714 (by decide +kernel) (by decide +kernel)
theorem wG715 : (Cond.fieldLink RX7 29 "CodeJudgeModel" "page" "[I" : Cond) ∈ wsG := wsG_at 715 (by decide +kernel) (by decide +kernel)
theorem wG716 : (Cond.fieldLink RX7 92 "CodeJudgeModel" "newKind" "I" : Cond) ∈ wsG := wsG_at 716 (by decide +kernel) (by decide +kernel)
theorem wG717 : (Cond.fieldLink RX7 142 "CodeJudgeModel" "sortNow" "I" : Cond) ∈ wsG := wsG_at 717 (by decide +kernel) (by decide +kernel)
theorem wG718 : (Cond.fieldLink RX7 155 "CodeJudgeModel" "stateNow" "I" : Cond) ∈ wsG := wsG_at 718 (by decide +kernel) (by decide +kernel)
theorem wG719 : (Cond.fieldLink RX7 158 "CodeJudgeModel" "lastNow" "I" : Cond) ∈ wsG := wsG_at 719 (by decide +kernel) (by decide +kernel)
theorem wG720 : (Cond.fieldLink RX7 161 "CodeJudgeModel" "signsNow" "I" : Cond) ∈ wsG := wsG_at 720 (by decide +kernel) (by decide +kernel)
theorem wG721 : (Cond.fieldLink RX7 164 "CodeJudgeModel" "weightNow" "I" : Cond) ∈ wsG := wsG_at 721 (by decide +kernel) (by decide +kernel)
theorem wG722 : (Cond.fieldLink RX7 167 "CodeJudgeModel" "stoodNow" "I" : Cond) ∈ wsG := wsG_at 722 (by decide +kernel) (by decide +kernel)
theorem wG723 : (Cond.fieldLink RX7 32 "CodeJudgeModel" "pairsNow" "[I" : Cond) ∈ wsG := wsG_at 723 (by decide +kernel) (by decide +kernel)
theorem wG724 : (Cond.fieldLink RX7 35 "CodeJudgeModel" "more" "[I" : Cond) ∈ wsG := wsG_at 724 (by decide +kernel) (by decide +kernel)
theorem wG725 : (Cond.fieldLink RX7 38 "CodeJudgeModel" "moreNext" "[I" : Cond) ∈ wsG := wsG_at 725 (by decide +kernel) (by decide +kernel)
theorem wG726 : (Cond.fieldLink RX7 41 "CodeJudgeModel" "isSure" "[Z" : Cond) ∈ wsG := wsG_at 726 (by decide +kernel) (by decide +kernel)
theorem wG727 : (Cond.fieldLink RX7 45 "CodeJudgeModel" "can" "[Z" : Cond) ∈ wsG := wsG_at 727 (by decide +kernel) (by decide +kernel)
theorem wG728 : (Cond.fieldLink RX7 48 "CodeJudgeModel" "canNext" "[Z" : Cond) ∈ wsG := wsG_at 728 (by decide +kernel) (by decide +kernel)
theorem wG729 : (Cond.fieldLink RX7 195 "CodeJudgeModel" "gained" "I" : Cond) ∈ wsG := wsG_at 729 (by decide +kernel) (by decide +kernel)
theorem wG730 : (Cond.fieldLink RX7 51 "CodeJudgeModel" "ways" "[I" : Cond) ∈ wsG := wsG_at 730 (by decide +kernel) (by decide +kernel)
theorem wG731 : (Cond.fieldLink RX7 54 "CodeJudgeModel" "waysNext" "[I" : Cond) ∈ wsG := wsG_at 731 (by decide +kernel) (by decide +kernel)
theorem wG732 : (Cond.fieldLink RX7 57 "CodeJudgeModel" "parts" "[I" : Cond) ∈ wsG := wsG_at 732 (by decide +kernel) (by decide +kernel)
theorem wG733 : (Cond.fieldLink RX7 60 "CodeJudgeModel" "worth" "[I" : Cond) ∈ wsG := wsG_at 733 (by decide +kernel) (by decide +kernel)
theorem wG734 : (Cond.fieldLink RX7 63 "CodeJudgeModel" "pieces" "[I" : Cond) ∈ wsG := wsG_at 734 (by decide +kernel) (by decide +kernel)
theorem wG735 : (Cond.fieldLink RX7 66 "CodeJudgeModel" "endAt" "[I" : Cond) ∈ wsG := wsG_at 735 (by decide +kernel) (by decide +kernel)
theorem wG736 : (Cond.fieldLink RX7 69 "CodeJudgeModel" "codeAt" "[I" : Cond) ∈ wsG := wsG_at 736 (by decide +kernel) (by decide +kernel)
theorem wG737 : (Cond.fieldLink RX7 72 "CodeJudgeModel" "weightAt" "[I" : Cond) ∈ wsG := wsG_at 737 (by decide +kernel) (by decide +kernel)
theorem wG738 : (Cond.fieldLink RX7 310 "CodeJudgeModel" "h" "J" : Cond) ∈ wsG := wsG_at 738 (by decide +kernel) (by decide +kernel)
theorem wG810 : (Cond.arrayClass .boolean : Cond) ∈ wsG := wsG_at 810 (by decide +kernel) (by decide +kernel)
theorem wG811 : (Cond.methodLink RL 17 yX7_letter : Cond) ∈ wsG := wsG_at 811 (by decide +kernel) (by decide +kernel)
theorem wG812 : (Cond.instanceMethod yX7_letter : Cond) ∈ wsG := wsG_at 812 (by decide +kernel) (by decide +kernel)
theorem wG813 : (Cond.selects RX7 yX7_letter yX7_letter : Cond) ∈ wsG := wsG_at 813 (by decide +kernel) (by decide +kernel)
theorem wG814 : (Cond.code yX7_letter cX7_letter 2 (some .int) : Cond) ∈ wsG := wsG_at 814 (by decide +kernel) (by decide +kernel)
theorem wG815 : (Cond.methodLink RX7 75 yX7_within : Cond) ∈ wsG := wsG_at 815 (by decide +kernel) (by decide +kernel)
theorem wG816 : (Cond.static yX7_within : Cond) ∈ wsG := wsG_at 816 (by decide +kernel) (by decide +kernel)
theorem wG817 : (Cond.code yX7_within cX7_within 3 (some .boolean) : Cond) ∈ wsG := wsG_at 817 (by decide +kernel) (by decide +kernel)
theorem wG818 : (Cond.methodLink RL 22 yX7_blank : Cond) ∈ wsG := wsG_at 818 (by decide +kernel) (by decide +kernel)
theorem wG819 : (Cond.instanceMethod yX7_blank : Cond) ∈ wsG := wsG_at 819 (by decide +kernel) (by decide +kernel)
theorem wG820 : (Cond.selects RX7 yX7_blank yX7_blank : Cond) ∈ wsG := wsG_at 820 (by decide +kernel) (by decide +kernel)
theorem wG821 : (Cond.code yX7_blank cX7_blank 2 (some .int) : Cond) ∈ wsG := wsG_at 821 (by decide +kernel) (by decide +kernel)
theorem wG822 : (Cond.methodLink RL 26 yX7_fault : Cond) ∈ wsG := wsG_at 822 (by decide +kernel) (by decide +kernel)
theorem wG823 : (Cond.instanceMethod yX7_fault : Cond) ∈ wsG := wsG_at 823 (by decide +kernel) (by decide +kernel)
theorem wG824 : (Cond.selects RX7 yX7_fault yX7_fault : Cond) ∈ wsG := wsG_at 824 (by decide +kernel) (by decide +kernel)
theorem wG825 : (Cond.code yX7_fault cX7_fault 1 (some .int) : Cond) ∈ wsG := wsG_at 825 (by decide +kernel) (by decide +kernel)
theorem wG826 : (Cond.methodLink RX7 103 yX7_read : Cond) ∈ wsG := wsG_at 826 (by decide +kernel) (by decide +kernel)
theorem wG828 : (Cond.instanceMethod yX7_read : Cond) ∈ wsG := wsG_at 828 (by decide +kernel) (by decide +kernel)
theorem wG829 : (Cond.code yX7_read cX7_read 2 (some .int) : Cond) ∈ wsG := wsG_at 829 (by decide +kernel) (by decide +kernel)
theorem wG830 : (Cond.methodLink RX7 99 yX7_fitsAt : Cond) ∈ wsG := wsG_at 830 (by decide +kernel) (by decide +kernel)
theorem wG832 : (Cond.instanceMethod yX7_fitsAt : Cond) ∈ wsG := wsG_at 832 (by decide +kernel) (by decide +kernel)
theorem wG833 : (Cond.code yX7_fitsAt cX7_fitsAt 4 (some .boolean) : Cond) ∈ wsG := wsG_at 833 (by decide +kernel) (by decide +kernel)
theorem wG834 : (Cond.methodLink RX7 89 yX7_kindBy : Cond) ∈ wsG := wsG_at 834 (by decide +kernel) (by decide +kernel)
theorem wG835 : (Cond.static yX7_kindBy : Cond) ∈ wsG := wsG_at 835 (by decide +kernel) (by decide +kernel)
theorem wG836 : (Cond.code yX7_kindBy cX7_kindBy 1 (some .int) : Cond) ∈ wsG := wsG_at 836 (by decide +kernel) (by decide +kernel)
theorem wG837 : (Cond.methodLink RX7 82 yX7_digitsOf : Cond) ∈ wsG := wsG_at 837 (by decide +kernel) (by decide +kernel)
theorem wG838 : (Cond.static yX7_digitsOf : Cond) ∈ wsG := wsG_at 838 (by decide +kernel) (by decide +kernel)
theorem wG839 : (Cond.code yX7_digitsOf cX7_digitsOf 1 (some .int) : Cond) ∈ wsG := wsG_at 839 (by decide +kernel) (by decide +kernel)
theorem wG840 : (Cond.methodLink RX7 86 yX7_marksOf : Cond) ∈ wsG := wsG_at 840 (by decide +kernel) (by decide +kernel)
theorem wG841 : (Cond.static yX7_marksOf : Cond) ∈ wsG := wsG_at 841 (by decide +kernel) (by decide +kernel)
theorem wG842 : (Cond.code yX7_marksOf cX7_marksOf 1 (some .int) : Cond) ∈ wsG := wsG_at 842 (by decide +kernel) (by decide +kernel)
theorem wG843 : (Cond.methodLink RX7 95 yX7_markBy : Cond) ∈ wsG := wsG_at 843 (by decide +kernel) (by decide +kernel)
theorem wG844 : (Cond.static yX7_markBy : Cond) ∈ wsG := wsG_at 844 (by decide +kernel) (by decide +kernel)
theorem wG845 : (Cond.code yX7_markBy cX7_markBy 2 (some .int) : Cond) ∈ wsG := wsG_at 845 (by decide +kernel) (by decide +kernel)
theorem wG846 : (Cond.methodLink RL 30 yX7_code : Cond) ∈ wsG := wsG_at 846 (by decide +kernel) (by decide +kernel)
theorem wG847 : (Cond.instanceMethod yX7_code : Cond) ∈ wsG := wsG_at 847 (by decide +kernel) (by decide +kernel)
theorem wG848 : (Cond.selects RX7 yX7_code yX7_code : Cond) ∈ wsG := wsG_at 848 (by decide +kernel) (by decide +kernel)
theorem wG849 : (Cond.code yX7_code cX7_code 1 (some .int) : Cond) ∈ wsG := wsG_at 849 (by decide +kernel) (by decide +kernel)
theorem wG850 : (Cond.methodLink RX7 107 yX7_lettersOf : Cond) ∈ wsG := wsG_at 850 (by decide +kernel) (by decide +kernel)
theorem wG851 : (Cond.static yX7_lettersOf : Cond) ∈ wsG := wsG_at 851 (by decide +kernel) (by decide +kernel)
theorem wG852 : (Cond.code yX7_lettersOf cX7_lettersOf 1 (some .int) : Cond) ∈ wsG := wsG_at 852 (by decide +kernel) (by decide +kernel)
theorem wG853 : (Cond.methodLink RX7 113 yX7_layCode : Cond) ∈ wsG := wsG_at 853 (by decide +kernel) (by decide +kernel)
theorem wG855 : (Cond.instanceMethod yX7_layCode : Cond) ∈ wsG := wsG_at 855 (by decide +kernel) (by decide +kernel)
theorem wG856 : (Cond.code yX7_layCode cX7_layCode 4 none : Cond) ∈ wsG := wsG_at 856 (by decide +kernel) (by decide +kernel)
theorem wG857 : (Cond.methodLink RL 34 yX7_drop : Cond) ∈ wsG := wsG_at 857 (by decide +kernel) (by decide +kernel)
theorem wG858 : (Cond.instanceMethod yX7_drop : Cond) ∈ wsG := wsG_at 858 (by decide +kernel) (by decide +kernel)
theorem wG859 : (Cond.selects RX7 yX7_drop yX7_drop : Cond) ∈ wsG := wsG_at 859 (by decide +kernel) (by decide +kernel)
theorem wG860 : (Cond.code yX7_drop cX7_drop 1 (some .int) : Cond) ∈ wsG := wsG_at 860 (by decide +kernel) (by decide +kernel)
theorem wG861 : (Cond.methodLink RL 39 yX7_ink : Cond) ∈ wsG := wsG_at 861 (by decide +kernel) (by decide +kernel)
theorem wG862 : (Cond.instanceMethod yX7_ink : Cond) ∈ wsG := wsG_at 862 (by decide +kernel) (by decide +kernel)
theorem wG863 : (Cond.selects RX7 yX7_ink yX7_ink : Cond) ∈ wsG := wsG_at 863 (by decide +kernel) (by decide +kernel)
theorem wG864 : (Cond.code yX7_ink cX7_ink 3 (some .int) : Cond) ∈ wsG := wsG_at 864 (by decide +kernel) (by decide +kernel)
theorem wG865 : (Cond.methodLink RX7 126 yX7_isCode : Cond) ∈ wsG := wsG_at 865 (by decide +kernel) (by decide +kernel)
theorem wG867 : (Cond.instanceMethod yX7_isCode : Cond) ∈ wsG := wsG_at 867 (by decide +kernel) (by decide +kernel)
theorem wG868 : (Cond.code yX7_isCode cX7_isCode 2 (some .boolean) : Cond) ∈ wsG := wsG_at 868 (by decide +kernel) (by decide +kernel)
theorem wG869 : (Cond.methodLink RX7 130 yX7_inkNow : Cond) ∈ wsG := wsG_at 869 (by decide +kernel) (by decide +kernel)
theorem wG871 : (Cond.instanceMethod yX7_inkNow : Cond) ∈ wsG := wsG_at 871 (by decide +kernel) (by decide +kernel)
theorem wG872 : (Cond.code yX7_inkNow cX7_inkNow 5 (some .int) : Cond) ∈ wsG := wsG_at 872 (by decide +kernel) (by decide +kernel)
theorem wG873 : (Cond.methodLink RX7 120 yX7_letterOf : Cond) ∈ wsG := wsG_at 873 (by decide +kernel) (by decide +kernel)
theorem wG874 : (Cond.static yX7_letterOf : Cond) ∈ wsG := wsG_at 874 (by decide +kernel) (by decide +kernel)
theorem wG875 : (Cond.code yX7_letterOf cX7_letterOf 1 (some .int) : Cond) ∈ wsG := wsG_at 875 (by decide +kernel) (by decide +kernel)
theorem wG876 : (Cond.methodLink RX7 123 yX7_markLetter : Cond) ∈ wsG := wsG_at 876 (by decide +kernel) (by decide +kernel)
theorem wG877 : (Cond.static yX7_markLetter : Cond) ∈ wsG := wsG_at 877 (by decide +kernel) (by decide +kernel)
theorem wG878 : (Cond.code yX7_markLetter cX7_markLetter 1 (some .int) : Cond) ∈ wsG := wsG_at 878 (by decide +kernel) (by decide +kernel)
theorem wG879 : (Cond.methodLink RL 43 yX7_open : Cond) ∈ wsG := wsG_at 879 (by decide +kernel) (by decide +kernel)
theorem wG880 : (Cond.instanceMethod yX7_open : Cond) ∈ wsG := wsG_at 880 (by decide +kernel) (by decide +kernel)
theorem wG881 : (Cond.selects RX7 yX7_open yX7_open : Cond) ∈ wsG := wsG_at 881 (by decide +kernel) (by decide +kernel)
theorem wG882 : (Cond.code yX7_open cX7_open 3 (some .int) : Cond) ∈ wsG := wsG_at 882 (by decide +kernel) (by decide +kernel)
theorem wG883 : (Cond.methodLink RL 47 yX7_feed : Cond) ∈ wsG := wsG_at 883 (by decide +kernel) (by decide +kernel)
theorem wG884 : (Cond.instanceMethod yX7_feed : Cond) ∈ wsG := wsG_at 884 (by decide +kernel) (by decide +kernel)
theorem wG885 : (Cond.selects RX7 yX7_feed yX7_feed : Cond) ∈ wsG := wsG_at 885 (by decide +kernel) (by decide +kernel)
theorem wG886 : (Cond.code yX7_feed cX7_feed 2 (some .int) : Cond) ∈ wsG := wsG_at 886 (by decide +kernel) (by decide +kernel)
theorem wG887 : (Cond.methodLink RX7 139 yX7_comes : Cond) ∈ wsG := wsG_at 887 (by decide +kernel) (by decide +kernel)
theorem wG889 : (Cond.instanceMethod yX7_comes : Cond) ∈ wsG := wsG_at 889 (by decide +kernel) (by decide +kernel)
theorem wG890 : (Cond.code yX7_comes cX7_comes 2 none : Cond) ∈ wsG := wsG_at 890 (by decide +kernel) (by decide +kernel)
theorem wG891 : (Cond.methodLink RL 51 yX7_feeds : Cond) ∈ wsG := wsG_at 891 (by decide +kernel) (by decide +kernel)
theorem wG892 : (Cond.instanceMethod yX7_feeds : Cond) ∈ wsG := wsG_at 892 (by decide +kernel) (by decide +kernel)
theorem wG893 : (Cond.selects RX7 yX7_feeds yX7_feeds : Cond) ∈ wsG := wsG_at 893 (by decide +kernel) (by decide +kernel)
theorem wG894 : (Cond.code yX7_feeds cX7_feeds 3 (some .int) : Cond) ∈ wsG := wsG_at 894 (by decide +kernel) (by decide +kernel)
theorem wG895 : (Cond.methodLink RL 55 yX7_back : Cond) ∈ wsG := wsG_at 895 (by decide +kernel) (by decide +kernel)
theorem wG896 : (Cond.instanceMethod yX7_back : Cond) ∈ wsG := wsG_at 896 (by decide +kernel) (by decide +kernel)
theorem wG897 : (Cond.selects RX7 yX7_back yX7_back : Cond) ∈ wsG := wsG_at 897 (by decide +kernel) (by decide +kernel)
theorem wG898 : (Cond.code yX7_back cX7_back 1 (some .int) : Cond) ∈ wsG := wsG_at 898 (by decide +kernel) (by decide +kernel)
theorem wG899 : (Cond.methodLink RL 59 yX7_unit : Cond) ∈ wsG := wsG_at 899 (by decide +kernel) (by decide +kernel)
theorem wG900 : (Cond.instanceMethod yX7_unit : Cond) ∈ wsG := wsG_at 900 (by decide +kernel) (by decide +kernel)
theorem wG901 : (Cond.selects RX7 yX7_unit yX7_unit : Cond) ∈ wsG := wsG_at 901 (by decide +kernel) (by decide +kernel)
theorem wG902 : (Cond.code yX7_unit cX7_unit 2 (some .int) : Cond) ∈ wsG := wsG_at 902 (by decide +kernel) (by decide +kernel)
theorem wG903 : (Cond.methodLink RL 63 yX7_about : Cond) ∈ wsG := wsG_at 903 (by decide +kernel) (by decide +kernel)
theorem wG904 : (Cond.instanceMethod yX7_about : Cond) ∈ wsG := wsG_at 904 (by decide +kernel) (by decide +kernel)
theorem wG905 : (Cond.selects RX7 yX7_about yX7_about : Cond) ∈ wsG := wsG_at 905 (by decide +kernel) (by decide +kernel)
theorem wG906 : (Cond.code yX7_about cX7_about 3 (some .int) : Cond) ∈ wsG := wsG_at 906 (by decide +kernel) (by decide +kernel)
theorem wG907 : (Cond.methodLink RX7 248 yX7_aboutNow : Cond) ∈ wsG := wsG_at 907 (by decide +kernel) (by decide +kernel)
theorem wG909 : (Cond.instanceMethod yX7_aboutNow : Cond) ∈ wsG := wsG_at 909 (by decide +kernel) (by decide +kernel)
theorem wG910 : (Cond.code yX7_aboutNow cX7_aboutNow 3 (some .int) : Cond) ∈ wsG := wsG_at 910 (by decide +kernel) (by decide +kernel)
theorem wG911 : (Cond.methodLink RX7 230 yX7_isAlive : Cond) ∈ wsG := wsG_at 911 (by decide +kernel) (by decide +kernel)
theorem wG913 : (Cond.instanceMethod yX7_isAlive : Cond) ∈ wsG := wsG_at 913 (by decide +kernel) (by decide +kernel)
theorem wG914 : (Cond.code yX7_isAlive cX7_isAlive 2 (some .boolean) : Cond) ∈ wsG := wsG_at 914 (by decide +kernel) (by decide +kernel)
theorem wG915 : (Cond.methodLink RX7 180 yX7_goAlong : Cond) ∈ wsG := wsG_at 915 (by decide +kernel) (by decide +kernel)
theorem wG917 : (Cond.instanceMethod yX7_goAlong : Cond) ∈ wsG := wsG_at 917 (by decide +kernel) (by decide +kernel)
theorem wG918 : (Cond.code yX7_goAlong cX7_goAlong 4 none : Cond) ∈ wsG := wsG_at 918 (by decide +kernel) (by decide +kernel)
theorem wG919 : (Cond.methodLink RX7 173 yX7_begin : Cond) ∈ wsG := wsG_at 919 (by decide +kernel) (by decide +kernel)
theorem wG921 : (Cond.instanceMethod yX7_begin : Cond) ∈ wsG := wsG_at 921 (by decide +kernel) (by decide +kernel)
theorem wG922 : (Cond.code yX7_begin cX7_begin 2 none : Cond) ∈ wsG := wsG_at 922 (by decide +kernel) (by decide +kernel)
theorem wG923 : (Cond.methodLink RX7 176 yX7_goOn : Cond) ∈ wsG := wsG_at 923 (by decide +kernel) (by decide +kernel)
theorem wG925 : (Cond.instanceMethod yX7_goOn : Cond) ∈ wsG := wsG_at 925 (by decide +kernel) (by decide +kernel)
theorem wG926 : (Cond.code yX7_goOn cX7_goOn 4 none : Cond) ∈ wsG := wsG_at 926 (by decide +kernel) (by decide +kernel)
theorem wG927 : (Cond.methodLink RX7 170 yX7_step : Cond) ∈ wsG := wsG_at 927 (by decide +kernel) (by decide +kernel)
theorem wG929 : (Cond.instanceMethod yX7_step : Cond) ∈ wsG := wsG_at 929 (by decide +kernel) (by decide +kernel)
theorem wG930 : (Cond.code yX7_step cX7_step 5 (some .int) : Cond) ∈ wsG := wsG_at 930 (by decide +kernel) (by decide +kernel)
theorem wG931 : (Cond.methodLink RX7 145 yX7_ends : Cond) ∈ wsG := wsG_at 931 (by decide +kernel) (by decide +kernel)
theorem wG933 : (Cond.instanceMethod yX7_ends : Cond) ∈ wsG := wsG_at 933 (by decide +kernel) (by decide +kernel)
theorem wG934 : (Cond.code yX7_ends cX7_ends 3 (some .int) : Cond) ∈ wsG := wsG_at 934 (by decide +kernel) (by decide +kernel)
theorem wG935 : (Cond.methodLink RX7 148 yX7_stepCounted : Cond) ∈ wsG := wsG_at 935 (by decide +kernel) (by decide +kernel)
theorem wG937 : (Cond.instanceMethod yX7_stepCounted : Cond) ∈ wsG := wsG_at 937 (by decide +kernel) (by decide +kernel)
theorem wG938 : (Cond.code yX7_stepCounted cX7_stepCounted 3 (some .int) : Cond) ∈ wsG := wsG_at 938 (by decide +kernel) (by decide +kernel)
theorem wG939 : (Cond.methodLink RX7 151 yX7_stepTurned : Cond) ∈ wsG := wsG_at 939 (by decide +kernel) (by decide +kernel)
theorem wG941 : (Cond.instanceMethod yX7_stepTurned : Cond) ∈ wsG := wsG_at 941 (by decide +kernel) (by decide +kernel)
theorem wG942 : (Cond.code yX7_stepTurned cX7_stepTurned 4 (some .int) : Cond) ∈ wsG := wsG_at 942 (by decide +kernel) (by decide +kernel)
theorem wG943 : (Cond.methodLink RX7 183 yX7_isValid : Cond) ∈ wsG := wsG_at 943 (by decide +kernel) (by decide +kernel)
theorem wG945 : (Cond.instanceMethod yX7_isValid : Cond) ∈ wsG := wsG_at 945 (by decide +kernel) (by decide +kernel)
theorem wG946 : (Cond.code yX7_isValid cX7_isValid 2 (some .boolean) : Cond) ∈ wsG := wsG_at 946 (by decide +kernel) (by decide +kernel)
theorem wG947 : (Cond.methodLink RX7 233 yX7_signsOf : Cond) ∈ wsG := wsG_at 947 (by decide +kernel) (by decide +kernel)
theorem wG949 : (Cond.instanceMethod yX7_signsOf : Cond) ∈ wsG := wsG_at 949 (by decide +kernel) (by decide +kernel)
theorem wG950 : (Cond.code yX7_signsOf cX7_signsOf 2 (some .int) : Cond) ∈ wsG := wsG_at 950 (by decide +kernel) (by decide +kernel)
theorem wG951 : (Cond.methodLink RX7 236 yX7_weightOf : Cond) ∈ wsG := wsG_at 951 (by decide +kernel) (by decide +kernel)
theorem wG953 : (Cond.instanceMethod yX7_weightOf : Cond) ∈ wsG := wsG_at 953 (by decide +kernel) (by decide +kernel)
theorem wG954 : (Cond.code yX7_weightOf cX7_weightOf 2 (some .int) : Cond) ∈ wsG := wsG_at 954 (by decide +kernel) (by decide +kernel)
theorem wG955 : (Cond.methodLink RX7 239 yX7_firstBad : Cond) ∈ wsG := wsG_at 955 (by decide +kernel) (by decide +kernel)
theorem wG957 : (Cond.instanceMethod yX7_firstBad : Cond) ∈ wsG := wsG_at 957 (by decide +kernel) (by decide +kernel)
theorem wG958 : (Cond.code yX7_firstBad cX7_firstBad 2 (some .int) : Cond) ∈ wsG := wsG_at 958 (by decide +kernel) (by decide +kernel)
theorem wG959 : (Cond.methodLink RX7 242 yX7_sureAt : Cond) ∈ wsG := wsG_at 959 (by decide +kernel) (by decide +kernel)
theorem wG961 : (Cond.instanceMethod yX7_sureAt : Cond) ∈ wsG := wsG_at 961 (by decide +kernel) (by decide +kernel)
theorem wG962 : (Cond.code yX7_sureAt cX7_sureAt 3 (some .int) : Cond) ∈ wsG := wsG_at 962 (by decide +kernel) (by decide +kernel)
theorem wG963 : (Cond.methodLink RX7 224 yX7_layCan : Cond) ∈ wsG := wsG_at 963 (by decide +kernel) (by decide +kernel)
theorem wG965 : (Cond.instanceMethod yX7_layCan : Cond) ∈ wsG := wsG_at 965 (by decide +kernel) (by decide +kernel)
theorem wG966 : (Cond.code yX7_layCan cX7_layCan 4 none : Cond) ∈ wsG := wsG_at 966 (by decide +kernel) (by decide +kernel)
theorem wG967 : (Cond.methodLink RX7 221 yX7_goBackCan : Cond) ∈ wsG := wsG_at 967 (by decide +kernel) (by decide +kernel)
theorem wG969 : (Cond.instanceMethod yX7_goBackCan : Cond) ∈ wsG := wsG_at 969 (by decide +kernel) (by decide +kernel)
theorem wG970 : (Cond.code yX7_goBackCan cX7_goBackCan 5 none : Cond) ∈ wsG := wsG_at 970 (by decide +kernel) (by decide +kernel)
theorem wG971 : (Cond.methodLink RX7 205 yX7_isState : Cond) ∈ wsG := wsG_at 971 (by decide +kernel) (by decide +kernel)
theorem wG972 : (Cond.static yX7_isState : Cond) ∈ wsG := wsG_at 972 (by decide +kernel) (by decide +kernel)
theorem wG973 : (Cond.code yX7_isState cX7_isState 2 (some .boolean) : Cond) ∈ wsG := wsG_at 973 (by decide +kernel) (by decide +kernel)
theorem wG974 : (Cond.methodLink RX7 227 yX7_layLoses : Cond) ∈ wsG := wsG_at 974 (by decide +kernel) (by decide +kernel)
theorem wG976 : (Cond.instanceMethod yX7_layLoses : Cond) ∈ wsG := wsG_at 976 (by decide +kernel) (by decide +kernel)
theorem wG977 : (Cond.code yX7_layLoses cX7_layLoses 5 none : Cond) ∈ wsG := wsG_at 977 (by decide +kernel) (by decide +kernel)
theorem wG978 : (Cond.methodLink RX7 212 yX7_beginBack : Cond) ∈ wsG := wsG_at 978 (by decide +kernel) (by decide +kernel)
theorem wG980 : (Cond.instanceMethod yX7_beginBack : Cond) ∈ wsG := wsG_at 980 (by decide +kernel) (by decide +kernel)
theorem wG981 : (Cond.code yX7_beginBack cX7_beginBack 2 none : Cond) ∈ wsG := wsG_at 981 (by decide +kernel) (by decide +kernel)
theorem wG982 : (Cond.constant RX7 204 (-100000) : Cond) ∈ wsG := wsG_at 982 (by decide +kernel) (by decide +kernel)
theorem wG983 : (Cond.methodLink RX7 215 yX7_goBack : Cond) ∈ wsG := wsG_at 983 (by decide +kernel) (by decide +kernel)
theorem wG985 : (Cond.instanceMethod yX7_goBack : Cond) ∈ wsG := wsG_at 985 (by decide +kernel) (by decide +kernel)
theorem wG986 : (Cond.code yX7_goBack cX7_goBack 7 none : Cond) ∈ wsG := wsG_at 986 (by decide +kernel) (by decide +kernel)
theorem wG987 : (Cond.methodLink RX7 208 yX7_moreBy : Cond) ∈ wsG := wsG_at 987 (by decide +kernel) (by decide +kernel)
theorem wG989 : (Cond.instanceMethod yX7_moreBy : Cond) ∈ wsG := wsG_at 989 (by decide +kernel) (by decide +kernel)
theorem wG990 : (Cond.code yX7_moreBy cX7_moreBy 8 (some .int) : Cond) ∈ wsG := wsG_at 990 (by decide +kernel) (by decide +kernel)
theorem wG991 : (Cond.methodLink RX7 201 yX7_placeBehind : Cond) ∈ wsG := wsG_at 991 (by decide +kernel) (by decide +kernel)
theorem wG993 : (Cond.instanceMethod yX7_placeBehind : Cond) ∈ wsG := wsG_at 993 (by decide +kernel) (by decide +kernel)
theorem wG994 : (Cond.code yX7_placeBehind cX7_placeBehind 6 (some .int) : Cond) ∈ wsG := wsG_at 994 (by decide +kernel) (by decide +kernel)
theorem wG995 : (Cond.methodLink RX7 192 yX7_gain : Cond) ∈ wsG := wsG_at 995 (by decide +kernel) (by decide +kernel)
theorem wG997 : (Cond.instanceMethod yX7_gain : Cond) ∈ wsG := wsG_at 997 (by decide +kernel) (by decide +kernel)
theorem wG998 : (Cond.code yX7_gain cX7_gain 3 (some .int) : Cond) ∈ wsG := wsG_at 998 (by decide +kernel) (by decide +kernel)
theorem wG999 : (Cond.methodLink RX7 198 yX7_placeOf : Cond) ∈ wsG := wsG_at 999 (by decide +kernel) (by decide +kernel)
theorem wG1000 : (Cond.static yX7_placeOf : Cond) ∈ wsG := wsG_at 1000 (by decide +kernel) (by decide +kernel)
theorem wG1001 : (Cond.code yX7_placeOf cX7_placeOf 2 (some .int) : Cond) ∈ wsG := wsG_at 1001 (by decide +kernel) (by decide +kernel)
theorem wG1002 : (Cond.methodLink RX7 218 yX7_canLose : Cond) ∈ wsG := wsG_at 1002 (by decide +kernel) (by decide +kernel)
theorem wG1004 : (Cond.instanceMethod yX7_canLose : Cond) ∈ wsG := wsG_at 1004 (by decide +kernel) (by decide +kernel)
theorem wG1005 : (Cond.code yX7_canLose cX7_canLose 8 (some .boolean) : Cond) ∈ wsG := wsG_at 1005 (by decide +kernel) (by decide +kernel)
theorem wG1006 : (Cond.methodLink RX7 245 yX7_rankOf : Cond) ∈ wsG := wsG_at 1006 (by decide +kernel) (by decide +kernel)
theorem wG1008 : (Cond.instanceMethod yX7_rankOf : Cond) ∈ wsG := wsG_at 1008 (by decide +kernel) (by decide +kernel)
theorem wG1009 : (Cond.code yX7_rankOf cX7_rankOf 4 (some .int) : Cond) ∈ wsG := wsG_at 1009 (by decide +kernel) (by decide +kernel)
theorem wG1010 : (Cond.methodLink RX7 189 yX7_isAhead : Cond) ∈ wsG := wsG_at 1010 (by decide +kernel) (by decide +kernel)
theorem wG1012 : (Cond.instanceMethod yX7_isAhead : Cond) ∈ wsG := wsG_at 1012 (by decide +kernel) (by decide +kernel)
theorem wG1013 : (Cond.code yX7_isAhead cX7_isAhead 5 (some .boolean) : Cond) ∈ wsG := wsG_at 1013 (by decide +kernel) (by decide +kernel)
theorem wG1014 : (Cond.methodLink RX7 186 yX7_rankKey : Cond) ∈ wsG := wsG_at 1014 (by decide +kernel) (by decide +kernel)
theorem wG1016 : (Cond.instanceMethod yX7_rankKey : Cond) ∈ wsG := wsG_at 1016 (by decide +kernel) (by decide +kernel)
theorem wG1017 : (Cond.code yX7_rankKey cX7_rankKey 3 (some .int) : Cond) ∈ wsG := wsG_at 1017 (by decide +kernel) (by decide +kernel)
theorem wG1018 : (Cond.methodLink RL 67 yX7_points : Cond) ∈ wsG := wsG_at 1018 (by decide +kernel) (by decide +kernel)
theorem wG1019 : (Cond.instanceMethod yX7_points : Cond) ∈ wsG := wsG_at 1019 (by decide +kernel) (by decide +kernel)
theorem wG1020 : (Cond.selects RX7 yX7_points yX7_points : Cond) ∈ wsG := wsG_at 1020 (by decide +kernel) (by decide +kernel)
theorem wG1021 : (Cond.code yX7_points cX7_points 3 (some .int) : Cond) ∈ wsG := wsG_at 1021 (by decide +kernel) (by decide +kernel)
theorem wG1022 : (Cond.methodLink RL 71 yX7_pairs : Cond) ∈ wsG := wsG_at 1022 (by decide +kernel) (by decide +kernel)
theorem wG1023 : (Cond.instanceMethod yX7_pairs : Cond) ∈ wsG := wsG_at 1023 (by decide +kernel) (by decide +kernel)
theorem wG1024 : (Cond.selects RX7 yX7_pairs yX7_pairs : Cond) ∈ wsG := wsG_at 1024 (by decide +kernel) (by decide +kernel)
theorem wG1025 : (Cond.code yX7_pairs cX7_pairs 3 (some .int) : Cond) ∈ wsG := wsG_at 1025 (by decide +kernel) (by decide +kernel)
theorem wG1026 : (Cond.methodLink RX7 251 yX7_pairsOf : Cond) ∈ wsG := wsG_at 1026 (by decide +kernel) (by decide +kernel)
theorem wG1028 : (Cond.instanceMethod yX7_pairsOf : Cond) ∈ wsG := wsG_at 1028 (by decide +kernel) (by decide +kernel)
theorem wG1029 : (Cond.code yX7_pairsOf cX7_pairsOf 3 (some .int) : Cond) ∈ wsG := wsG_at 1029 (by decide +kernel) (by decide +kernel)
theorem wG1030 : (Cond.methodLink RL 75 yX7_judged : Cond) ∈ wsG := wsG_at 1030 (by decide +kernel) (by decide +kernel)
theorem wG1031 : (Cond.instanceMethod yX7_judged : Cond) ∈ wsG := wsG_at 1031 (by decide +kernel) (by decide +kernel)
theorem wG1032 : (Cond.selects RX7 yX7_judged yX7_judged : Cond) ∈ wsG := wsG_at 1032 (by decide +kernel) (by decide +kernel)
theorem wG1033 : (Cond.code yX7_judged cX7_judged 1 (some .int) : Cond) ∈ wsG := wsG_at 1033 (by decide +kernel) (by decide +kernel)
theorem wG1034 : (Cond.methodLink RX7 254 yX7_judgedNow : Cond) ∈ wsG := wsG_at 1034 (by decide +kernel) (by decide +kernel)
theorem wG1036 : (Cond.instanceMethod yX7_judgedNow : Cond) ∈ wsG := wsG_at 1036 (by decide +kernel) (by decide +kernel)
theorem wG1037 : (Cond.code yX7_judgedNow cX7_judgedNow 4 (some .int) : Cond) ∈ wsG := wsG_at 1037 (by decide +kernel) (by decide +kernel)
theorem wG1038 : (Cond.methodLink RL 79 yX7_rank : Cond) ∈ wsG := wsG_at 1038 (by decide +kernel) (by decide +kernel)
theorem wG1039 : (Cond.instanceMethod yX7_rank : Cond) ∈ wsG := wsG_at 1039 (by decide +kernel) (by decide +kernel)
theorem wG1040 : (Cond.selects RX7 yX7_rank yX7_rank : Cond) ∈ wsG := wsG_at 1040 (by decide +kernel) (by decide +kernel)
theorem wG1041 : (Cond.code yX7_rank cX7_rank 3 (some .int) : Cond) ∈ wsG := wsG_at 1041 (by decide +kernel) (by decide +kernel)
theorem wG1042 : (Cond.methodLink RL 83 yX7_rows : Cond) ∈ wsG := wsG_at 1042 (by decide +kernel) (by decide +kernel)
theorem wG1043 : (Cond.instanceMethod yX7_rows : Cond) ∈ wsG := wsG_at 1043 (by decide +kernel) (by decide +kernel)
theorem wG1044 : (Cond.selects RX7 yX7_rows yX7_rows : Cond) ∈ wsG := wsG_at 1044 (by decide +kernel) (by decide +kernel)
theorem wG1045 : (Cond.code yX7_rows cX7_rows 3 (some .int) : Cond) ∈ wsG := wsG_at 1045 (by decide +kernel) (by decide +kernel)
theorem wG1046 : (Cond.methodLink RX7 260 yX7_rowsNow : Cond) ∈ wsG := wsG_at 1046 (by decide +kernel) (by decide +kernel)
theorem wG1048 : (Cond.instanceMethod yX7_rowsNow : Cond) ∈ wsG := wsG_at 1048 (by decide +kernel) (by decide +kernel)
theorem wG1049 : (Cond.code yX7_rowsNow cX7_rowsNow 4 (some .int) : Cond) ∈ wsG := wsG_at 1049 (by decide +kernel) (by decide +kernel)
theorem wG1050 : (Cond.methodLink RX7 257 yX7_oneMore : Cond) ∈ wsG := wsG_at 1050 (by decide +kernel) (by decide +kernel)
theorem wG1052 : (Cond.instanceMethod yX7_oneMore : Cond) ∈ wsG := wsG_at 1052 (by decide +kernel) (by decide +kernel)
theorem wG1053 : (Cond.code yX7_oneMore cX7_oneMore 5 none : Cond) ∈ wsG := wsG_at 1053 (by decide +kernel) (by decide +kernel)
theorem wG1054 : (Cond.methodLink RL 87 yX7_apart : Cond) ∈ wsG := wsG_at 1054 (by decide +kernel) (by decide +kernel)
theorem wG1055 : (Cond.instanceMethod yX7_apart : Cond) ∈ wsG := wsG_at 1055 (by decide +kernel) (by decide +kernel)
theorem wG1056 : (Cond.selects RX7 yX7_apart yX7_apart : Cond) ∈ wsG := wsG_at 1056 (by decide +kernel) (by decide +kernel)
theorem wG1057 : (Cond.code yX7_apart cX7_apart 3 (some .int) : Cond) ∈ wsG := wsG_at 1057 (by decide +kernel) (by decide +kernel)
theorem wG1058 : (Cond.methodLink RX7 276 yX7_apartNow : Cond) ∈ wsG := wsG_at 1058 (by decide +kernel) (by decide +kernel)
theorem wG1060 : (Cond.instanceMethod yX7_apartNow : Cond) ∈ wsG := wsG_at 1060 (by decide +kernel) (by decide +kernel)
theorem wG1061 : (Cond.code yX7_apartNow cX7_apartNow 4 (some .int) : Cond) ∈ wsG := wsG_at 1061 (by decide +kernel) (by decide +kernel)
theorem wG1062 : (Cond.methodLink RX7 273 yX7_layParts : Cond) ∈ wsG := wsG_at 1062 (by decide +kernel) (by decide +kernel)
theorem wG1064 : (Cond.instanceMethod yX7_layParts : Cond) ∈ wsG := wsG_at 1064 (by decide +kernel) (by decide +kernel)
theorem wG1065 : (Cond.code yX7_layParts cX7_layParts 6 none : Cond) ∈ wsG := wsG_at 1065 (by decide +kernel) (by decide +kernel)
theorem wG1066 : (Cond.methodLink RX7 266 yX7_isBoth : Cond) ∈ wsG := wsG_at 1066 (by decide +kernel) (by decide +kernel)
theorem wG1068 : (Cond.instanceMethod yX7_isBoth : Cond) ∈ wsG := wsG_at 1068 (by decide +kernel) (by decide +kernel)
theorem wG1069 : (Cond.code yX7_isBoth cX7_isBoth 4 (some .boolean) : Cond) ∈ wsG := wsG_at 1069 (by decide +kernel) (by decide +kernel)
theorem wG1070 : (Cond.methodLink RX7 269 yX7_goesTo : Cond) ∈ wsG := wsG_at 1070 (by decide +kernel) (by decide +kernel)
theorem wG1072 : (Cond.instanceMethod yX7_goesTo : Cond) ∈ wsG := wsG_at 1072 (by decide +kernel) (by decide +kernel)
theorem wG1073 : (Cond.code yX7_goesTo cX7_goesTo 8 (some .boolean) : Cond) ∈ wsG := wsG_at 1073 (by decide +kernel) (by decide +kernel)
theorem wG1074 : (Cond.methodLink RX7 263 yX7_bothBehind : Cond) ∈ wsG := wsG_at 1074 (by decide +kernel) (by decide +kernel)
theorem wG1076 : (Cond.instanceMethod yX7_bothBehind : Cond) ∈ wsG := wsG_at 1076 (by decide +kernel) (by decide +kernel)
theorem wG1077 : (Cond.code yX7_bothBehind cX7_bothBehind 7 (some .int) : Cond) ∈ wsG := wsG_at 1077 (by decide +kernel) (by decide +kernel)
theorem wG1078 : (Cond.methodLink RL 92 yX7_tells : Cond) ∈ wsG := wsG_at 1078 (by decide +kernel) (by decide +kernel)
theorem wG1079 : (Cond.instanceMethod yX7_tells : Cond) ∈ wsG := wsG_at 1079 (by decide +kernel) (by decide +kernel)
theorem wG1080 : (Cond.selects RX7 yX7_tells yX7_tells : Cond) ∈ wsG := wsG_at 1080 (by decide +kernel) (by decide +kernel)
theorem wG1081 : (Cond.code yX7_tells cX7_tells 4 (some .int) : Cond) ∈ wsG := wsG_at 1081 (by decide +kernel) (by decide +kernel)
theorem wG1082 : (Cond.methodLink RX7 282 yX7_tellsNow : Cond) ∈ wsG := wsG_at 1082 (by decide +kernel) (by decide +kernel)
theorem wG1084 : (Cond.instanceMethod yX7_tellsNow : Cond) ∈ wsG := wsG_at 1084 (by decide +kernel) (by decide +kernel)
theorem wG1085 : (Cond.code yX7_tellsNow cX7_tellsNow 8 (some .int) : Cond) ∈ wsG := wsG_at 1085 (by decide +kernel) (by decide +kernel)
theorem wG1086 : (Cond.methodLink RX7 279 yX7_leastTo : Cond) ∈ wsG := wsG_at 1086 (by decide +kernel) (by decide +kernel)
theorem wG1088 : (Cond.instanceMethod yX7_leastTo : Cond) ∈ wsG := wsG_at 1088 (by decide +kernel) (by decide +kernel)
theorem wG1089 : (Cond.code yX7_leastTo cX7_leastTo 7 (some .int) : Cond) ∈ wsG := wsG_at 1089 (by decide +kernel) (by decide +kernel)
theorem wG1090 : (Cond.methodLink RL 96 yX7_cuts : Cond) ∈ wsG := wsG_at 1090 (by decide +kernel) (by decide +kernel)
theorem wG1091 : (Cond.instanceMethod yX7_cuts : Cond) ∈ wsG := wsG_at 1091 (by decide +kernel) (by decide +kernel)
theorem wG1092 : (Cond.selects RX7 yX7_cuts yX7_cuts : Cond) ∈ wsG := wsG_at 1092 (by decide +kernel) (by decide +kernel)
theorem wG1093 : (Cond.code yX7_cuts cX7_cuts 2 (some .int) : Cond) ∈ wsG := wsG_at 1093 (by decide +kernel) (by decide +kernel)
theorem wG1094 : (Cond.methodLink RX7 292 yX7_areCuts : Cond) ∈ wsG := wsG_at 1094 (by decide +kernel) (by decide +kernel)
theorem wG1096 : (Cond.instanceMethod yX7_areCuts : Cond) ∈ wsG := wsG_at 1096 (by decide +kernel) (by decide +kernel)
theorem wG1097 : (Cond.code yX7_areCuts cX7_areCuts 1 (some .boolean) : Cond) ∈ wsG := wsG_at 1097 (by decide +kernel) (by decide +kernel)
theorem wG1098 : (Cond.methodLink RX7 289 yX7_layCuts : Cond) ∈ wsG := wsG_at 1098 (by decide +kernel) (by decide +kernel)
theorem wG1100 : (Cond.instanceMethod yX7_layCuts : Cond) ∈ wsG := wsG_at 1100 (by decide +kernel) (by decide +kernel)
theorem wG1101 : (Cond.code yX7_layCuts cX7_layCuts 4 none : Cond) ∈ wsG := wsG_at 1101 (by decide +kernel) (by decide +kernel)
theorem wG1102 : (Cond.methodLink RX7 285 yX7_tryPiece : Cond) ∈ wsG := wsG_at 1102 (by decide +kernel) (by decide +kernel)
theorem wG1104 : (Cond.instanceMethod yX7_tryPiece : Cond) ∈ wsG := wsG_at 1104 (by decide +kernel) (by decide +kernel)
theorem wG1105 : (Cond.code yX7_tryPiece cX7_tryPiece 8 none : Cond) ∈ wsG := wsG_at 1105 (by decide +kernel) (by decide +kernel)
theorem wG1106 : (Cond.methodLink RL 100 yX7_piece : Cond) ∈ wsG := wsG_at 1106 (by decide +kernel) (by decide +kernel)
theorem wG1107 : (Cond.instanceMethod yX7_piece : Cond) ∈ wsG := wsG_at 1107 (by decide +kernel) (by decide +kernel)
theorem wG1108 : (Cond.selects RX7 yX7_piece yX7_piece : Cond) ∈ wsG := wsG_at 1108 (by decide +kernel) (by decide +kernel)
theorem wG1109 : (Cond.code yX7_piece cX7_piece 3 (some .int) : Cond) ∈ wsG := wsG_at 1109 (by decide +kernel) (by decide +kernel)
theorem wG1110 : (Cond.methodLink RX7 296 yX7_pieceNow : Cond) ∈ wsG := wsG_at 1110 (by decide +kernel) (by decide +kernel)
theorem wG1112 : (Cond.instanceMethod yX7_pieceNow : Cond) ∈ wsG := wsG_at 1112 (by decide +kernel) (by decide +kernel)
theorem wG1113 : (Cond.code yX7_pieceNow cX7_pieceNow 5 (some .int) : Cond) ∈ wsG := wsG_at 1113 (by decide +kernel) (by decide +kernel)
theorem wG1114 : (Cond.methodLink RL 104 yX7_count : Cond) ∈ wsG := wsG_at 1114 (by decide +kernel) (by decide +kernel)
theorem wG1115 : (Cond.instanceMethod yX7_count : Cond) ∈ wsG := wsG_at 1115 (by decide +kernel) (by decide +kernel)
theorem wG1116 : (Cond.selects RX7 yX7_count yX7_count : Cond) ∈ wsG := wsG_at 1116 (by decide +kernel) (by decide +kernel)
theorem wG1117 : (Cond.code yX7_count cX7_count 2 (some .int) : Cond) ∈ wsG := wsG_at 1117 (by decide +kernel) (by decide +kernel)
theorem wG1118 : (Cond.methodLink RX7 305 yX7_howMany : Cond) ∈ wsG := wsG_at 1118 (by decide +kernel) (by decide +kernel)
theorem wG1120 : (Cond.instanceMethod yX7_howMany : Cond) ∈ wsG := wsG_at 1120 (by decide +kernel) (by decide +kernel)
theorem wG1121 : (Cond.code yX7_howMany cX7_howMany 2 (some .int) : Cond) ∈ wsG := wsG_at 1121 (by decide +kernel) (by decide +kernel)
theorem wG1122 : (Cond.methodLink RX7 299 yX7_aliveMany : Cond) ∈ wsG := wsG_at 1122 (by decide +kernel) (by decide +kernel)
theorem wG1124 : (Cond.instanceMethod yX7_aliveMany : Cond) ∈ wsG := wsG_at 1124 (by decide +kernel) (by decide +kernel)
theorem wG1125 : (Cond.code yX7_aliveMany cX7_aliveMany 3 (some .int) : Cond) ∈ wsG := wsG_at 1125 (by decide +kernel) (by decide +kernel)
theorem wG1126 : (Cond.methodLink RX7 302 yX7_validMany : Cond) ∈ wsG := wsG_at 1126 (by decide +kernel) (by decide +kernel)
theorem wG1128 : (Cond.instanceMethod yX7_validMany : Cond) ∈ wsG := wsG_at 1128 (by decide +kernel) (by decide +kernel)
theorem wG1129 : (Cond.code yX7_validMany cX7_validMany 3 (some .int) : Cond) ∈ wsG := wsG_at 1129 (by decide +kernel) (by decide +kernel)
theorem wG1130 : (Cond.methodLink RL 109 yX7_digest : Cond) ∈ wsG := wsG_at 1130 (by decide +kernel) (by decide +kernel)
theorem wG1131 : (Cond.instanceMethod yX7_digest : Cond) ∈ wsG := wsG_at 1131 (by decide +kernel) (by decide +kernel)
theorem wG1132 : (Cond.selects RX7 yX7_digest yX7_digest : Cond) ∈ wsG := wsG_at 1132 (by decide +kernel) (by decide +kernel)
theorem wG1133 : (Cond.code yX7_digest cX7_digest 2 (some .long) : Cond) ∈ wsG := wsG_at 1133 (by decide +kernel) (by decide +kernel)
theorem wG1134 : (Cond.constantLong RX7 318 (1511) : Cond) ∈ wsG := wsG_at 1134 (by decide +kernel) (by decide +kernel)
theorem wG1135 : (Cond.methodLink RX7 320 yX7_mixCode : Cond) ∈ wsG := wsG_at 1135 (by decide +kernel) (by decide +kernel)
theorem wG1137 : (Cond.instanceMethod yX7_mixCode : Cond) ∈ wsG := wsG_at 1137 (by decide +kernel) (by decide +kernel)
theorem wG1138 : (Cond.code yX7_mixCode cX7_mixCode 3 none : Cond) ∈ wsG := wsG_at 1138 (by decide +kernel) (by decide +kernel)
theorem wG1139 : (Cond.methodLink RX7 314 yX7_mix : Cond) ∈ wsG := wsG_at 1139 (by decide +kernel) (by decide +kernel)
theorem wG1141 : (Cond.instanceMethod yX7_mix : Cond) ∈ wsG := wsG_at 1141 (by decide +kernel) (by decide +kernel)
theorem wG1142 : (Cond.code yX7_mix cX7_mix 3 none : Cond) ∈ wsG := wsG_at 1142 (by decide +kernel) (by decide +kernel)
theorem wG1143 : (Cond.constantLong RX7 308 (31) : Cond) ∈ wsG := wsG_at 1143 (by decide +kernel) (by decide +kernel)
theorem wG1144 : (Cond.methodLink RX7 323 yX7_mixCuts : Cond) ∈ wsG := wsG_at 1144 (by decide +kernel) (by decide +kernel)
theorem wG1146 : (Cond.instanceMethod yX7_mixCuts : Cond) ∈ wsG := wsG_at 1146 (by decide +kernel) (by decide +kernel)
theorem wG1147 : (Cond.code yX7_mixCuts cX7_mixCuts 2 none : Cond) ∈ wsG := wsG_at 1147 (by decide +kernel) (by decide +kernel)
end
section
theorem dX0_init_0 : decode cX0_init 0 = .ok (.aload_n 0, 1) := by decide +kernel
theorem dX0_init_1 : decode cX0_init 1 = .ok (.invokespecial 3, 3) := by decide +kernel
theorem dX0_init_4 : decode cX0_init 4 = .ok (.aload_n 0, 1) := by decide +kernel
theorem dX0_init_5 : decode cX0_init 5 = .ok (.bipush 22, 2) := by decide +kernel
theorem dX0_init_7 : decode cX0_init 7 = .ok (.newarray .int, 2) := by decide +kernel
theorem dX0_init_9 : decode cX0_init 9 = .ok (.putfield 9, 3) := by decide +kernel
theorem dX0_init_12 : decode cX0_init 12 = .ok (.aload_n 0, 1) := by decide +kernel
theorem dX0_init_13 : decode cX0_init 13 = .ok (.bipush 40, 2) := by decide +kernel
theorem dX0_init_15 : decode cX0_init 15 = .ok (.newarray .int, 2) := by decide +kernel
theorem dX0_init_17 : decode cX0_init 17 = .ok (.putfield 15, 3) := by decide +kernel
theorem dX0_init_20 : decode cX0_init 20 = .ok (.aload_n 0, 1) := by decide +kernel
theorem dX0_init_21 : decode cX0_init 21 = .ok (.bipush 120, 2) := by decide +kernel
theorem dX0_init_23 : decode cX0_init 23 = .ok (.newarray .int, 2) := by decide +kernel
theorem dX0_init_25 : decode cX0_init 25 = .ok (.putfield 18, 3) := by decide +kernel
theorem dX0_init_28 : decode cX0_init 28 = .ok (.aload_n 0, 1) := by decide +kernel
theorem dX0_init_29 : decode cX0_init 29 = .ok (.bipush 120, 2) := by decide +kernel
theorem dX0_init_31 : decode cX0_init 31 = .ok (.newarray .int, 2) := by decide +kernel
theorem dX0_init_33 : decode cX0_init 33 = .ok (.putfield 21, 3) := by decide +kernel
theorem dX0_init_36 : decode cX0_init 36 = .ok (.aload_n 0, 1) := by decide +kernel
theorem dX0_init_37 : decode cX0_init 37 = .ok (.iconst 5, 1) := by decide +kernel
theorem dX0_init_38 : decode cX0_init 38 = .ok (.newarray .int, 2) := by decide +kernel
theorem dX0_init_40 : decode cX0_init 40 = .ok (.putfield 24, 3) := by decide +kernel
theorem dX0_init_43 : decode cX0_init 43 = .ok (.aload_n 0, 1) := by decide +kernel
theorem dX0_init_44 : decode cX0_init 44 = .ok (.iconst 5, 1) := by decide +kernel
theorem dX0_init_45 : decode cX0_init 45 = .ok (.newarray .int, 2) := by decide +kernel
theorem dX0_init_47 : decode cX0_init 47 = .ok (.putfield 27, 3) := by decide +kernel
theorem dX0_init_50 : decode cX0_init 50 = .ok (.return_, 1) := by decide +kernel
theorem dX0_load_0 : decode cX0_load 0 = .ok (.aload_n 0, 1) := by decide +kernel
theorem dX0_load_1 : decode cX0_load 1 = .ok (.iload_n 2, 1) := by decide +kernel
theorem dX0_load_2 : decode cX0_load 2 = .ok (.aload_n 1, 1) := by decide +kernel
theorem dX0_load_3 : decode cX0_load 3 = .ok (.arraylength, 1) := by decide +kernel
theorem dX0_load_4 : decode cX0_load 4 = .ok (.invokestatic 30, 3) := by decide +kernel
theorem dX0_load_7 : decode cX0_load 7 = .ok (.bipush 22, 2) := by decide +kernel
theorem dX0_load_9 : decode cX0_load 9 = .ok (.invokestatic 30, 3) := by decide +kernel
theorem dX0_load_12 : decode cX0_load 12 = .ok (.putfield 36, 3) := by decide +kernel
theorem dX0_load_15 : decode cX0_load 15 = .ok (.iconst 0, 1) := by decide +kernel
theorem dX0_load_16 : decode cX0_load 16 = .ok (.istore_n 3, 1) := by decide +kernel
theorem dX0_load_17 : decode cX0_load 17 = .ok (.iload_n 3, 1) := by decide +kernel
theorem dX0_load_18 : decode cX0_load 18 = .ok (.aload_n 0, 1) := by decide +kernel
theorem dX0_load_19 : decode cX0_load 19 = .ok (.getfield 36, 3) := by decide +kernel
theorem dX0_load_22 : decode cX0_load 22 = .ok (.if_icmp .ge 18, 3) := by decide +kernel
theorem dX0_load_25 : decode cX0_load 25 = .ok (.aload_n 0, 1) := by decide +kernel
theorem dX0_load_26 : decode cX0_load 26 = .ok (.getfield 9, 3) := by decide +kernel
theorem dX0_load_29 : decode cX0_load 29 = .ok (.iload_n 3, 1) := by decide +kernel
theorem dX0_load_30 : decode cX0_load 30 = .ok (.aload_n 1, 1) := by decide +kernel
theorem dX0_load_31 : decode cX0_load 31 = .ok (.iload_n 3, 1) := by decide +kernel
theorem dX0_load_32 : decode cX0_load 32 = .ok (.iaload, 1) := by decide +kernel
theorem dX0_load_33 : decode cX0_load 33 = .ok (.iastore, 1) := by decide +kernel
theorem dX0_load_34 : decode cX0_load 34 = .ok (.iinc 3 1, 3) := by decide +kernel
theorem dX0_load_37 : decode cX0_load 37 = .ok (.goto (-20), 3) := by decide +kernel
theorem dX0_load_40 : decode cX0_load 40 = .ok (.aload_n 0, 1) := by decide +kernel
theorem dX0_load_41 : decode cX0_load 41 = .ok (.aload_n 0, 1) := by decide +kernel
theorem dX0_load_42 : decode cX0_load 42 = .ok (.getfield 9, 3) := by decide +kernel
theorem dX0_load_45 : decode cX0_load 45 = .ok (.iconst 0, 1) := by decide +kernel
theorem dX0_load_46 : decode cX0_load 46 = .ok (.iaload, 1) := by decide +kernel
theorem dX0_load_47 : decode cX0_load 47 = .ok (.invokestatic 40, 3) := by decide +kernel
theorem dX0_load_50 : decode cX0_load 50 = .ok (.putfield 46, 3) := by decide +kernel
theorem dX0_load_53 : decode cX0_load 53 = .ok (.aload_n 0, 1) := by decide +kernel
theorem dX0_load_54 : decode cX0_load 54 = .ok (.aload_n 0, 1) := by decide +kernel
theorem dX0_load_55 : decode cX0_load 55 = .ok (.getfield 9, 3) := by decide +kernel
theorem dX0_load_58 : decode cX0_load 58 = .ok (.iconst 1, 1) := by decide +kernel
theorem dX0_load_59 : decode cX0_load 59 = .ok (.iaload, 1) := by decide +kernel
theorem dX0_load_60 : decode cX0_load 60 = .ok (.bipush 48, 2) := by decide +kernel
theorem dX0_load_62 : decode cX0_load 62 = .ok (.isub, 1) := by decide +kernel
theorem dX0_load_63 : decode cX0_load 63 = .ok (.putfield 49, 3) := by decide +kernel
theorem dX0_load_66 : decode cX0_load 66 = .ok (.aload_n 0, 1) := by decide +kernel
theorem dX0_load_67 : decode cX0_load 67 = .ok (.aload_n 0, 1) := by decide +kernel
theorem dX0_load_68 : decode cX0_load 68 = .ok (.getfield 46, 3) := by decide +kernel
theorem dX0_load_71 : decode cX0_load 71 = .ok (.invokestatic 52, 3) := by decide +kernel
theorem dX0_load_74 : decode cX0_load 74 = .ok (.putfield 55, 3) := by decide +kernel
theorem dX0_load_77 : decode cX0_load 77 = .ok (.iconst 0, 1) := by decide +kernel
theorem dX0_load_78 : decode cX0_load 78 = .ok (.istore_n 3, 1) := by decide +kernel
theorem dX0_load_79 : decode cX0_load 79 = .ok (.iload_n 3, 1) := by decide +kernel
theorem dX0_load_80 : decode cX0_load 80 = .ok (.iconst 5, 1) := by decide +kernel
theorem dX0_load_81 : decode cX0_load 81 = .ok (.if_icmp .ge 69, 3) := by decide +kernel
theorem dX0_load_84 : decode cX0_load 84 = .ok (.iconst 0, 1) := by decide +kernel
theorem dX0_load_85 : decode cX0_load 85 = .ok (.istore 4, 2) := by decide +kernel
theorem dX0_load_87 : decode cX0_load 87 = .ok (.iload 4, 2) := by decide +kernel
theorem dX0_load_89 : decode cX0_load 89 = .ok (.bipush 8, 2) := by decide +kernel
theorem dX0_load_91 : decode cX0_load 91 = .ok (.if_icmp .ge 53, 3) := by decide +kernel
theorem dX0_load_94 : decode cX0_load 94 = .ok (.iload_n 3, 1) := by decide +kernel
theorem dX0_load_95 : decode cX0_load 95 = .ok (.aload_n 0, 1) := by decide +kernel
theorem dX0_load_96 : decode cX0_load 96 = .ok (.getfield 55, 3) := by decide +kernel
theorem dX0_load_99 : decode cX0_load 99 = .ok (.if_icmp .ge 13, 3) := by decide +kernel
theorem dX0_load_102 : decode cX0_load 102 = .ok (.aload_n 0, 1) := by decide +kernel
theorem dX0_load_103 : decode cX0_load 103 = .ok (.iload_n 3, 1) := by decide +kernel
theorem dX0_load_104 : decode cX0_load 104 = .ok (.iload 4, 2) := by decide +kernel
theorem dX0_load_106 : decode cX0_load 106 = .ok (.invokevirtual 58, 3) := by decide +kernel
theorem dX0_load_109 : decode cX0_load 109 = .ok (.goto 4, 3) := by decide +kernel
theorem dX0_load_112 : decode cX0_load 112 = .ok (.iconst (-1), 1) := by decide +kernel
theorem dX0_load_113 : decode cX0_load 113 = .ok (.istore 5, 2) := by decide +kernel
theorem dX0_load_115 : decode cX0_load 115 = .ok (.aload_n 0, 1) := by decide +kernel
theorem dX0_load_116 : decode cX0_load 116 = .ok (.getfield 15, 3) := by decide +kernel
theorem dX0_load_119 : decode cX0_load 119 = .ok (.iload_n 3, 1) := by decide +kernel
theorem dX0_load_120 : decode cX0_load 120 = .ok (.bipush 8, 2) := by decide +kernel
theorem dX0_load_122 : decode cX0_load 122 = .ok (.imul, 1) := by decide +kernel
theorem dX0_load_123 : decode cX0_load 123 = .ok (.iload 4, 2) := by decide +kernel
theorem dX0_load_125 : decode cX0_load 125 = .ok (.iadd, 1) := by decide +kernel
theorem dX0_load_126 : decode cX0_load 126 = .ok (.iload 5, 2) := by decide +kernel
theorem dX0_load_128 : decode cX0_load 128 = .ok (.iastore, 1) := by decide +kernel
theorem dX0_load_129 : decode cX0_load 129 = .ok (.aload_n 0, 1) := by decide +kernel
theorem dX0_load_130 : decode cX0_load 130 = .ok (.iload_n 3, 1) := by decide +kernel
theorem dX0_load_131 : decode cX0_load 131 = .ok (.iload 4, 2) := by decide +kernel
theorem dX0_load_133 : decode cX0_load 133 = .ok (.iload 5, 2) := by decide +kernel
theorem dX0_load_135 : decode cX0_load 135 = .ok (.invokevirtual 61, 3) := by decide +kernel
theorem dX0_load_138 : decode cX0_load 138 = .ok (.iinc 4 1, 3) := by decide +kernel
theorem dX0_load_141 : decode cX0_load 141 = .ok (.goto (-54), 3) := by decide +kernel
theorem dX0_load_144 : decode cX0_load 144 = .ok (.iinc 3 1, 3) := by decide +kernel
theorem dX0_load_147 : decode cX0_load 147 = .ok (.goto (-68), 3) := by decide +kernel
theorem dX0_load_150 : decode cX0_load 150 = .ok (.return_, 1) := by decide +kernel
theorem dX0_modesOf_0 : decode cX0_modesOf 0 = .ok (.iload_n 0, 1) := by decide +kernel
theorem dX0_modesOf_1 : decode cX0_modesOf 1 = .ok (.iconst 2, 1) := by decide +kernel
theorem dX0_modesOf_2 : decode cX0_modesOf 2 = .ok (.if_icmp .ne 5, 3) := by decide +kernel
theorem dX0_modesOf_5 : decode cX0_modesOf 5 = .ok (.iconst 5, 1) := by decide +kernel
theorem dX0_modesOf_6 : decode cX0_modesOf 6 = .ok (.ireturn, 1) := by decide +kernel
theorem dX0_modesOf_7 : decode cX0_modesOf 7 = .ok (.iload_n 0, 1) := by decide +kernel
theorem dX0_modesOf_8 : decode cX0_modesOf 8 = .ok (.ifCond .ne 7, 3) := by decide +kernel
theorem dX0_modesOf_11 : decode cX0_modesOf 11 = .ok (.iconst 1, 1) := by decide +kernel
theorem dX0_modesOf_12 : decode cX0_modesOf 12 = .ok (.goto 4, 3) := by decide +kernel
theorem dX0_modesOf_15 : decode cX0_modesOf 15 = .ok (.iconst 2, 1) := by decide +kernel
theorem dX0_modesOf_16 : decode cX0_modesOf 16 = .ok (.ireturn, 1) := by decide +kernel
theorem dX0_layOut_0 : decode cX0_layOut 0 = .ok (.iconst 0, 1) := by decide +kernel
theorem dX0_layOut_1 : decode cX0_layOut 1 = .ok (.istore 4, 2) := by decide +kernel
theorem dX0_layOut_3 : decode cX0_layOut 3 = .ok (.iload 4, 2) := by decide +kernel
theorem dX0_layOut_5 : decode cX0_layOut 5 = .ok (.iconst 3, 1) := by decide +kernel
theorem dX0_layOut_6 : decode cX0_layOut 6 = .ok (.if_icmp .ge 98, 3) := by decide +kernel
theorem dX0_layOut_9 : decode cX0_layOut 9 = .ok (.iload_n 1, 1) := by decide +kernel
theorem dX0_layOut_10 : decode cX0_layOut 10 = .ok (.iconst 3, 1) := by decide +kernel
theorem dX0_layOut_11 : decode cX0_layOut 11 = .ok (.imul, 1) := by decide +kernel
theorem dX0_layOut_12 : decode cX0_layOut 12 = .ok (.iload 4, 2) := by decide +kernel
theorem dX0_layOut_14 : decode cX0_layOut 14 = .ok (.iadd, 1) := by decide +kernel
theorem dX0_layOut_15 : decode cX0_layOut 15 = .ok (.bipush 8, 2) := by decide +kernel
theorem dX0_layOut_17 : decode cX0_layOut 17 = .ok (.imul, 1) := by decide +kernel
theorem dX0_layOut_18 : decode cX0_layOut 18 = .ok (.iload_n 2, 1) := by decide +kernel
theorem dX0_layOut_19 : decode cX0_layOut 19 = .ok (.iadd, 1) := by decide +kernel
theorem dX0_layOut_20 : decode cX0_layOut 20 = .ok (.istore 5, 2) := by decide +kernel
theorem dX0_layOut_22 : decode cX0_layOut 22 = .ok (.iload_n 3, 1) := by decide +kernel
theorem dX0_layOut_23 : decode cX0_layOut 23 = .ok (.iconst (-1), 1) := by decide +kernel
theorem dX0_layOut_24 : decode cX0_layOut 24 = .ok (.if_icmp .eq 13, 3) := by decide +kernel
theorem dX0_layOut_27 : decode cX0_layOut 27 = .ok (.iload_n 3, 1) := by decide +kernel
theorem dX0_layOut_28 : decode cX0_layOut 28 = .ok (.iconst 3, 1) := by decide +kernel
theorem dX0_layOut_29 : decode cX0_layOut 29 = .ok (.irem, 1) := by decide +kernel
theorem dX0_layOut_30 : decode cX0_layOut 30 = .ok (.ifCond .eq 7, 3) := by decide +kernel
theorem dX0_layOut_33 : decode cX0_layOut 33 = .ok (.iconst 1, 1) := by decide +kernel
theorem dX0_layOut_34 : decode cX0_layOut 34 = .ok (.goto 4, 3) := by decide +kernel
theorem dX0_layOut_37 : decode cX0_layOut 37 = .ok (.iconst 0, 1) := by decide +kernel
theorem dX0_layOut_38 : decode cX0_layOut 38 = .ok (.istore 6, 2) := by decide +kernel
theorem dX0_layOut_40 : decode cX0_layOut 40 = .ok (.aload_n 0, 1) := by decide +kernel
theorem dX0_layOut_41 : decode cX0_layOut 41 = .ok (.getfield 18, 3) := by decide +kernel
theorem dX0_layOut_44 : decode cX0_layOut 44 = .ok (.iload 5, 2) := by decide +kernel
theorem dX0_layOut_46 : decode cX0_layOut 46 = .ok (.iload_n 3, 1) := by decide +kernel
theorem dX0_layOut_47 : decode cX0_layOut 47 = .ok (.iconst (-1), 1) := by decide +kernel
theorem dX0_layOut_48 : decode cX0_layOut 48 = .ok (.if_icmp .eq 8, 3) := by decide +kernel
theorem dX0_layOut_51 : decode cX0_layOut 51 = .ok (.iload 6, 2) := by decide +kernel
theorem dX0_layOut_53 : decode cX0_layOut 53 = .ok (.ifCond .eq 7, 3) := by decide +kernel
theorem dX0_layOut_56 : decode cX0_layOut 56 = .ok (.iload_n 3, 1) := by decide +kernel
theorem dX0_layOut_57 : decode cX0_layOut 57 = .ok (.goto 7, 3) := by decide +kernel
theorem dX0_layOut_60 : decode cX0_layOut 60 = .ok (.iload_n 3, 1) := by decide +kernel
theorem dX0_layOut_61 : decode cX0_layOut 61 = .ok (.iload 4, 2) := by decide +kernel
theorem dX0_layOut_63 : decode cX0_layOut 63 = .ok (.iadd, 1) := by decide +kernel
theorem dX0_layOut_64 : decode cX0_layOut 64 = .ok (.iastore, 1) := by decide +kernel
theorem dX0_layOut_65 : decode cX0_layOut 65 = .ok (.aload_n 0, 1) := by decide +kernel
theorem dX0_layOut_66 : decode cX0_layOut 66 = .ok (.getfield 21, 3) := by decide +kernel
theorem dX0_layOut_69 : decode cX0_layOut 69 = .ok (.iload 5, 2) := by decide +kernel
theorem dX0_layOut_71 : decode cX0_layOut 71 = .ok (.iload 6, 2) := by decide +kernel
theorem dX0_layOut_73 : decode cX0_layOut 73 = .ok (.ifCond .eq 23, 3) := by decide +kernel
theorem dX0_layOut_76 : decode cX0_layOut 76 = .ok (.iload 4, 2) := by decide +kernel
theorem dX0_layOut_78 : decode cX0_layOut 78 = .ok (.ifCond .eq 18, 3) := by decide +kernel
theorem dX0_layOut_81 : decode cX0_layOut 81 = .ok (.aload_n 0, 1) := by decide +kernel
theorem dX0_layOut_82 : decode cX0_layOut 82 = .ok (.iload 4, 2) := by decide +kernel
theorem dX0_layOut_84 : decode cX0_layOut 84 = .ok (.iload_n 3, 1) := by decide +kernel
theorem dX0_layOut_85 : decode cX0_layOut 85 = .ok (.iconst 3, 1) := by decide +kernel
theorem dX0_layOut_86 : decode cX0_layOut 86 = .ok (.irem, 1) := by decide +kernel
theorem dX0_layOut_87 : decode cX0_layOut 87 = .ok (.invokestatic 65, 3) := by decide +kernel
theorem dX0_layOut_90 : decode cX0_layOut 90 = .ok (.invokevirtual 68, 3) := by decide +kernel
theorem dX0_layOut_93 : decode cX0_layOut 93 = .ok (.goto 4, 3) := by decide +kernel
theorem dX0_layOut_96 : decode cX0_layOut 96 = .ok (.iconst 0, 1) := by decide +kernel
theorem dX0_layOut_97 : decode cX0_layOut 97 = .ok (.iastore, 1) := by decide +kernel
theorem dX0_layOut_98 : decode cX0_layOut 98 = .ok (.iinc 4 1, 3) := by decide +kernel
theorem dX0_layOut_101 : decode cX0_layOut 101 = .ok (.goto (-98), 3) := by decide +kernel
theorem dX0_layOut_104 : decode cX0_layOut 104 = .ok (.return_, 1) := by decide +kernel
theorem dX0_moveOf_0 : decode cX0_moveOf 0 = .ok (.aload_n 0, 1) := by decide +kernel
theorem dX0_moveOf_1 : decode cX0_moveOf 1 = .ok (.getfield 46, 3) := by decide +kernel
theorem dX0_moveOf_4 : decode cX0_moveOf 4 = .ok (.tableswitch 124 0 3 #[32, 43, 70, 97], 32) := by decide +kernel
theorem dX0_moveOf_36 : decode cX0_moveOf 36 = .ok (.iconst 0, 1) := by decide +kernel
theorem dX0_moveOf_37 : decode cX0_moveOf 37 = .ok (.aload_n 0, 1) := by decide +kernel
theorem dX0_moveOf_38 : decode cX0_moveOf 38 = .ok (.iconst 0, 1) := by decide +kernel
theorem dX0_moveOf_39 : decode cX0_moveOf 39 = .ok (.iload_n 2, 1) := by decide +kernel
theorem dX0_moveOf_40 : decode cX0_moveOf 40 = .ok (.invokevirtual 71, 3) := by decide +kernel
theorem dX0_moveOf_43 : decode cX0_moveOf 43 = .ok (.invokestatic 74, 3) := by decide +kernel
theorem dX0_moveOf_46 : decode cX0_moveOf 46 = .ok (.ireturn, 1) := by decide +kernel
theorem dX0_moveOf_47 : decode cX0_moveOf 47 = .ok (.iload_n 1, 1) := by decide +kernel
theorem dX0_moveOf_48 : decode cX0_moveOf 48 = .ok (.ifCond .ne 15, 3) := by decide +kernel
theorem dX0_moveOf_51 : decode cX0_moveOf 51 = .ok (.iload_n 2, 1) := by decide +kernel
theorem dX0_moveOf_52 : decode cX0_moveOf 52 = .ok (.aload_n 0, 1) := by decide +kernel
theorem dX0_moveOf_53 : decode cX0_moveOf 53 = .ok (.getfield 49, 3) := by decide +kernel
theorem dX0_moveOf_56 : decode cX0_moveOf 56 = .ok (.if_icmp .lt 7, 3) := by decide +kernel
theorem dX0_moveOf_59 : decode cX0_moveOf 59 = .ok (.iconst 3, 1) := by decide +kernel
theorem dX0_moveOf_60 : decode cX0_moveOf 60 = .ok (.goto 13, 3) := by decide +kernel
theorem dX0_moveOf_63 : decode cX0_moveOf 63 = .ok (.iconst 0, 1) := by decide +kernel
theorem dX0_moveOf_64 : decode cX0_moveOf 64 = .ok (.aload_n 0, 1) := by decide +kernel
theorem dX0_moveOf_65 : decode cX0_moveOf 65 = .ok (.iconst 0, 1) := by decide +kernel
theorem dX0_moveOf_66 : decode cX0_moveOf 66 = .ok (.iload_n 2, 1) := by decide +kernel
theorem dX0_moveOf_67 : decode cX0_moveOf 67 = .ok (.invokevirtual 71, 3) := by decide +kernel
theorem dX0_moveOf_70 : decode cX0_moveOf 70 = .ok (.invokestatic 74, 3) := by decide +kernel
theorem dX0_moveOf_73 : decode cX0_moveOf 73 = .ok (.ireturn, 1) := by decide +kernel
theorem dX0_moveOf_74 : decode cX0_moveOf 74 = .ok (.iload_n 1, 1) := by decide +kernel
theorem dX0_moveOf_75 : decode cX0_moveOf 75 = .ok (.ifCond .ne 15, 3) := by decide +kernel
theorem dX0_moveOf_78 : decode cX0_moveOf 78 = .ok (.aload_n 0, 1) := by decide +kernel
theorem dX0_moveOf_79 : decode cX0_moveOf 79 = .ok (.iconst 0, 1) := by decide +kernel
theorem dX0_moveOf_80 : decode cX0_moveOf 80 = .ok (.iload_n 2, 1) := by decide +kernel
theorem dX0_moveOf_81 : decode cX0_moveOf 81 = .ok (.invokevirtual 71, 3) := by decide +kernel
theorem dX0_moveOf_84 : decode cX0_moveOf 84 = .ok (.invokestatic 77, 3) := by decide +kernel
theorem dX0_moveOf_87 : decode cX0_moveOf 87 = .ok (.goto 13, 3) := by decide +kernel
theorem dX0_moveOf_90 : decode cX0_moveOf 90 = .ok (.iload_n 1, 1) := by decide +kernel
theorem dX0_moveOf_91 : decode cX0_moveOf 91 = .ok (.aload_n 0, 1) := by decide +kernel
theorem dX0_moveOf_92 : decode cX0_moveOf 92 = .ok (.iconst 0, 1) := by decide +kernel
theorem dX0_moveOf_93 : decode cX0_moveOf 93 = .ok (.iload_n 2, 1) := by decide +kernel
theorem dX0_moveOf_94 : decode cX0_moveOf 94 = .ok (.invokevirtual 71, 3) := by decide +kernel
theorem dX0_moveOf_97 : decode cX0_moveOf 97 = .ok (.invokestatic 80, 3) := by decide +kernel
theorem dX0_moveOf_100 : decode cX0_moveOf 100 = .ok (.ireturn, 1) := by decide +kernel
theorem dX0_moveOf_101 : decode cX0_moveOf 101 = .ok (.iload_n 2, 1) := by decide +kernel
theorem dX0_moveOf_102 : decode cX0_moveOf 102 = .ok (.aload_n 0, 1) := by decide +kernel
theorem dX0_moveOf_103 : decode cX0_moveOf 103 = .ok (.getfield 49, 3) := by decide +kernel
theorem dX0_moveOf_106 : decode cX0_moveOf 106 = .ok (.if_icmp .ne 11, 3) := by decide +kernel
theorem dX0_moveOf_109 : decode cX0_moveOf 109 = .ok (.iconst 1, 1) := by decide +kernel
theorem dX0_moveOf_110 : decode cX0_moveOf 110 = .ok (.iload_n 1, 1) := by decide +kernel
theorem dX0_moveOf_111 : decode cX0_moveOf 111 = .ok (.isub, 1) := by decide +kernel
theorem dX0_moveOf_112 : decode cX0_moveOf 112 = .ok (.iconst 3, 1) := by decide +kernel
theorem dX0_moveOf_113 : decode cX0_moveOf 113 = .ok (.imul, 1) := by decide +kernel
theorem dX0_moveOf_114 : decode cX0_moveOf 114 = .ok (.goto 13, 3) := by decide +kernel
theorem dX0_moveOf_117 : decode cX0_moveOf 117 = .ok (.iload_n 1, 1) := by decide +kernel
theorem dX0_moveOf_118 : decode cX0_moveOf 118 = .ok (.aload_n 0, 1) := by decide +kernel
theorem dX0_moveOf_119 : decode cX0_moveOf 119 = .ok (.iload_n 1, 1) := by decide +kernel
theorem dX0_moveOf_120 : decode cX0_moveOf 120 = .ok (.iload_n 2, 1) := by decide +kernel
theorem dX0_moveOf_121 : decode cX0_moveOf 121 = .ok (.invokevirtual 71, 3) := by decide +kernel
theorem dX0_moveOf_124 : decode cX0_moveOf 124 = .ok (.invokestatic 74, 3) := by decide +kernel
theorem dX0_moveOf_127 : decode cX0_moveOf 127 = .ok (.ireturn, 1) := by decide +kernel
theorem dX0_moveOf_128 : decode cX0_moveOf 128 = .ok (.iconst (-1), 1) := by decide +kernel
theorem dX0_moveOf_129 : decode cX0_moveOf 129 = .ok (.ireturn, 1) := by decide +kernel
theorem dX0_signMove_0 : decode cX0_signMove 0 = .ok (.iload_n 1, 1) := by decide +kernel
theorem dX0_signMove_1 : decode cX0_signMove 1 = .ok (.bipush 97, 2) := by decide +kernel
theorem dX0_signMove_3 : decode cX0_signMove 3 = .ok (.if_icmp .ne 9, 3) := by decide +kernel
theorem dX0_signMove_6 : decode cX0_signMove 6 = .ok (.iload_n 0, 1) := by decide +kernel
theorem dX0_signMove_7 : decode cX0_signMove 7 = .ok (.iconst 3, 1) := by decide +kernel
theorem dX0_signMove_8 : decode cX0_signMove 8 = .ok (.imul, 1) := by decide +kernel
theorem dX0_signMove_9 : decode cX0_signMove 9 = .ok (.iconst 1, 1) := by decide +kernel
theorem dX0_signMove_10 : decode cX0_signMove 10 = .ok (.iadd, 1) := by decide +kernel
theorem dX0_signMove_11 : decode cX0_signMove 11 = .ok (.ireturn, 1) := by decide +kernel
theorem dX0_signMove_12 : decode cX0_signMove 12 = .ok (.iload_n 1, 1) := by decide +kernel
theorem dX0_signMove_13 : decode cX0_signMove 13 = .ok (.bipush 98, 2) := by decide +kernel
theorem dX0_signMove_15 : decode cX0_signMove 15 = .ok (.if_icmp .ne 11, 3) := by decide +kernel
theorem dX0_signMove_18 : decode cX0_signMove 18 = .ok (.iload_n 0, 1) := by decide +kernel
theorem dX0_signMove_19 : decode cX0_signMove 19 = .ok (.iconst 3, 1) := by decide +kernel
theorem dX0_signMove_20 : decode cX0_signMove 20 = .ok (.imul, 1) := by decide +kernel
theorem dX0_signMove_21 : decode cX0_signMove 21 = .ok (.iconst 2, 1) := by decide +kernel
theorem dX0_signMove_22 : decode cX0_signMove 22 = .ok (.iadd, 1) := by decide +kernel
theorem dX0_signMove_23 : decode cX0_signMove 23 = .ok (.goto 4, 3) := by decide +kernel
theorem dX0_signMove_26 : decode cX0_signMove 26 = .ok (.iconst (-1), 1) := by decide +kernel
theorem dX0_signMove_27 : decode cX0_signMove 27 = .ok (.ireturn, 1) := by decide +kernel
theorem dX0_beginMove_0 : decode cX0_beginMove 0 = .ok (.iload_n 0, 1) := by decide +kernel
theorem dX0_beginMove_1 : decode cX0_beginMove 1 = .ok (.tableswitch 42 99 102 #[31, 33, 36, 39], 31) := by decide +kernel
theorem dX0_beginMove_32 : decode cX0_beginMove 32 = .ok (.iconst 3, 1) := by decide +kernel
theorem dX0_beginMove_33 : decode cX0_beginMove 33 = .ok (.ireturn, 1) := by decide +kernel
theorem dX0_beginMove_34 : decode cX0_beginMove 34 = .ok (.bipush 6, 2) := by decide +kernel
theorem dX0_beginMove_36 : decode cX0_beginMove 36 = .ok (.ireturn, 1) := by decide +kernel
theorem dX0_beginMove_37 : decode cX0_beginMove 37 = .ok (.bipush 9, 2) := by decide +kernel
theorem dX0_beginMove_39 : decode cX0_beginMove 39 = .ok (.ireturn, 1) := by decide +kernel
theorem dX0_beginMove_40 : decode cX0_beginMove 40 = .ok (.bipush 12, 2) := by decide +kernel
theorem dX0_beginMove_42 : decode cX0_beginMove 42 = .ok (.ireturn, 1) := by decide +kernel
theorem dX0_beginMove_43 : decode cX0_beginMove 43 = .ok (.iconst 0, 1) := by decide +kernel
theorem dX0_beginMove_44 : decode cX0_beginMove 44 = .ok (.iload_n 0, 1) := by decide +kernel
theorem dX0_beginMove_45 : decode cX0_beginMove 45 = .ok (.invokestatic 74, 3) := by decide +kernel
theorem dX0_beginMove_48 : decode cX0_beginMove 48 = .ok (.ireturn, 1) := by decide +kernel
theorem dX0_wantedMove_0 : decode cX0_wantedMove 0 = .ok (.iload_n 1, 1) := by decide +kernel
theorem dX0_wantedMove_1 : decode cX0_wantedMove 1 = .ok (.bipush 43, 2) := by decide +kernel
theorem dX0_wantedMove_3 : decode cX0_wantedMove 3 = .ok (.if_icmp .eq 5, 3) := by decide +kernel
theorem dX0_wantedMove_6 : decode cX0_wantedMove 6 = .ok (.iconst (-1), 1) := by decide +kernel
theorem dX0_wantedMove_7 : decode cX0_wantedMove 7 = .ok (.ireturn, 1) := by decide +kernel
theorem dX0_wantedMove_8 : decode cX0_wantedMove 8 = .ok (.iload_n 0, 1) := by decide +kernel
theorem dX0_wantedMove_9 : decode cX0_wantedMove 9 = .ok (.tableswitch 40 1 4 #[31, 33, 35, 37], 31) := by decide +kernel
theorem dX0_wantedMove_40 : decode cX0_wantedMove 40 = .ok (.iconst 1, 1) := by decide +kernel
theorem dX0_wantedMove_41 : decode cX0_wantedMove 41 = .ok (.ireturn, 1) := by decide +kernel
theorem dX0_wantedMove_42 : decode cX0_wantedMove 42 = .ok (.iconst 2, 1) := by decide +kernel
theorem dX0_wantedMove_43 : decode cX0_wantedMove 43 = .ok (.ireturn, 1) := by decide +kernel
theorem dX0_wantedMove_44 : decode cX0_wantedMove 44 = .ok (.iconst 3, 1) := by decide +kernel
theorem dX0_wantedMove_45 : decode cX0_wantedMove 45 = .ok (.ireturn, 1) := by decide +kernel
theorem dX0_wantedMove_46 : decode cX0_wantedMove 46 = .ok (.bipush 6, 2) := by decide +kernel
theorem dX0_wantedMove_48 : decode cX0_wantedMove 48 = .ok (.ireturn, 1) := by decide +kernel
theorem dX0_wantedMove_49 : decode cX0_wantedMove 49 = .ok (.iconst (-1), 1) := by decide +kernel
theorem dX0_wantedMove_50 : decode cX0_wantedMove 50 = .ok (.ireturn, 1) := by decide +kernel
theorem dX0_markOf_0 : decode cX0_markOf 0 = .ok (.aload_n 0, 1) := by decide +kernel
theorem dX0_markOf_1 : decode cX0_markOf 1 = .ok (.getfield 46, 3) := by decide +kernel
theorem dX0_markOf_4 : decode cX0_markOf 4 = .ok (.invokestatic 83, 3) := by decide +kernel
theorem dX0_markOf_7 : decode cX0_markOf 7 = .ok (.iload_n 1, 1) := by decide +kernel
theorem dX0_markOf_8 : decode cX0_markOf 8 = .ok (.bipush 8, 2) := by decide +kernel
theorem dX0_markOf_10 : decode cX0_markOf 10 = .ok (.imul, 1) := by decide +kernel
theorem dX0_markOf_11 : decode cX0_markOf 11 = .ok (.iadd, 1) := by decide +kernel
theorem dX0_markOf_12 : decode cX0_markOf 12 = .ok (.iload_n 2, 1) := by decide +kernel
theorem dX0_markOf_13 : decode cX0_markOf 13 = .ok (.iadd, 1) := by decide +kernel
theorem dX0_markOf_14 : decode cX0_markOf 14 = .ok (.istore_n 3, 1) := by decide +kernel
theorem dX0_markOf_15 : decode cX0_markOf 15 = .ok (.iload_n 3, 1) := by decide +kernel
theorem dX0_markOf_16 : decode cX0_markOf 16 = .ok (.ifCond .lt 20, 3) := by decide +kernel
theorem dX0_markOf_19 : decode cX0_markOf 19 = .ok (.iload_n 3, 1) := by decide +kernel
theorem dX0_markOf_20 : decode cX0_markOf 20 = .ok (.aload_n 0, 1) := by decide +kernel
theorem dX0_markOf_21 : decode cX0_markOf 21 = .ok (.getfield 36, 3) := by decide +kernel
theorem dX0_markOf_24 : decode cX0_markOf 24 = .ok (.if_icmp .ge 12, 3) := by decide +kernel
theorem dX0_markOf_27 : decode cX0_markOf 27 = .ok (.aload_n 0, 1) := by decide +kernel
theorem dX0_markOf_28 : decode cX0_markOf 28 = .ok (.getfield 9, 3) := by decide +kernel
theorem dX0_markOf_31 : decode cX0_markOf 31 = .ok (.iload_n 3, 1) := by decide +kernel
theorem dX0_markOf_32 : decode cX0_markOf 32 = .ok (.iaload, 1) := by decide +kernel
theorem dX0_markOf_33 : decode cX0_markOf 33 = .ok (.goto 5, 3) := by decide +kernel
theorem dX0_markOf_36 : decode cX0_markOf 36 = .ok (.bipush 33, 2) := by decide +kernel
theorem dX0_markOf_38 : decode cX0_markOf 38 = .ok (.ireturn, 1) := by decide +kernel
theorem dX0_kind_0 : decode cX0_kind 0 = .ok (.aload_n 0, 1) := by decide +kernel
theorem dX0_kind_1 : decode cX0_kind 1 = .ok (.getfield 46, 3) := by decide +kernel
theorem dX0_kind_4 : decode cX0_kind 4 = .ok (.ireturn, 1) := by decide +kernel
theorem dX0_textLength_0 : decode cX0_textLength 0 = .ok (.aload_n 0, 1) := by decide +kernel
theorem dX0_textLength_1 : decode cX0_textLength 1 = .ok (.getfield 36, 3) := by decide +kernel
theorem dX0_textLength_4 : decode cX0_textLength 4 = .ok (.ireturn, 1) := by decide +kernel
theorem dX0_textAt_0 : decode cX0_textAt 0 = .ok (.iload_n 1, 1) := by decide +kernel
theorem dX0_textAt_1 : decode cX0_textAt 1 = .ok (.ifCond .lt 20, 3) := by decide +kernel
theorem dX0_textAt_4 : decode cX0_textAt 4 = .ok (.iload_n 1, 1) := by decide +kernel
theorem dX0_textAt_5 : decode cX0_textAt 5 = .ok (.aload_n 0, 1) := by decide +kernel
theorem dX0_textAt_6 : decode cX0_textAt 6 = .ok (.getfield 36, 3) := by decide +kernel
theorem dX0_textAt_9 : decode cX0_textAt 9 = .ok (.if_icmp .ge 12, 3) := by decide +kernel
theorem dX0_textAt_12 : decode cX0_textAt 12 = .ok (.aload_n 0, 1) := by decide +kernel
theorem dX0_textAt_13 : decode cX0_textAt 13 = .ok (.getfield 9, 3) := by decide +kernel
theorem dX0_textAt_16 : decode cX0_textAt 16 = .ok (.iload_n 1, 1) := by decide +kernel
theorem dX0_textAt_17 : decode cX0_textAt 17 = .ok (.iaload, 1) := by decide +kernel
theorem dX0_textAt_18 : decode cX0_textAt 18 = .ok (.goto 5, 3) := by decide +kernel
theorem dX0_textAt_21 : decode cX0_textAt 21 = .ok (.bipush (-101), 2) := by decide +kernel
theorem dX0_textAt_23 : decode cX0_textAt 23 = .ok (.ireturn, 1) := by decide +kernel
theorem dX0_pointsOf_0 : decode cX0_pointsOf 0 = .ok (.aload_n 0, 1) := by decide +kernel
theorem dX0_pointsOf_1 : decode cX0_pointsOf 1 = .ok (.getfield 46, 3) := by decide +kernel
theorem dX0_pointsOf_4 : decode cX0_pointsOf 4 = .ok (.invokestatic 86, 3) := by decide +kernel
theorem dX0_pointsOf_7 : decode cX0_pointsOf 7 = .ok (.iload_n 1, 1) := by decide +kernel
theorem dX0_pointsOf_8 : decode cX0_pointsOf 8 = .ok (.iadd, 1) := by decide +kernel
theorem dX0_pointsOf_9 : decode cX0_pointsOf 9 = .ok (.istore_n 2, 1) := by decide +kernel
theorem dX0_pointsOf_10 : decode cX0_pointsOf 10 = .ok (.iload_n 2, 1) := by decide +kernel
theorem dX0_pointsOf_11 : decode cX0_pointsOf 11 = .ok (.ifCond .lt 23, 3) := by decide +kernel
theorem dX0_pointsOf_14 : decode cX0_pointsOf 14 = .ok (.iload_n 2, 1) := by decide +kernel
theorem dX0_pointsOf_15 : decode cX0_pointsOf 15 = .ok (.aload_n 0, 1) := by decide +kernel
theorem dX0_pointsOf_16 : decode cX0_pointsOf 16 = .ok (.getfield 36, 3) := by decide +kernel
theorem dX0_pointsOf_19 : decode cX0_pointsOf 19 = .ok (.if_icmp .ge 15, 3) := by decide +kernel
theorem dX0_pointsOf_22 : decode cX0_pointsOf 22 = .ok (.aload_n 0, 1) := by decide +kernel
theorem dX0_pointsOf_23 : decode cX0_pointsOf 23 = .ok (.getfield 9, 3) := by decide +kernel
theorem dX0_pointsOf_26 : decode cX0_pointsOf 26 = .ok (.iload_n 2, 1) := by decide +kernel
theorem dX0_pointsOf_27 : decode cX0_pointsOf 27 = .ok (.iaload, 1) := by decide +kernel
theorem dX0_pointsOf_28 : decode cX0_pointsOf 28 = .ok (.bipush 48, 2) := by decide +kernel
theorem dX0_pointsOf_30 : decode cX0_pointsOf 30 = .ok (.isub, 1) := by decide +kernel
theorem dX0_pointsOf_31 : decode cX0_pointsOf 31 = .ok (.goto 4, 3) := by decide +kernel
theorem dX0_pointsOf_34 : decode cX0_pointsOf 34 = .ok (.iconst 0, 1) := by decide +kernel
theorem dX0_pointsOf_35 : decode cX0_pointsOf 35 = .ok (.ireturn, 1) := by decide +kernel
theorem dX0_states_0 : decode cX0_states 0 = .ok (.aload_n 0, 1) := by decide +kernel
theorem dX0_states_1 : decode cX0_states 1 = .ok (.getfield 55, 3) := by decide +kernel
theorem dX0_states_4 : decode cX0_states 4 = .ok (.iconst 3, 1) := by decide +kernel
theorem dX0_states_5 : decode cX0_states 5 = .ok (.imul, 1) := by decide +kernel
theorem dX0_states_6 : decode cX0_states 6 = .ok (.ireturn, 1) := by decide +kernel
theorem dX0_modes_0 : decode cX0_modes 0 = .ok (.aload_n 0, 1) := by decide +kernel
theorem dX0_modes_1 : decode cX0_modes 1 = .ok (.getfield 55, 3) := by decide +kernel
theorem dX0_modes_4 : decode cX0_modes 4 = .ok (.ireturn, 1) := by decide +kernel
theorem dX0_sortPair_0 : decode cX0_sortPair 0 = .ok (.iload_n 0, 1) := by decide +kernel
theorem dX0_sortPair_1 : decode cX0_sortPair 1 = .ok (.iconst 1, 1) := by decide +kernel
theorem dX0_sortPair_2 : decode cX0_sortPair 2 = .ok (.isub, 1) := by decide +kernel
theorem dX0_sortPair_3 : decode cX0_sortPair 3 = .ok (.iconst 2, 1) := by decide +kernel
theorem dX0_sortPair_4 : decode cX0_sortPair 4 = .ok (.imul, 1) := by decide +kernel
theorem dX0_sortPair_5 : decode cX0_sortPair 5 = .ok (.iload_n 1, 1) := by decide +kernel
theorem dX0_sortPair_6 : decode cX0_sortPair 6 = .ok (.iadd, 1) := by decide +kernel
theorem dX0_sortPair_7 : decode cX0_sortPair 7 = .ok (.iconst 1, 1) := by decide +kernel
theorem dX0_sortPair_8 : decode cX0_sortPair 8 = .ok (.isub, 1) := by decide +kernel
theorem dX0_sortPair_9 : decode cX0_sortPair 9 = .ok (.ireturn, 1) := by decide +kernel
theorem dX0_modeOf_0 : decode cX0_modeOf 0 = .ok (.iload_n 0, 1) := by decide +kernel
theorem dX0_modeOf_1 : decode cX0_modeOf 1 = .ok (.iconst 3, 1) := by decide +kernel
theorem dX0_modeOf_2 : decode cX0_modeOf 2 = .ok (.idiv, 1) := by decide +kernel
theorem dX0_modeOf_3 : decode cX0_modeOf 3 = .ok (.ireturn, 1) := by decide +kernel
theorem dX0_moveIn_0 : decode cX0_moveIn 0 = .ok (.iload_n 1, 1) := by decide +kernel
theorem dX0_moveIn_1 : decode cX0_moveIn 1 = .ok (.ifCond .lt 15, 3) := by decide +kernel
theorem dX0_moveIn_4 : decode cX0_moveIn 4 = .ok (.iload_n 1, 1) := by decide +kernel
theorem dX0_moveIn_5 : decode cX0_moveIn 5 = .ok (.iconst 5, 1) := by decide +kernel
theorem dX0_moveIn_6 : decode cX0_moveIn 6 = .ok (.if_icmp .ge 10, 3) := by decide +kernel
theorem dX0_moveIn_9 : decode cX0_moveIn 9 = .ok (.iload_n 2, 1) := by decide +kernel
theorem dX0_moveIn_10 : decode cX0_moveIn 10 = .ok (.invokestatic 89, 3) := by decide +kernel
theorem dX0_moveIn_13 : decode cX0_moveIn 13 = .ok (.ifCond .ne 5, 3) := by decide +kernel
theorem dX0_moveIn_16 : decode cX0_moveIn 16 = .ok (.iconst (-1), 1) := by decide +kernel
theorem dX0_moveIn_17 : decode cX0_moveIn 17 = .ok (.ireturn, 1) := by decide +kernel
theorem dX0_moveIn_18 : decode cX0_moveIn 18 = .ok (.aload_n 0, 1) := by decide +kernel
theorem dX0_moveIn_19 : decode cX0_moveIn 19 = .ok (.getfield 15, 3) := by decide +kernel
theorem dX0_moveIn_22 : decode cX0_moveIn 22 = .ok (.iload_n 1, 1) := by decide +kernel
theorem dX0_moveIn_23 : decode cX0_moveIn 23 = .ok (.bipush 8, 2) := by decide +kernel
theorem dX0_moveIn_25 : decode cX0_moveIn 25 = .ok (.imul, 1) := by decide +kernel
theorem dX0_moveIn_26 : decode cX0_moveIn 26 = .ok (.iload_n 2, 1) := by decide +kernel
theorem dX0_moveIn_27 : decode cX0_moveIn 27 = .ok (.iadd, 1) := by decide +kernel
theorem dX0_moveIn_28 : decode cX0_moveIn 28 = .ok (.iaload, 1) := by decide +kernel
theorem dX0_moveIn_29 : decode cX0_moveIn 29 = .ok (.ireturn, 1) := by decide +kernel
theorem dX0_nextMode_0 : decode cX0_nextMode 0 = .ok (.aload_n 0, 1) := by decide +kernel
theorem dX0_nextMode_1 : decode cX0_nextMode 1 = .ok (.iload_n 1, 1) := by decide +kernel
theorem dX0_nextMode_2 : decode cX0_nextMode 2 = .ok (.iload_n 2, 1) := by decide +kernel
theorem dX0_nextMode_3 : decode cX0_nextMode 3 = .ok (.invokevirtual 93, 3) := by decide +kernel
theorem dX0_nextMode_6 : decode cX0_nextMode 6 = .ok (.istore_n 3, 1) := by decide +kernel
theorem dX0_nextMode_7 : decode cX0_nextMode 7 = .ok (.iload_n 3, 1) := by decide +kernel
theorem dX0_nextMode_8 : decode cX0_nextMode 8 = .ok (.iconst (-1), 1) := by decide +kernel
theorem dX0_nextMode_9 : decode cX0_nextMode 9 = .ok (.if_icmp .ne 7, 3) := by decide +kernel
theorem dX0_nextMode_12 : decode cX0_nextMode 12 = .ok (.iconst (-1), 1) := by decide +kernel
theorem dX0_nextMode_13 : decode cX0_nextMode 13 = .ok (.goto 6, 3) := by decide +kernel
theorem dX0_nextMode_16 : decode cX0_nextMode 16 = .ok (.iload_n 3, 1) := by decide +kernel
theorem dX0_nextMode_17 : decode cX0_nextMode 17 = .ok (.iconst 3, 1) := by decide +kernel
theorem dX0_nextMode_18 : decode cX0_nextMode 18 = .ok (.idiv, 1) := by decide +kernel
theorem dX0_nextMode_19 : decode cX0_nextMode 19 = .ok (.ireturn, 1) := by decide +kernel
theorem dX0_sortEnded_0 : decode cX0_sortEnded 0 = .ok (.aload_n 0, 1) := by decide +kernel
theorem dX0_sortEnded_1 : decode cX0_sortEnded 1 = .ok (.iload_n 1, 1) := by decide +kernel
theorem dX0_sortEnded_2 : decode cX0_sortEnded 2 = .ok (.iload_n 2, 1) := by decide +kernel
theorem dX0_sortEnded_3 : decode cX0_sortEnded 3 = .ok (.invokevirtual 93, 3) := by decide +kernel
theorem dX0_sortEnded_6 : decode cX0_sortEnded 6 = .ok (.istore_n 3, 1) := by decide +kernel
theorem dX0_sortEnded_7 : decode cX0_sortEnded 7 = .ok (.iload_n 3, 1) := by decide +kernel
theorem dX0_sortEnded_8 : decode cX0_sortEnded 8 = .ok (.iconst (-1), 1) := by decide +kernel
theorem dX0_sortEnded_9 : decode cX0_sortEnded 9 = .ok (.if_icmp .ne 7, 3) := by decide +kernel
theorem dX0_sortEnded_12 : decode cX0_sortEnded 12 = .ok (.iconst 0, 1) := by decide +kernel
theorem dX0_sortEnded_13 : decode cX0_sortEnded 13 = .ok (.goto 6, 3) := by decide +kernel
theorem dX0_sortEnded_16 : decode cX0_sortEnded 16 = .ok (.iload_n 3, 1) := by decide +kernel
theorem dX0_sortEnded_17 : decode cX0_sortEnded 17 = .ok (.iconst 3, 1) := by decide +kernel
theorem dX0_sortEnded_18 : decode cX0_sortEnded 18 = .ok (.irem, 1) := by decide +kernel
theorem dX0_sortEnded_19 : decode cX0_sortEnded 19 = .ok (.ireturn, 1) := by decide +kernel
theorem dX0_nextState_0 : decode cX0_nextState 0 = .ok (.iload_n 1, 1) := by decide +kernel
theorem dX0_nextState_1 : decode cX0_nextState 1 = .ok (.ifCond .lt 16, 3) := by decide +kernel
theorem dX0_nextState_4 : decode cX0_nextState 4 = .ok (.iload_n 1, 1) := by decide +kernel
theorem dX0_nextState_5 : decode cX0_nextState 5 = .ok (.bipush 15, 2) := by decide +kernel
theorem dX0_nextState_7 : decode cX0_nextState 7 = .ok (.if_icmp .ge 10, 3) := by decide +kernel
theorem dX0_nextState_10 : decode cX0_nextState 10 = .ok (.iload_n 2, 1) := by decide +kernel
theorem dX0_nextState_11 : decode cX0_nextState 11 = .ok (.invokestatic 89, 3) := by decide +kernel
theorem dX0_nextState_14 : decode cX0_nextState 14 = .ok (.ifCond .ne 5, 3) := by decide +kernel
theorem dX0_nextState_17 : decode cX0_nextState 17 = .ok (.iconst (-1), 1) := by decide +kernel
theorem dX0_nextState_18 : decode cX0_nextState 18 = .ok (.ireturn, 1) := by decide +kernel
theorem dX0_nextState_19 : decode cX0_nextState 19 = .ok (.aload_n 0, 1) := by decide +kernel
theorem dX0_nextState_20 : decode cX0_nextState 20 = .ok (.getfield 18, 3) := by decide +kernel
theorem dX0_nextState_23 : decode cX0_nextState 23 = .ok (.iload_n 1, 1) := by decide +kernel
theorem dX0_nextState_24 : decode cX0_nextState 24 = .ok (.bipush 8, 2) := by decide +kernel
theorem dX0_nextState_26 : decode cX0_nextState 26 = .ok (.imul, 1) := by decide +kernel
theorem dX0_nextState_27 : decode cX0_nextState 27 = .ok (.iload_n 2, 1) := by decide +kernel
theorem dX0_nextState_28 : decode cX0_nextState 28 = .ok (.iadd, 1) := by decide +kernel
theorem dX0_nextState_29 : decode cX0_nextState 29 = .ok (.iaload, 1) := by decide +kernel
theorem dX0_nextState_30 : decode cX0_nextState 30 = .ok (.ireturn, 1) := by decide +kernel
theorem dX0_gain_0 : decode cX0_gain 0 = .ok (.iload_n 1, 1) := by decide +kernel
theorem dX0_gain_1 : decode cX0_gain 1 = .ok (.ifCond .lt 16, 3) := by decide +kernel
theorem dX0_gain_4 : decode cX0_gain 4 = .ok (.iload_n 1, 1) := by decide +kernel
theorem dX0_gain_5 : decode cX0_gain 5 = .ok (.bipush 15, 2) := by decide +kernel
theorem dX0_gain_7 : decode cX0_gain 7 = .ok (.if_icmp .ge 10, 3) := by decide +kernel
theorem dX0_gain_10 : decode cX0_gain 10 = .ok (.iload_n 2, 1) := by decide +kernel
theorem dX0_gain_11 : decode cX0_gain 11 = .ok (.invokestatic 89, 3) := by decide +kernel
theorem dX0_gain_14 : decode cX0_gain 14 = .ok (.ifCond .ne 5, 3) := by decide +kernel
theorem dX0_gain_17 : decode cX0_gain 17 = .ok (.iconst 0, 1) := by decide +kernel
theorem dX0_gain_18 : decode cX0_gain 18 = .ok (.ireturn, 1) := by decide +kernel
theorem dX0_gain_19 : decode cX0_gain 19 = .ok (.aload_n 0, 1) := by decide +kernel
theorem dX0_gain_20 : decode cX0_gain 20 = .ok (.getfield 21, 3) := by decide +kernel
theorem dX0_gain_23 : decode cX0_gain 23 = .ok (.iload_n 1, 1) := by decide +kernel
theorem dX0_gain_24 : decode cX0_gain 24 = .ok (.bipush 8, 2) := by decide +kernel
theorem dX0_gain_26 : decode cX0_gain 26 = .ok (.imul, 1) := by decide +kernel
theorem dX0_gain_27 : decode cX0_gain 27 = .ok (.iload_n 2, 1) := by decide +kernel
theorem dX0_gain_28 : decode cX0_gain 28 = .ok (.iadd, 1) := by decide +kernel
theorem dX0_gain_29 : decode cX0_gain 29 = .ok (.iaload, 1) := by decide +kernel
theorem dX0_gain_30 : decode cX0_gain 30 = .ok (.ireturn, 1) := by decide +kernel
theorem dX0_validRows_0 : decode cX0_validRows 0 = .ok (.aload_n 0, 1) := by decide +kernel
theorem dX0_validRows_1 : decode cX0_validRows 1 = .ok (.getfield 24, 3) := by decide +kernel
theorem dX0_validRows_4 : decode cX0_validRows 4 = .ok (.iconst 0, 1) := by decide +kernel
theorem dX0_validRows_5 : decode cX0_validRows 5 = .ok (.invokestatic 96, 3) := by decide +kernel
theorem dX0_validRows_8 : decode cX0_validRows 8 = .ok (.aload_n 0, 1) := by decide +kernel
theorem dX0_validRows_9 : decode cX0_validRows 9 = .ok (.getfield 24, 3) := by decide +kernel
theorem dX0_validRows_12 : decode cX0_validRows 12 = .ok (.iconst 0, 1) := by decide +kernel
theorem dX0_validRows_13 : decode cX0_validRows 13 = .ok (.iconst 1, 1) := by decide +kernel
theorem dX0_validRows_14 : decode cX0_validRows 14 = .ok (.iastore, 1) := by decide +kernel
theorem dX0_validRows_15 : decode cX0_validRows 15 = .ok (.iconst 0, 1) := by decide +kernel
theorem dX0_validRows_16 : decode cX0_validRows 16 = .ok (.istore_n 2, 1) := by decide +kernel
theorem dX0_validRows_17 : decode cX0_validRows 17 = .ok (.iload_n 2, 1) := by decide +kernel
theorem dX0_validRows_18 : decode cX0_validRows 18 = .ok (.iload_n 1, 1) := by decide +kernel
theorem dX0_validRows_19 : decode cX0_validRows 19 = .ok (.if_icmp .ge 13, 3) := by decide +kernel
theorem dX0_validRows_22 : decode cX0_validRows 22 = .ok (.aload_n 0, 1) := by decide +kernel
theorem dX0_validRows_23 : decode cX0_validRows 23 = .ok (.invokevirtual 102, 3) := by decide +kernel
theorem dX0_validRows_26 : decode cX0_validRows 26 = .ok (.iinc 2 1, 3) := by decide +kernel
theorem dX0_validRows_29 : decode cX0_validRows 29 = .ok (.goto (-12), 3) := by decide +kernel
theorem dX0_validRows_32 : decode cX0_validRows 32 = .ok (.aload_n 0, 1) := by decide +kernel
theorem dX0_validRows_33 : decode cX0_validRows 33 = .ok (.getfield 24, 3) := by decide +kernel
theorem dX0_validRows_36 : decode cX0_validRows 36 = .ok (.iconst 0, 1) := by decide +kernel
theorem dX0_validRows_37 : decode cX0_validRows 37 = .ok (.iaload, 1) := by decide +kernel
theorem dX0_validRows_38 : decode cX0_validRows 38 = .ok (.ireturn, 1) := by decide +kernel
theorem dX0_lengthenWays_0 : decode cX0_lengthenWays 0 = .ok (.aload_n 0, 1) := by decide +kernel
theorem dX0_lengthenWays_1 : decode cX0_lengthenWays 1 = .ok (.getfield 27, 3) := by decide +kernel
theorem dX0_lengthenWays_4 : decode cX0_lengthenWays 4 = .ok (.iconst 0, 1) := by decide +kernel
theorem dX0_lengthenWays_5 : decode cX0_lengthenWays 5 = .ok (.invokestatic 96, 3) := by decide +kernel
theorem dX0_lengthenWays_8 : decode cX0_lengthenWays 8 = .ok (.iconst 0, 1) := by decide +kernel
theorem dX0_lengthenWays_9 : decode cX0_lengthenWays 9 = .ok (.istore_n 1, 1) := by decide +kernel
theorem dX0_lengthenWays_10 : decode cX0_lengthenWays 10 = .ok (.iload_n 1, 1) := by decide +kernel
theorem dX0_lengthenWays_11 : decode cX0_lengthenWays 11 = .ok (.aload_n 0, 1) := by decide +kernel
theorem dX0_lengthenWays_12 : decode cX0_lengthenWays 12 = .ok (.getfield 55, 3) := by decide +kernel
theorem dX0_lengthenWays_15 : decode cX0_lengthenWays 15 = .ok (.if_icmp .ge 54, 3) := by decide +kernel
theorem dX0_lengthenWays_18 : decode cX0_lengthenWays 18 = .ok (.iconst 0, 1) := by decide +kernel
theorem dX0_lengthenWays_19 : decode cX0_lengthenWays 19 = .ok (.istore_n 2, 1) := by decide +kernel
theorem dX0_lengthenWays_20 : decode cX0_lengthenWays 20 = .ok (.iload_n 2, 1) := by decide +kernel
theorem dX0_lengthenWays_21 : decode cX0_lengthenWays 21 = .ok (.bipush 8, 2) := by decide +kernel
theorem dX0_lengthenWays_23 : decode cX0_lengthenWays 23 = .ok (.if_icmp .ge 40, 3) := by decide +kernel
theorem dX0_lengthenWays_26 : decode cX0_lengthenWays 26 = .ok (.aload_n 0, 1) := by decide +kernel
theorem dX0_lengthenWays_27 : decode cX0_lengthenWays 27 = .ok (.iload_n 1, 1) := by decide +kernel
theorem dX0_lengthenWays_28 : decode cX0_lengthenWays 28 = .ok (.iload_n 2, 1) := by decide +kernel
theorem dX0_lengthenWays_29 : decode cX0_lengthenWays 29 = .ok (.invokevirtual 105, 3) := by decide +kernel
theorem dX0_lengthenWays_32 : decode cX0_lengthenWays 32 = .ok (.istore_n 3, 1) := by decide +kernel
theorem dX0_lengthenWays_33 : decode cX0_lengthenWays 33 = .ok (.iload_n 3, 1) := by decide +kernel
theorem dX0_lengthenWays_34 : decode cX0_lengthenWays 34 = .ok (.ifCond .lt 23, 3) := by decide +kernel
theorem dX0_lengthenWays_37 : decode cX0_lengthenWays 37 = .ok (.iload_n 3, 1) := by decide +kernel
theorem dX0_lengthenWays_38 : decode cX0_lengthenWays 38 = .ok (.iconst 5, 1) := by decide +kernel
theorem dX0_lengthenWays_39 : decode cX0_lengthenWays 39 = .ok (.if_icmp .ge 18, 3) := by decide +kernel
theorem dX0_lengthenWays_42 : decode cX0_lengthenWays 42 = .ok (.aload_n 0, 1) := by decide +kernel
theorem dX0_lengthenWays_43 : decode cX0_lengthenWays 43 = .ok (.getfield 27, 3) := by decide +kernel
theorem dX0_lengthenWays_46 : decode cX0_lengthenWays 46 = .ok (.iload_n 3, 1) := by decide +kernel
theorem dX0_lengthenWays_47 : decode cX0_lengthenWays 47 = .ok (.dup2, 1) := by decide +kernel
theorem dX0_lengthenWays_48 : decode cX0_lengthenWays 48 = .ok (.iaload, 1) := by decide +kernel
theorem dX0_lengthenWays_49 : decode cX0_lengthenWays 49 = .ok (.aload_n 0, 1) := by decide +kernel
theorem dX0_lengthenWays_50 : decode cX0_lengthenWays 50 = .ok (.getfield 24, 3) := by decide +kernel
theorem dX0_lengthenWays_53 : decode cX0_lengthenWays 53 = .ok (.iload_n 1, 1) := by decide +kernel
theorem dX0_lengthenWays_54 : decode cX0_lengthenWays 54 = .ok (.iaload, 1) := by decide +kernel
theorem dX0_lengthenWays_55 : decode cX0_lengthenWays 55 = .ok (.iadd, 1) := by decide +kernel
theorem dX0_lengthenWays_56 : decode cX0_lengthenWays 56 = .ok (.iastore, 1) := by decide +kernel
theorem dX0_lengthenWays_57 : decode cX0_lengthenWays 57 = .ok (.iinc 2 1, 3) := by decide +kernel
theorem dX0_lengthenWays_60 : decode cX0_lengthenWays 60 = .ok (.goto (-40), 3) := by decide +kernel
theorem dX0_lengthenWays_63 : decode cX0_lengthenWays 63 = .ok (.iinc 1 1, 3) := by decide +kernel
theorem dX0_lengthenWays_66 : decode cX0_lengthenWays 66 = .ok (.goto (-56), 3) := by decide +kernel
theorem dX0_lengthenWays_69 : decode cX0_lengthenWays 69 = .ok (.aload_n 0, 1) := by decide +kernel
theorem dX0_lengthenWays_70 : decode cX0_lengthenWays 70 = .ok (.getfield 27, 3) := by decide +kernel
theorem dX0_lengthenWays_73 : decode cX0_lengthenWays 73 = .ok (.iconst 0, 1) := by decide +kernel
theorem dX0_lengthenWays_74 : decode cX0_lengthenWays 74 = .ok (.aload_n 0, 1) := by decide +kernel
theorem dX0_lengthenWays_75 : decode cX0_lengthenWays 75 = .ok (.getfield 24, 3) := by decide +kernel
theorem dX0_lengthenWays_78 : decode cX0_lengthenWays 78 = .ok (.iconst 0, 1) := by decide +kernel
theorem dX0_lengthenWays_79 : decode cX0_lengthenWays 79 = .ok (.iconst 5, 1) := by decide +kernel
theorem dX0_lengthenWays_80 : decode cX0_lengthenWays 80 = .ok (.invokestatic 108, 3) := by decide +kernel
theorem dX0_lengthenWays_83 : decode cX0_lengthenWays 83 = .ok (.return_, 1) := by decide +kernel
theorem dX1_init_0 : decode cX1_init 0 = .ok (.aload_n 0, 1) := by decide +kernel
theorem dX1_init_1 : decode cX1_init 1 = .ok (.invokespecial 3, 3) := by decide +kernel
theorem dX1_init_4 : decode cX1_init 4 = .ok (.aload_n 0, 1) := by decide +kernel
theorem dX1_init_5 : decode cX1_init 5 = .ok (.bipush 41, 2) := by decide +kernel
theorem dX1_init_7 : decode cX1_init 7 = .ok (.newarray .int, 2) := by decide +kernel
theorem dX1_init_9 : decode cX1_init 9 = .ok (.putfield 9, 3) := by decide +kernel
theorem dX1_init_12 : decode cX1_init 12 = .ok (.aload_n 0, 1) := by decide +kernel
theorem dX1_init_13 : decode cX1_init 13 = .ok (.bipush 41, 2) := by decide +kernel
theorem dX1_init_15 : decode cX1_init 15 = .ok (.newarray .int, 2) := by decide +kernel
theorem dX1_init_17 : decode cX1_init 17 = .ok (.putfield 15, 3) := by decide +kernel
theorem dX1_init_20 : decode cX1_init 20 = .ok (.aload_n 0, 1) := by decide +kernel
theorem dX1_init_21 : decode cX1_init 21 = .ok (.bipush 41, 2) := by decide +kernel
theorem dX1_init_23 : decode cX1_init 23 = .ok (.newarray .int, 2) := by decide +kernel
theorem dX1_init_25 : decode cX1_init 25 = .ok (.putfield 18, 3) := by decide +kernel
theorem dX1_init_28 : decode cX1_init 28 = .ok (.aload_n 0, 1) := by decide +kernel
theorem dX1_init_29 : decode cX1_init 29 = .ok (.bipush 41, 2) := by decide +kernel
theorem dX1_init_31 : decode cX1_init 31 = .ok (.newarray .int, 2) := by decide +kernel
theorem dX1_init_33 : decode cX1_init 33 = .ok (.putfield 21, 3) := by decide +kernel
theorem dX1_init_36 : decode cX1_init 36 = .ok (.aload_n 0, 1) := by decide +kernel
theorem dX1_init_37 : decode cX1_init 37 = .ok (.bipush 41, 2) := by decide +kernel
theorem dX1_init_39 : decode cX1_init 39 = .ok (.newarray .int, 2) := by decide +kernel
theorem dX1_init_41 : decode cX1_init 41 = .ok (.putfield 24, 3) := by decide +kernel
theorem dX1_init_44 : decode cX1_init 44 = .ok (.return_, 1) := by decide +kernel
theorem dX1_divide_0 : decode cX1_divide 0 = .ok (.iload 4, 2) := by decide +kernel
theorem dX1_divide_2 : decode cX1_divide 2 = .ok (.aload_n 3, 1) := by decide +kernel
theorem dX1_divide_3 : decode cX1_divide 3 = .ok (.arraylength, 1) := by decide +kernel
theorem dX1_divide_4 : decode cX1_divide 4 = .ok (.invokestatic 27, 3) := by decide +kernel
theorem dX1_divide_7 : decode cX1_divide 7 = .ok (.bipush 40, 2) := by decide +kernel
theorem dX1_divide_9 : decode cX1_divide 9 = .ok (.invokestatic 27, 3) := by decide +kernel
theorem dX1_divide_12 : decode cX1_divide 12 = .ok (.istore 5, 2) := by decide +kernel
theorem dX1_divide_14 : decode cX1_divide 14 = .ok (.aload_n 0, 1) := by decide +kernel
theorem dX1_divide_15 : decode cX1_divide 15 = .ok (.getfield 9, 3) := by decide +kernel
theorem dX1_divide_18 : decode cX1_divide 18 = .ok (.iload 5, 2) := by decide +kernel
theorem dX1_divide_20 : decode cX1_divide 20 = .ok (.iconst 0, 1) := by decide +kernel
theorem dX1_divide_21 : decode cX1_divide 21 = .ok (.iastore, 1) := by decide +kernel
theorem dX1_divide_22 : decode cX1_divide 22 = .ok (.aload_n 0, 1) := by decide +kernel
theorem dX1_divide_23 : decode cX1_divide 23 = .ok (.getfield 15, 3) := by decide +kernel
theorem dX1_divide_26 : decode cX1_divide 26 = .ok (.iload 5, 2) := by decide +kernel
theorem dX1_divide_28 : decode cX1_divide 28 = .ok (.iconst 0, 1) := by decide +kernel
theorem dX1_divide_29 : decode cX1_divide 29 = .ok (.iastore, 1) := by decide +kernel
theorem dX1_divide_30 : decode cX1_divide 30 = .ok (.iload 5, 2) := by decide +kernel
theorem dX1_divide_32 : decode cX1_divide 32 = .ok (.iconst 1, 1) := by decide +kernel
theorem dX1_divide_33 : decode cX1_divide 33 = .ok (.isub, 1) := by decide +kernel
theorem dX1_divide_34 : decode cX1_divide 34 = .ok (.istore 6, 2) := by decide +kernel
theorem dX1_divide_36 : decode cX1_divide 36 = .ok (.iload 6, 2) := by decide +kernel
theorem dX1_divide_38 : decode cX1_divide 38 = .ok (.ifCond .lt 54, 3) := by decide +kernel
theorem dX1_divide_41 : decode cX1_divide 41 = .ok (.aload_n 0, 1) := by decide +kernel
theorem dX1_divide_42 : decode cX1_divide 42 = .ok (.getfield 15, 3) := by decide +kernel
theorem dX1_divide_45 : decode cX1_divide 45 = .ok (.iload 6, 2) := by decide +kernel
theorem dX1_divide_47 : decode cX1_divide 47 = .ok (.iconst (-1), 1) := by decide +kernel
theorem dX1_divide_48 : decode cX1_divide 48 = .ok (.iastore, 1) := by decide +kernel
theorem dX1_divide_49 : decode cX1_divide 49 = .ok (.iconst 0, 1) := by decide +kernel
theorem dX1_divide_50 : decode cX1_divide 50 = .ok (.istore 7, 2) := by decide +kernel
theorem dX1_divide_52 : decode cX1_divide 52 = .ok (.iload 7, 2) := by decide +kernel
theorem dX1_divide_54 : decode cX1_divide 54 = .ok (.iload_n 2, 1) := by decide +kernel
theorem dX1_divide_55 : decode cX1_divide 55 = .ok (.if_icmp .ge 31, 3) := by decide +kernel
theorem dX1_divide_58 : decode cX1_divide 58 = .ok (.iload 7, 2) := by decide +kernel
theorem dX1_divide_60 : decode cX1_divide 60 = .ok (.aload_n 1, 1) := by decide +kernel
theorem dX1_divide_61 : decode cX1_divide 61 = .ok (.arraylength, 1) := by decide +kernel
theorem dX1_divide_62 : decode cX1_divide 62 = .ok (.if_icmp .ge 24, 3) := by decide +kernel
theorem dX1_divide_65 : decode cX1_divide 65 = .ok (.aload_n 0, 1) := by decide +kernel
theorem dX1_divide_66 : decode cX1_divide 66 = .ok (.aload_n 1, 1) := by decide +kernel
theorem dX1_divide_67 : decode cX1_divide 67 = .ok (.iload 7, 2) := by decide +kernel
theorem dX1_divide_69 : decode cX1_divide 69 = .ok (.aaload, 1) := by decide +kernel
theorem dX1_divide_70 : decode cX1_divide 70 = .ok (.iload 7, 2) := by decide +kernel
theorem dX1_divide_72 : decode cX1_divide 72 = .ok (.aload_n 3, 1) := by decide +kernel
theorem dX1_divide_73 : decode cX1_divide 73 = .ok (.iload 6, 2) := by decide +kernel
theorem dX1_divide_75 : decode cX1_divide 75 = .ok (.iload 5, 2) := by decide +kernel
theorem dX1_divide_77 : decode cX1_divide 77 = .ok (.invokevirtual 33, 3) := by decide +kernel
theorem dX1_divide_80 : decode cX1_divide 80 = .ok (.iinc 7 1, 3) := by decide +kernel
theorem dX1_divide_83 : decode cX1_divide 83 = .ok (.goto (-31), 3) := by decide +kernel
theorem dX1_divide_86 : decode cX1_divide 86 = .ok (.iinc 6 (-1), 3) := by decide +kernel
theorem dX1_divide_89 : decode cX1_divide 89 = .ok (.goto (-53), 3) := by decide +kernel
theorem dX1_divide_92 : decode cX1_divide 92 = .ok (.aload_n 0, 1) := by decide +kernel
theorem dX1_divide_93 : decode cX1_divide 93 = .ok (.getfield 15, 3) := by decide +kernel
theorem dX1_divide_96 : decode cX1_divide 96 = .ok (.iconst 0, 1) := by decide +kernel
theorem dX1_divide_97 : decode cX1_divide 97 = .ok (.iaload, 1) := by decide +kernel
theorem dX1_divide_98 : decode cX1_divide 98 = .ok (.iconst (-1), 1) := by decide +kernel
theorem dX1_divide_99 : decode cX1_divide 99 = .ok (.if_icmp .eq 7, 3) := by decide +kernel
theorem dX1_divide_102 : decode cX1_divide 102 = .ok (.iconst 1, 1) := by decide +kernel
theorem dX1_divide_103 : decode cX1_divide 103 = .ok (.goto 4, 3) := by decide +kernel
theorem dX1_divide_106 : decode cX1_divide 106 = .ok (.iconst 0, 1) := by decide +kernel
theorem dX1_divide_107 : decode cX1_divide 107 = .ok (.ireturn, 1) := by decide +kernel
theorem dX1_tryPieces_0 : decode cX1_tryPieces 0 = .ok (.iconst 0, 1) := by decide +kernel
theorem dX1_tryPieces_1 : decode cX1_tryPieces 1 = .ok (.istore 6, 2) := by decide +kernel
theorem dX1_tryPieces_3 : decode cX1_tryPieces 3 = .ok (.iconst 0, 1) := by decide +kernel
theorem dX1_tryPieces_4 : decode cX1_tryPieces 4 = .ok (.istore 7, 2) := by decide +kernel
theorem dX1_tryPieces_6 : decode cX1_tryPieces 6 = .ok (.iload 4, 2) := by decide +kernel
theorem dX1_tryPieces_8 : decode cX1_tryPieces 8 = .ok (.istore 8, 2) := by decide +kernel
theorem dX1_tryPieces_10 : decode cX1_tryPieces 10 = .ok (.iload 8, 2) := by decide +kernel
theorem dX1_tryPieces_12 : decode cX1_tryPieces 12 = .ok (.iload 5, 2) := by decide +kernel
theorem dX1_tryPieces_14 : decode cX1_tryPieces 14 = .ok (.if_icmp .ge 71, 3) := by decide +kernel
theorem dX1_tryPieces_17 : decode cX1_tryPieces 17 = .ok (.iload 6, 2) := by decide +kernel
theorem dX1_tryPieces_19 : decode cX1_tryPieces 19 = .ok (.iconst (-1), 1) := by decide +kernel
theorem dX1_tryPieces_20 : decode cX1_tryPieces 20 = .ok (.if_icmp .eq 65, 3) := by decide +kernel
theorem dX1_tryPieces_23 : decode cX1_tryPieces 23 = .ok (.iload 7, 2) := by decide +kernel
theorem dX1_tryPieces_25 : decode cX1_tryPieces 25 = .ok (.aload_n 1, 1) := by decide +kernel
theorem dX1_tryPieces_26 : decode cX1_tryPieces 26 = .ok (.iload 6, 2) := by decide +kernel
theorem dX1_tryPieces_28 : decode cX1_tryPieces 28 = .ok (.aload_n 3, 1) := by decide +kernel
theorem dX1_tryPieces_29 : decode cX1_tryPieces 29 = .ok (.iload 8, 2) := by decide +kernel
theorem dX1_tryPieces_31 : decode cX1_tryPieces 31 = .ok (.iaload, 1) := by decide +kernel
theorem dX1_tryPieces_32 : decode cX1_tryPieces 32 = .ok (.invokevirtual 37, 3) := by decide +kernel
theorem dX1_tryPieces_35 : decode cX1_tryPieces 35 = .ok (.iadd, 1) := by decide +kernel
theorem dX1_tryPieces_36 : decode cX1_tryPieces 36 = .ok (.istore 7, 2) := by decide +kernel
theorem dX1_tryPieces_38 : decode cX1_tryPieces 38 = .ok (.aload_n 1, 1) := by decide +kernel
theorem dX1_tryPieces_39 : decode cX1_tryPieces 39 = .ok (.iload 6, 2) := by decide +kernel
theorem dX1_tryPieces_41 : decode cX1_tryPieces 41 = .ok (.aload_n 3, 1) := by decide +kernel
theorem dX1_tryPieces_42 : decode cX1_tryPieces 42 = .ok (.iload 8, 2) := by decide +kernel
theorem dX1_tryPieces_44 : decode cX1_tryPieces 44 = .ok (.iaload, 1) := by decide +kernel
theorem dX1_tryPieces_45 : decode cX1_tryPieces 45 = .ok (.invokevirtual 42, 3) := by decide +kernel
theorem dX1_tryPieces_48 : decode cX1_tryPieces 48 = .ok (.istore 6, 2) := by decide +kernel
theorem dX1_tryPieces_50 : decode cX1_tryPieces 50 = .ok (.iload 6, 2) := by decide +kernel
theorem dX1_tryPieces_52 : decode cX1_tryPieces 52 = .ok (.iconst (-1), 1) := by decide +kernel
theorem dX1_tryPieces_53 : decode cX1_tryPieces 53 = .ok (.if_icmp .eq 26, 3) := by decide +kernel
theorem dX1_tryPieces_56 : decode cX1_tryPieces 56 = .ok (.iload 6, 2) := by decide +kernel
theorem dX1_tryPieces_58 : decode cX1_tryPieces 58 = .ok (.invokestatic 45, 3) := by decide +kernel
theorem dX1_tryPieces_61 : decode cX1_tryPieces 61 = .ok (.ifCond .ne 18, 3) := by decide +kernel
theorem dX1_tryPieces_64 : decode cX1_tryPieces 64 = .ok (.aload_n 0, 1) := by decide +kernel
theorem dX1_tryPieces_65 : decode cX1_tryPieces 65 = .ok (.iload 4, 2) := by decide +kernel
theorem dX1_tryPieces_67 : decode cX1_tryPieces 67 = .ok (.iload 8, 2) := by decide +kernel
theorem dX1_tryPieces_69 : decode cX1_tryPieces 69 = .ok (.iconst 1, 1) := by decide +kernel
theorem dX1_tryPieces_70 : decode cX1_tryPieces 70 = .ok (.iadd, 1) := by decide +kernel
theorem dX1_tryPieces_71 : decode cX1_tryPieces 71 = .ok (.iload_n 2, 1) := by decide +kernel
theorem dX1_tryPieces_72 : decode cX1_tryPieces 72 = .ok (.iload 7, 2) := by decide +kernel
theorem dX1_tryPieces_74 : decode cX1_tryPieces 74 = .ok (.iload 5, 2) := by decide +kernel
theorem dX1_tryPieces_76 : decode cX1_tryPieces 76 = .ok (.invokevirtual 49, 3) := by decide +kernel
theorem dX1_tryPieces_79 : decode cX1_tryPieces 79 = .ok (.iinc 8 1, 3) := by decide +kernel
theorem dX1_tryPieces_82 : decode cX1_tryPieces 82 = .ok (.goto (-72), 3) := by decide +kernel
theorem dX1_tryPieces_85 : decode cX1_tryPieces 85 = .ok (.return_, 1) := by decide +kernel
theorem dX1_tryPiece_0 : decode cX1_tryPiece 0 = .ok (.aload_n 0, 1) := by decide +kernel
theorem dX1_tryPiece_1 : decode cX1_tryPiece 1 = .ok (.getfield 15, 3) := by decide +kernel
theorem dX1_tryPiece_4 : decode cX1_tryPiece 4 = .ok (.iload_n 2, 1) := by decide +kernel
theorem dX1_tryPiece_5 : decode cX1_tryPiece 5 = .ok (.iaload, 1) := by decide +kernel
theorem dX1_tryPiece_6 : decode cX1_tryPiece 6 = .ok (.iconst (-1), 1) := by decide +kernel
theorem dX1_tryPiece_7 : decode cX1_tryPiece 7 = .ok (.if_icmp .ne 4, 3) := by decide +kernel
theorem dX1_tryPiece_10 : decode cX1_tryPiece 10 = .ok (.return_, 1) := by decide +kernel
theorem dX1_tryPiece_11 : decode cX1_tryPiece 11 = .ok (.iload 4, 2) := by decide +kernel
theorem dX1_tryPiece_13 : decode cX1_tryPiece 13 = .ok (.iload_n 2, 1) := by decide +kernel
theorem dX1_tryPiece_14 : decode cX1_tryPiece 14 = .ok (.iload 5, 2) := by decide +kernel
theorem dX1_tryPiece_16 : decode cX1_tryPiece 16 = .ok (.if_icmp .ge 15, 3) := by decide +kernel
theorem dX1_tryPiece_19 : decode cX1_tryPiece 19 = .ok (.aload_n 0, 1) := by decide +kernel
theorem dX1_tryPiece_20 : decode cX1_tryPiece 20 = .ok (.getfield 9, 3) := by decide +kernel
theorem dX1_tryPiece_23 : decode cX1_tryPiece 23 = .ok (.iload_n 2, 1) := by decide +kernel
theorem dX1_tryPiece_24 : decode cX1_tryPiece 24 = .ok (.iaload, 1) := by decide +kernel
theorem dX1_tryPiece_25 : decode cX1_tryPiece 25 = .ok (.bipush 7, 2) := by decide +kernel
theorem dX1_tryPiece_27 : decode cX1_tryPiece 27 = .ok (.isub, 1) := by decide +kernel
theorem dX1_tryPiece_28 : decode cX1_tryPiece 28 = .ok (.goto 4, 3) := by decide +kernel
theorem dX1_tryPiece_31 : decode cX1_tryPiece 31 = .ok (.iconst 0, 1) := by decide +kernel
theorem dX1_tryPiece_32 : decode cX1_tryPiece 32 = .ok (.iadd, 1) := by decide +kernel
theorem dX1_tryPiece_33 : decode cX1_tryPiece 33 = .ok (.istore 6, 2) := by decide +kernel
theorem dX1_tryPiece_35 : decode cX1_tryPiece 35 = .ok (.aload_n 0, 1) := by decide +kernel
theorem dX1_tryPiece_36 : decode cX1_tryPiece 36 = .ok (.getfield 15, 3) := by decide +kernel
theorem dX1_tryPiece_39 : decode cX1_tryPiece 39 = .ok (.iload_n 2, 1) := by decide +kernel
theorem dX1_tryPiece_40 : decode cX1_tryPiece 40 = .ok (.iaload, 1) := by decide +kernel
theorem dX1_tryPiece_41 : decode cX1_tryPiece 41 = .ok (.iconst 1, 1) := by decide +kernel
theorem dX1_tryPiece_42 : decode cX1_tryPiece 42 = .ok (.iadd, 1) := by decide +kernel
theorem dX1_tryPiece_43 : decode cX1_tryPiece 43 = .ok (.istore 7, 2) := by decide +kernel
theorem dX1_tryPiece_45 : decode cX1_tryPiece 45 = .ok (.aload_n 0, 1) := by decide +kernel
theorem dX1_tryPiece_46 : decode cX1_tryPiece 46 = .ok (.iload_n 1, 1) := by decide +kernel
theorem dX1_tryPiece_47 : decode cX1_tryPiece 47 = .ok (.iload 6, 2) := by decide +kernel
theorem dX1_tryPiece_49 : decode cX1_tryPiece 49 = .ok (.iload 7, 2) := by decide +kernel
theorem dX1_tryPiece_51 : decode cX1_tryPiece 51 = .ok (.iload_n 2, 1) := by decide +kernel
theorem dX1_tryPiece_52 : decode cX1_tryPiece 52 = .ok (.iload_n 3, 1) := by decide +kernel
theorem dX1_tryPiece_53 : decode cX1_tryPiece 53 = .ok (.invokevirtual 53, 3) := by decide +kernel
theorem dX1_tryPiece_56 : decode cX1_tryPiece 56 = .ok (.ifCond .eq 41, 3) := by decide +kernel
theorem dX1_tryPiece_59 : decode cX1_tryPiece 59 = .ok (.aload_n 0, 1) := by decide +kernel
theorem dX1_tryPiece_60 : decode cX1_tryPiece 60 = .ok (.getfield 9, 3) := by decide +kernel
theorem dX1_tryPiece_63 : decode cX1_tryPiece 63 = .ok (.iload_n 1, 1) := by decide +kernel
theorem dX1_tryPiece_64 : decode cX1_tryPiece 64 = .ok (.iload 6, 2) := by decide +kernel
theorem dX1_tryPiece_66 : decode cX1_tryPiece 66 = .ok (.iastore, 1) := by decide +kernel
theorem dX1_tryPiece_67 : decode cX1_tryPiece 67 = .ok (.aload_n 0, 1) := by decide +kernel
theorem dX1_tryPiece_68 : decode cX1_tryPiece 68 = .ok (.getfield 15, 3) := by decide +kernel
theorem dX1_tryPiece_71 : decode cX1_tryPiece 71 = .ok (.iload_n 1, 1) := by decide +kernel
theorem dX1_tryPiece_72 : decode cX1_tryPiece 72 = .ok (.iload 7, 2) := by decide +kernel
theorem dX1_tryPiece_74 : decode cX1_tryPiece 74 = .ok (.iastore, 1) := by decide +kernel
theorem dX1_tryPiece_75 : decode cX1_tryPiece 75 = .ok (.aload_n 0, 1) := by decide +kernel
theorem dX1_tryPiece_76 : decode cX1_tryPiece 76 = .ok (.getfield 18, 3) := by decide +kernel
theorem dX1_tryPiece_79 : decode cX1_tryPiece 79 = .ok (.iload_n 1, 1) := by decide +kernel
theorem dX1_tryPiece_80 : decode cX1_tryPiece 80 = .ok (.iload_n 2, 1) := by decide +kernel
theorem dX1_tryPiece_81 : decode cX1_tryPiece 81 = .ok (.iastore, 1) := by decide +kernel
theorem dX1_tryPiece_82 : decode cX1_tryPiece 82 = .ok (.aload_n 0, 1) := by decide +kernel
theorem dX1_tryPiece_83 : decode cX1_tryPiece 83 = .ok (.getfield 21, 3) := by decide +kernel
theorem dX1_tryPiece_86 : decode cX1_tryPiece 86 = .ok (.iload_n 1, 1) := by decide +kernel
theorem dX1_tryPiece_87 : decode cX1_tryPiece 87 = .ok (.iload_n 3, 1) := by decide +kernel
theorem dX1_tryPiece_88 : decode cX1_tryPiece 88 = .ok (.iastore, 1) := by decide +kernel
theorem dX1_tryPiece_89 : decode cX1_tryPiece 89 = .ok (.aload_n 0, 1) := by decide +kernel
theorem dX1_tryPiece_90 : decode cX1_tryPiece 90 = .ok (.getfield 24, 3) := by decide +kernel
theorem dX1_tryPiece_93 : decode cX1_tryPiece 93 = .ok (.iload_n 1, 1) := by decide +kernel
theorem dX1_tryPiece_94 : decode cX1_tryPiece 94 = .ok (.iload 4, 2) := by decide +kernel
theorem dX1_tryPiece_96 : decode cX1_tryPiece 96 = .ok (.iastore, 1) := by decide +kernel
theorem dX1_tryPiece_97 : decode cX1_tryPiece 97 = .ok (.return_, 1) := by decide +kernel
theorem dX1_isBetter_0 : decode cX1_isBetter 0 = .ok (.aload_n 0, 1) := by decide +kernel
theorem dX1_isBetter_1 : decode cX1_isBetter 1 = .ok (.getfield 15, 3) := by decide +kernel
theorem dX1_isBetter_4 : decode cX1_isBetter 4 = .ok (.iload_n 1, 1) := by decide +kernel
theorem dX1_isBetter_5 : decode cX1_isBetter 5 = .ok (.iaload, 1) := by decide +kernel
theorem dX1_isBetter_6 : decode cX1_isBetter 6 = .ok (.iconst (-1), 1) := by decide +kernel
theorem dX1_isBetter_7 : decode cX1_isBetter 7 = .ok (.if_icmp .ne 5, 3) := by decide +kernel
theorem dX1_isBetter_10 : decode cX1_isBetter 10 = .ok (.iconst 1, 1) := by decide +kernel
theorem dX1_isBetter_11 : decode cX1_isBetter 11 = .ok (.ireturn, 1) := by decide +kernel
theorem dX1_isBetter_12 : decode cX1_isBetter 12 = .ok (.iload_n 2, 1) := by decide +kernel
theorem dX1_isBetter_13 : decode cX1_isBetter 13 = .ok (.aload_n 0, 1) := by decide +kernel
theorem dX1_isBetter_14 : decode cX1_isBetter 14 = .ok (.getfield 9, 3) := by decide +kernel
theorem dX1_isBetter_17 : decode cX1_isBetter 17 = .ok (.iload_n 1, 1) := by decide +kernel
theorem dX1_isBetter_18 : decode cX1_isBetter 18 = .ok (.iaload, 1) := by decide +kernel
theorem dX1_isBetter_19 : decode cX1_isBetter 19 = .ok (.if_icmp .eq 19, 3) := by decide +kernel
theorem dX1_isBetter_22 : decode cX1_isBetter 22 = .ok (.iload_n 2, 1) := by decide +kernel
theorem dX1_isBetter_23 : decode cX1_isBetter 23 = .ok (.aload_n 0, 1) := by decide +kernel
theorem dX1_isBetter_24 : decode cX1_isBetter 24 = .ok (.getfield 9, 3) := by decide +kernel
theorem dX1_isBetter_27 : decode cX1_isBetter 27 = .ok (.iload_n 1, 1) := by decide +kernel
theorem dX1_isBetter_28 : decode cX1_isBetter 28 = .ok (.iaload, 1) := by decide +kernel
theorem dX1_isBetter_29 : decode cX1_isBetter 29 = .ok (.if_icmp .le 7, 3) := by decide +kernel
theorem dX1_isBetter_32 : decode cX1_isBetter 32 = .ok (.iconst 1, 1) := by decide +kernel
theorem dX1_isBetter_33 : decode cX1_isBetter 33 = .ok (.goto 4, 3) := by decide +kernel
theorem dX1_isBetter_36 : decode cX1_isBetter 36 = .ok (.iconst 0, 1) := by decide +kernel
theorem dX1_isBetter_37 : decode cX1_isBetter 37 = .ok (.ireturn, 1) := by decide +kernel
theorem dX1_isBetter_38 : decode cX1_isBetter 38 = .ok (.iload_n 3, 1) := by decide +kernel
theorem dX1_isBetter_39 : decode cX1_isBetter 39 = .ok (.aload_n 0, 1) := by decide +kernel
theorem dX1_isBetter_40 : decode cX1_isBetter 40 = .ok (.getfield 15, 3) := by decide +kernel
theorem dX1_isBetter_43 : decode cX1_isBetter 43 = .ok (.iload_n 1, 1) := by decide +kernel
theorem dX1_isBetter_44 : decode cX1_isBetter 44 = .ok (.iaload, 1) := by decide +kernel
theorem dX1_isBetter_45 : decode cX1_isBetter 45 = .ok (.if_icmp .eq 19, 3) := by decide +kernel
theorem dX1_isBetter_48 : decode cX1_isBetter 48 = .ok (.iload_n 3, 1) := by decide +kernel
theorem dX1_isBetter_49 : decode cX1_isBetter 49 = .ok (.aload_n 0, 1) := by decide +kernel
theorem dX1_isBetter_50 : decode cX1_isBetter 50 = .ok (.getfield 15, 3) := by decide +kernel
theorem dX1_isBetter_53 : decode cX1_isBetter 53 = .ok (.iload_n 1, 1) := by decide +kernel
theorem dX1_isBetter_54 : decode cX1_isBetter 54 = .ok (.iaload, 1) := by decide +kernel
theorem dX1_isBetter_55 : decode cX1_isBetter 55 = .ok (.if_icmp .ge 7, 3) := by decide +kernel
theorem dX1_isBetter_58 : decode cX1_isBetter 58 = .ok (.iconst 1, 1) := by decide +kernel
theorem dX1_isBetter_59 : decode cX1_isBetter 59 = .ok (.goto 4, 3) := by decide +kernel
theorem dX1_isBetter_62 : decode cX1_isBetter 62 = .ok (.iconst 0, 1) := by decide +kernel
theorem dX1_isBetter_63 : decode cX1_isBetter 63 = .ok (.ireturn, 1) := by decide +kernel
theorem dX1_isBetter_64 : decode cX1_isBetter 64 = .ok (.iload 4, 2) := by decide +kernel
theorem dX1_isBetter_66 : decode cX1_isBetter 66 = .ok (.aload_n 0, 1) := by decide +kernel
theorem dX1_isBetter_67 : decode cX1_isBetter 67 = .ok (.getfield 18, 3) := by decide +kernel
theorem dX1_isBetter_70 : decode cX1_isBetter 70 = .ok (.iload_n 1, 1) := by decide +kernel
theorem dX1_isBetter_71 : decode cX1_isBetter 71 = .ok (.iaload, 1) := by decide +kernel
theorem dX1_isBetter_72 : decode cX1_isBetter 72 = .ok (.if_icmp .eq 22, 3) := by decide +kernel
theorem dX1_isBetter_75 : decode cX1_isBetter 75 = .ok (.iload 4, 2) := by decide +kernel
theorem dX1_isBetter_77 : decode cX1_isBetter 77 = .ok (.aload_n 0, 1) := by decide +kernel
theorem dX1_isBetter_78 : decode cX1_isBetter 78 = .ok (.getfield 18, 3) := by decide +kernel
theorem dX1_isBetter_81 : decode cX1_isBetter 81 = .ok (.iload_n 1, 1) := by decide +kernel
theorem dX1_isBetter_82 : decode cX1_isBetter 82 = .ok (.iaload, 1) := by decide +kernel
theorem dX1_isBetter_83 : decode cX1_isBetter 83 = .ok (.if_icmp .ge 7, 3) := by decide +kernel
theorem dX1_isBetter_86 : decode cX1_isBetter 86 = .ok (.iconst 1, 1) := by decide +kernel
theorem dX1_isBetter_87 : decode cX1_isBetter 87 = .ok (.goto 23, 3) := by decide +kernel
theorem dX1_isBetter_90 : decode cX1_isBetter 90 = .ok (.iconst 0, 1) := by decide +kernel
theorem dX1_isBetter_91 : decode cX1_isBetter 91 = .ok (.goto 19, 3) := by decide +kernel
theorem dX1_isBetter_94 : decode cX1_isBetter 94 = .ok (.iload 5, 2) := by decide +kernel
theorem dX1_isBetter_96 : decode cX1_isBetter 96 = .ok (.aload_n 0, 1) := by decide +kernel
theorem dX1_isBetter_97 : decode cX1_isBetter 97 = .ok (.getfield 21, 3) := by decide +kernel
theorem dX1_isBetter_100 : decode cX1_isBetter 100 = .ok (.iload_n 1, 1) := by decide +kernel
theorem dX1_isBetter_101 : decode cX1_isBetter 101 = .ok (.iaload, 1) := by decide +kernel
theorem dX1_isBetter_102 : decode cX1_isBetter 102 = .ok (.if_icmp .ge 7, 3) := by decide +kernel
theorem dX1_isBetter_105 : decode cX1_isBetter 105 = .ok (.iconst 1, 1) := by decide +kernel
theorem dX1_isBetter_106 : decode cX1_isBetter 106 = .ok (.goto 4, 3) := by decide +kernel
theorem dX1_isBetter_109 : decode cX1_isBetter 109 = .ok (.iconst 0, 1) := by decide +kernel
theorem dX1_isBetter_110 : decode cX1_isBetter 110 = .ok (.ireturn, 1) := by decide +kernel
theorem dX1_worth_0 : decode cX1_worth 0 = .ok (.aload_n 0, 1) := by decide +kernel
theorem dX1_worth_1 : decode cX1_worth 1 = .ok (.getfield 9, 3) := by decide +kernel
theorem dX1_worth_4 : decode cX1_worth 4 = .ok (.iconst 0, 1) := by decide +kernel
theorem dX1_worth_5 : decode cX1_worth 5 = .ok (.iaload, 1) := by decide +kernel
theorem dX1_worth_6 : decode cX1_worth 6 = .ok (.ireturn, 1) := by decide +kernel
theorem dX1_pieceCount_0 : decode cX1_pieceCount 0 = .ok (.aload_n 0, 1) := by decide +kernel
theorem dX1_pieceCount_1 : decode cX1_pieceCount 1 = .ok (.getfield 15, 3) := by decide +kernel
theorem dX1_pieceCount_4 : decode cX1_pieceCount 4 = .ok (.iconst 0, 1) := by decide +kernel
theorem dX1_pieceCount_5 : decode cX1_pieceCount 5 = .ok (.iaload, 1) := by decide +kernel
theorem dX1_pieceCount_6 : decode cX1_pieceCount 6 = .ok (.ireturn, 1) := by decide +kernel
theorem dX1_propertyOf_0 : decode cX1_propertyOf 0 = .ok (.iconst 0, 1) := by decide +kernel
theorem dX1_propertyOf_1 : decode cX1_propertyOf 1 = .ok (.istore_n 3, 1) := by decide +kernel
theorem dX1_propertyOf_2 : decode cX1_propertyOf 2 = .ok (.iconst 0, 1) := by decide +kernel
theorem dX1_propertyOf_3 : decode cX1_propertyOf 3 = .ok (.istore 4, 2) := by decide +kernel
theorem dX1_propertyOf_5 : decode cX1_propertyOf 5 = .ok (.iload 4, 2) := by decide +kernel
theorem dX1_propertyOf_7 : decode cX1_propertyOf 7 = .ok (.iload_n 1, 1) := by decide +kernel
theorem dX1_propertyOf_8 : decode cX1_propertyOf 8 = .ok (.if_icmp .ge 22, 3) := by decide +kernel
theorem dX1_propertyOf_11 : decode cX1_propertyOf 11 = .ok (.iload_n 3, 1) := by decide +kernel
theorem dX1_propertyOf_12 : decode cX1_propertyOf 12 = .ok (.bipush 40, 2) := by decide +kernel
theorem dX1_propertyOf_14 : decode cX1_propertyOf 14 = .ok (.if_icmp .ge 16, 3) := by decide +kernel
theorem dX1_propertyOf_17 : decode cX1_propertyOf 17 = .ok (.aload_n 0, 1) := by decide +kernel
theorem dX1_propertyOf_18 : decode cX1_propertyOf 18 = .ok (.getfield 18, 3) := by decide +kernel
theorem dX1_propertyOf_21 : decode cX1_propertyOf 21 = .ok (.iload_n 3, 1) := by decide +kernel
theorem dX1_propertyOf_22 : decode cX1_propertyOf 22 = .ok (.iaload, 1) := by decide +kernel
theorem dX1_propertyOf_23 : decode cX1_propertyOf 23 = .ok (.istore_n 3, 1) := by decide +kernel
theorem dX1_propertyOf_24 : decode cX1_propertyOf 24 = .ok (.iinc 4 1, 3) := by decide +kernel
theorem dX1_propertyOf_27 : decode cX1_propertyOf 27 = .ok (.goto (-22), 3) := by decide +kernel
theorem dX1_propertyOf_30 : decode cX1_propertyOf 30 = .ok (.iload_n 2, 1) := by decide +kernel
theorem dX1_propertyOf_31 : decode cX1_propertyOf 31 = .ok (.lookupswitch 39 #[(0, 25), (1, 32)], 25) := by decide +kernel
theorem dX1_propertyOf_56 : decode cX1_propertyOf 56 = .ok (.aload_n 0, 1) := by decide +kernel
theorem dX1_propertyOf_57 : decode cX1_propertyOf 57 = .ok (.getfield 18, 3) := by decide +kernel
theorem dX1_propertyOf_60 : decode cX1_propertyOf 60 = .ok (.iload_n 3, 1) := by decide +kernel
theorem dX1_propertyOf_61 : decode cX1_propertyOf 61 = .ok (.iaload, 1) := by decide +kernel
theorem dX1_propertyOf_62 : decode cX1_propertyOf 62 = .ok (.ireturn, 1) := by decide +kernel
theorem dX1_propertyOf_63 : decode cX1_propertyOf 63 = .ok (.aload_n 0, 1) := by decide +kernel
theorem dX1_propertyOf_64 : decode cX1_propertyOf 64 = .ok (.getfield 21, 3) := by decide +kernel
theorem dX1_propertyOf_67 : decode cX1_propertyOf 67 = .ok (.iload_n 3, 1) := by decide +kernel
theorem dX1_propertyOf_68 : decode cX1_propertyOf 68 = .ok (.iaload, 1) := by decide +kernel
theorem dX1_propertyOf_69 : decode cX1_propertyOf 69 = .ok (.ireturn, 1) := by decide +kernel
theorem dX1_propertyOf_70 : decode cX1_propertyOf 70 = .ok (.aload_n 0, 1) := by decide +kernel
theorem dX1_propertyOf_71 : decode cX1_propertyOf 71 = .ok (.getfield 24, 3) := by decide +kernel
theorem dX1_propertyOf_74 : decode cX1_propertyOf 74 = .ok (.iload_n 3, 1) := by decide +kernel
theorem dX1_propertyOf_75 : decode cX1_propertyOf 75 = .ok (.iaload, 1) := by decide +kernel
theorem dX1_propertyOf_76 : decode cX1_propertyOf 76 = .ok (.ireturn, 1) := by decide +kernel
theorem dX2_kindOf_0 : decode cX2_kindOf 0 = .ok (.iload_n 0, 1) := by decide +kernel
theorem dX2_kindOf_1 : decode cX2_kindOf 1 = .ok (.lookupswitch 51 #[(99, 47), (102, 43), (112, 45), (116, 49)], 43) := by decide +kernel
theorem dX2_kindOf_44 : decode cX2_kindOf 44 = .ok (.iconst 0, 1) := by decide +kernel
theorem dX2_kindOf_45 : decode cX2_kindOf 45 = .ok (.ireturn, 1) := by decide +kernel
theorem dX2_kindOf_46 : decode cX2_kindOf 46 = .ok (.iconst 1, 1) := by decide +kernel
theorem dX2_kindOf_47 : decode cX2_kindOf 47 = .ok (.ireturn, 1) := by decide +kernel
theorem dX2_kindOf_48 : decode cX2_kindOf 48 = .ok (.iconst 2, 1) := by decide +kernel
theorem dX2_kindOf_49 : decode cX2_kindOf 49 = .ok (.ireturn, 1) := by decide +kernel
theorem dX2_kindOf_50 : decode cX2_kindOf 50 = .ok (.iconst 3, 1) := by decide +kernel
theorem dX2_kindOf_51 : decode cX2_kindOf 51 = .ok (.ireturn, 1) := by decide +kernel
theorem dX2_kindOf_52 : decode cX2_kindOf 52 = .ok (.iconst (-1), 1) := by decide +kernel
theorem dX2_kindOf_53 : decode cX2_kindOf 53 = .ok (.ireturn, 1) := by decide +kernel
theorem dX2_marksBegin_0 : decode cX2_marksBegin 0 = .ok (.iload_n 0, 1) := by decide +kernel
theorem dX2_marksBegin_1 : decode cX2_marksBegin 1 = .ok (.iconst 1, 1) := by decide +kernel
theorem dX2_marksBegin_2 : decode cX2_marksBegin 2 = .ok (.if_icmp .eq 8, 3) := by decide +kernel
theorem dX2_marksBegin_5 : decode cX2_marksBegin 5 = .ok (.iload_n 0, 1) := by decide +kernel
theorem dX2_marksBegin_6 : decode cX2_marksBegin 6 = .ok (.iconst 3, 1) := by decide +kernel
theorem dX2_marksBegin_7 : decode cX2_marksBegin 7 = .ok (.if_icmp .ne 7, 3) := by decide +kernel
theorem dX2_marksBegin_10 : decode cX2_marksBegin 10 = .ok (.iconst 2, 1) := by decide +kernel
theorem dX2_marksBegin_11 : decode cX2_marksBegin 11 = .ok (.goto 4, 3) := by decide +kernel
theorem dX2_marksBegin_14 : decode cX2_marksBegin 14 = .ok (.iconst 1, 1) := by decide +kernel
theorem dX2_marksBegin_15 : decode cX2_marksBegin 15 = .ok (.ireturn, 1) := by decide +kernel
theorem dX2_pointsBegin_0 : decode cX2_pointsBegin 0 = .ok (.iload_n 0, 1) := by decide +kernel
theorem dX2_pointsBegin_1 : decode cX2_pointsBegin 1 = .ok (.invokestatic 9, 3) := by decide +kernel
theorem dX2_pointsBegin_4 : decode cX2_pointsBegin 4 = .ok (.iload_n 0, 1) := by decide +kernel
theorem dX2_pointsBegin_5 : decode cX2_pointsBegin 5 = .ok (.iconst 3, 1) := by decide +kernel
theorem dX2_pointsBegin_6 : decode cX2_pointsBegin 6 = .ok (.if_icmp .ne 8, 3) := by decide +kernel
theorem dX2_pointsBegin_9 : decode cX2_pointsBegin 9 = .ok (.bipush 16, 2) := by decide +kernel
theorem dX2_pointsBegin_11 : decode cX2_pointsBegin 11 = .ok (.goto 5, 3) := by decide +kernel
theorem dX2_pointsBegin_14 : decode cX2_pointsBegin 14 = .ok (.bipush 8, 2) := by decide +kernel
theorem dX2_pointsBegin_16 : decode cX2_pointsBegin 16 = .ok (.iadd, 1) := by decide +kernel
theorem dX2_pointsBegin_17 : decode cX2_pointsBegin 17 = .ok (.ireturn, 1) := by decide +kernel
theorem dX2_textLength_0 : decode cX2_textLength 0 = .ok (.iload_n 0, 1) := by decide +kernel
theorem dX2_textLength_1 : decode cX2_textLength 1 = .ok (.invokestatic 15, 3) := by decide +kernel
theorem dX2_textLength_4 : decode cX2_textLength 4 = .ok (.iconst 4, 1) := by decide +kernel
theorem dX2_textLength_5 : decode cX2_textLength 5 = .ok (.iadd, 1) := by decide +kernel
theorem dX2_textLength_6 : decode cX2_textLength 6 = .ok (.ireturn, 1) := by decide +kernel
theorem dX2_firstFault_0 : decode cX2_firstFault 0 = .ok (.iload_n 1, 1) := by decide +kernel
theorem dX2_firstFault_1 : decode cX2_firstFault 1 = .ok (.ifCond .le 9, 3) := by decide +kernel
theorem dX2_firstFault_4 : decode cX2_firstFault 4 = .ok (.aload_n 0, 1) := by decide +kernel
theorem dX2_firstFault_5 : decode cX2_firstFault 5 = .ok (.arraylength, 1) := by decide +kernel
theorem dX2_firstFault_6 : decode cX2_firstFault 6 = .ok (.iload_n 1, 1) := by decide +kernel
theorem dX2_firstFault_7 : decode cX2_firstFault 7 = .ok (.if_icmp .ge 5, 3) := by decide +kernel
theorem dX2_firstFault_10 : decode cX2_firstFault 10 = .ok (.iconst 0, 1) := by decide +kernel
theorem dX2_firstFault_11 : decode cX2_firstFault 11 = .ok (.ireturn, 1) := by decide +kernel
theorem dX2_firstFault_12 : decode cX2_firstFault 12 = .ok (.aload_n 0, 1) := by decide +kernel
theorem dX2_firstFault_13 : decode cX2_firstFault 13 = .ok (.iconst 0, 1) := by decide +kernel
theorem dX2_firstFault_14 : decode cX2_firstFault 14 = .ok (.iaload, 1) := by decide +kernel
theorem dX2_firstFault_15 : decode cX2_firstFault 15 = .ok (.invokestatic 18, 3) := by decide +kernel
theorem dX2_firstFault_18 : decode cX2_firstFault 18 = .ok (.istore_n 2, 1) := by decide +kernel
theorem dX2_firstFault_19 : decode cX2_firstFault 19 = .ok (.iload_n 2, 1) := by decide +kernel
theorem dX2_firstFault_20 : decode cX2_firstFault 20 = .ok (.iconst (-1), 1) := by decide +kernel
theorem dX2_firstFault_21 : decode cX2_firstFault 21 = .ok (.if_icmp .ne 5, 3) := by decide +kernel
theorem dX2_firstFault_24 : decode cX2_firstFault 24 = .ok (.iconst 0, 1) := by decide +kernel
theorem dX2_firstFault_25 : decode cX2_firstFault 25 = .ok (.ireturn, 1) := by decide +kernel
theorem dX2_firstFault_26 : decode cX2_firstFault 26 = .ok (.iconst 1, 1) := by decide +kernel
theorem dX2_firstFault_27 : decode cX2_firstFault 27 = .ok (.istore_n 3, 1) := by decide +kernel
theorem dX2_firstFault_28 : decode cX2_firstFault 28 = .ok (.iload_n 3, 1) := by decide +kernel
theorem dX2_firstFault_29 : decode cX2_firstFault 29 = .ok (.iload_n 1, 1) := by decide +kernel
theorem dX2_firstFault_30 : decode cX2_firstFault 30 = .ok (.if_icmp .ge 22, 3) := by decide +kernel
theorem dX2_firstFault_33 : decode cX2_firstFault 33 = .ok (.iload_n 2, 1) := by decide +kernel
theorem dX2_firstFault_34 : decode cX2_firstFault 34 = .ok (.iload_n 3, 1) := by decide +kernel
theorem dX2_firstFault_35 : decode cX2_firstFault 35 = .ok (.aload_n 0, 1) := by decide +kernel
theorem dX2_firstFault_36 : decode cX2_firstFault 36 = .ok (.iload_n 3, 1) := by decide +kernel
theorem dX2_firstFault_37 : decode cX2_firstFault 37 = .ok (.iaload, 1) := by decide +kernel
theorem dX2_firstFault_38 : decode cX2_firstFault 38 = .ok (.invokestatic 21, 3) := by decide +kernel
theorem dX2_firstFault_41 : decode cX2_firstFault 41 = .ok (.ifCond .ne 5, 3) := by decide +kernel
theorem dX2_firstFault_44 : decode cX2_firstFault 44 = .ok (.iload_n 3, 1) := by decide +kernel
theorem dX2_firstFault_45 : decode cX2_firstFault 45 = .ok (.ireturn, 1) := by decide +kernel
theorem dX2_firstFault_46 : decode cX2_firstFault 46 = .ok (.iinc 3 1, 3) := by decide +kernel
theorem dX2_firstFault_49 : decode cX2_firstFault 49 = .ok (.goto (-21), 3) := by decide +kernel
theorem dX2_firstFault_52 : decode cX2_firstFault 52 = .ok (.iload_n 1, 1) := by decide +kernel
theorem dX2_firstFault_53 : decode cX2_firstFault 53 = .ok (.ireturn, 1) := by decide +kernel
theorem dX2_isWhole_0 : decode cX2_isWhole 0 = .ok (.iload_n 1, 1) := by decide +kernel
theorem dX2_isWhole_1 : decode cX2_isWhole 1 = .ok (.ifCond .le 9, 3) := by decide +kernel
theorem dX2_isWhole_4 : decode cX2_isWhole 4 = .ok (.aload_n 0, 1) := by decide +kernel
theorem dX2_isWhole_5 : decode cX2_isWhole 5 = .ok (.arraylength, 1) := by decide +kernel
theorem dX2_isWhole_6 : decode cX2_isWhole 6 = .ok (.iload_n 1, 1) := by decide +kernel
theorem dX2_isWhole_7 : decode cX2_isWhole 7 = .ok (.if_icmp .ge 5, 3) := by decide +kernel
theorem dX2_isWhole_10 : decode cX2_isWhole 10 = .ok (.iconst 0, 1) := by decide +kernel
theorem dX2_isWhole_11 : decode cX2_isWhole 11 = .ok (.ireturn, 1) := by decide +kernel
theorem dX2_isWhole_12 : decode cX2_isWhole 12 = .ok (.aload_n 0, 1) := by decide +kernel
theorem dX2_isWhole_13 : decode cX2_isWhole 13 = .ok (.iconst 0, 1) := by decide +kernel
theorem dX2_isWhole_14 : decode cX2_isWhole 14 = .ok (.iaload, 1) := by decide +kernel
theorem dX2_isWhole_15 : decode cX2_isWhole 15 = .ok (.invokestatic 18, 3) := by decide +kernel
theorem dX2_isWhole_18 : decode cX2_isWhole 18 = .ok (.istore_n 2, 1) := by decide +kernel
theorem dX2_isWhole_19 : decode cX2_isWhole 19 = .ok (.iload_n 2, 1) := by decide +kernel
theorem dX2_isWhole_20 : decode cX2_isWhole 20 = .ok (.iconst (-1), 1) := by decide +kernel
theorem dX2_isWhole_21 : decode cX2_isWhole 21 = .ok (.if_icmp .eq 24, 3) := by decide +kernel
theorem dX2_isWhole_24 : decode cX2_isWhole 24 = .ok (.iload_n 1, 1) := by decide +kernel
theorem dX2_isWhole_25 : decode cX2_isWhole 25 = .ok (.iload_n 2, 1) := by decide +kernel
theorem dX2_isWhole_26 : decode cX2_isWhole 26 = .ok (.invokestatic 25, 3) := by decide +kernel
theorem dX2_isWhole_29 : decode cX2_isWhole 29 = .ok (.if_icmp .ne 16, 3) := by decide +kernel
theorem dX2_isWhole_32 : decode cX2_isWhole 32 = .ok (.aload_n 0, 1) := by decide +kernel
theorem dX2_isWhole_33 : decode cX2_isWhole 33 = .ok (.iload_n 1, 1) := by decide +kernel
theorem dX2_isWhole_34 : decode cX2_isWhole 34 = .ok (.invokestatic 28, 3) := by decide +kernel
theorem dX2_isWhole_37 : decode cX2_isWhole 37 = .ok (.iload_n 1, 1) := by decide +kernel
theorem dX2_isWhole_38 : decode cX2_isWhole 38 = .ok (.if_icmp .ne 7, 3) := by decide +kernel
theorem dX2_isWhole_41 : decode cX2_isWhole 41 = .ok (.iconst 1, 1) := by decide +kernel
theorem dX2_isWhole_42 : decode cX2_isWhole 42 = .ok (.goto 4, 3) := by decide +kernel
theorem dX2_isWhole_45 : decode cX2_isWhole 45 = .ok (.iconst 0, 1) := by decide +kernel
theorem dX2_isWhole_46 : decode cX2_isWhole 46 = .ok (.ireturn, 1) := by decide +kernel
theorem dX2_fits_0 : decode cX2_fits 0 = .ok (.iload_n 1, 1) := by decide +kernel
theorem dX2_fits_1 : decode cX2_fits 1 = .ok (.iload_n 0, 1) := by decide +kernel
theorem dX2_fits_2 : decode cX2_fits 2 = .ok (.invokestatic 9, 3) := by decide +kernel
theorem dX2_fits_5 : decode cX2_fits 5 = .ok (.if_icmp .ge 31, 3) := by decide +kernel
theorem dX2_fits_8 : decode cX2_fits 8 = .ok (.iload_n 2, 1) := by decide +kernel
theorem dX2_fits_9 : decode cX2_fits 9 = .ok (.iload_n 0, 1) := by decide +kernel
theorem dX2_fits_10 : decode cX2_fits 10 = .ok (.iconst 1, 1) := by decide +kernel
theorem dX2_fits_11 : decode cX2_fits 11 = .ok (.if_icmp .ne 8, 3) := by decide +kernel
theorem dX2_fits_14 : decode cX2_fits 14 = .ok (.bipush 49, 2) := by decide +kernel
theorem dX2_fits_16 : decode cX2_fits 16 = .ok (.goto 5, 3) := by decide +kernel
theorem dX2_fits_19 : decode cX2_fits 19 = .ok (.bipush 48, 2) := by decide +kernel
theorem dX2_fits_21 : decode cX2_fits 21 = .ok (.if_icmp .lt 13, 3) := by decide +kernel
theorem dX2_fits_24 : decode cX2_fits 24 = .ok (.iload_n 2, 1) := by decide +kernel
theorem dX2_fits_25 : decode cX2_fits 25 = .ok (.bipush 55, 2) := by decide +kernel
theorem dX2_fits_27 : decode cX2_fits 27 = .ok (.if_icmp .gt 7, 3) := by decide +kernel
theorem dX2_fits_30 : decode cX2_fits 30 = .ok (.iconst 1, 1) := by decide +kernel
theorem dX2_fits_31 : decode cX2_fits 31 = .ok (.goto 4, 3) := by decide +kernel
theorem dX2_fits_34 : decode cX2_fits 34 = .ok (.iconst 0, 1) := by decide +kernel
theorem dX2_fits_35 : decode cX2_fits 35 = .ok (.ireturn, 1) := by decide +kernel
theorem dX2_fits_36 : decode cX2_fits 36 = .ok (.iload_n 1, 1) := by decide +kernel
theorem dX2_fits_37 : decode cX2_fits 37 = .ok (.iload_n 0, 1) := by decide +kernel
theorem dX2_fits_38 : decode cX2_fits 38 = .ok (.invokestatic 15, 3) := by decide +kernel
theorem dX2_fits_41 : decode cX2_fits 41 = .ok (.if_icmp .ge 9, 3) := by decide +kernel
theorem dX2_fits_44 : decode cX2_fits 44 = .ok (.iload_n 0, 1) := by decide +kernel
theorem dX2_fits_45 : decode cX2_fits 45 = .ok (.iload_n 2, 1) := by decide +kernel
theorem dX2_fits_46 : decode cX2_fits 46 = .ok (.invokestatic 32, 3) := by decide +kernel
theorem dX2_fits_49 : decode cX2_fits 49 = .ok (.ireturn, 1) := by decide +kernel
theorem dX2_fits_50 : decode cX2_fits 50 = .ok (.iload_n 1, 1) := by decide +kernel
theorem dX2_fits_51 : decode cX2_fits 51 = .ok (.iload_n 0, 1) := by decide +kernel
theorem dX2_fits_52 : decode cX2_fits 52 = .ok (.invokestatic 25, 3) := by decide +kernel
theorem dX2_fits_55 : decode cX2_fits 55 = .ok (.if_icmp .ge 19, 3) := by decide +kernel
theorem dX2_fits_58 : decode cX2_fits 58 = .ok (.iload_n 2, 1) := by decide +kernel
theorem dX2_fits_59 : decode cX2_fits 59 = .ok (.bipush 48, 2) := by decide +kernel
theorem dX2_fits_61 : decode cX2_fits 61 = .ok (.if_icmp .lt 13, 3) := by decide +kernel
theorem dX2_fits_64 : decode cX2_fits 64 = .ok (.iload_n 2, 1) := by decide +kernel
theorem dX2_fits_65 : decode cX2_fits 65 = .ok (.bipush 57, 2) := by decide +kernel
theorem dX2_fits_67 : decode cX2_fits 67 = .ok (.if_icmp .gt 7, 3) := by decide +kernel
theorem dX2_fits_70 : decode cX2_fits 70 = .ok (.iconst 1, 1) := by decide +kernel
theorem dX2_fits_71 : decode cX2_fits 71 = .ok (.goto 4, 3) := by decide +kernel
theorem dX2_fits_74 : decode cX2_fits 74 = .ok (.iconst 0, 1) := by decide +kernel
theorem dX2_fits_75 : decode cX2_fits 75 = .ok (.ireturn, 1) := by decide +kernel
theorem dX2_isMark_0 : decode cX2_isMark 0 = .ok (.iload_n 1, 1) := by decide +kernel
theorem dX2_isMark_1 : decode cX2_isMark 1 = .ok (.bipush 97, 2) := by decide +kernel
theorem dX2_isMark_3 : decode cX2_isMark 3 = .ok (.if_icmp .eq 15, 3) := by decide +kernel
theorem dX2_isMark_6 : decode cX2_isMark 6 = .ok (.iload_n 1, 1) := by decide +kernel
theorem dX2_isMark_7 : decode cX2_isMark 7 = .ok (.bipush 98, 2) := by decide +kernel
theorem dX2_isMark_9 : decode cX2_isMark 9 = .ok (.if_icmp .eq 9, 3) := by decide +kernel
theorem dX2_isMark_12 : decode cX2_isMark 12 = .ok (.iload_n 1, 1) := by decide +kernel
theorem dX2_isMark_13 : decode cX2_isMark 13 = .ok (.bipush 33, 2) := by decide +kernel
theorem dX2_isMark_15 : decode cX2_isMark 15 = .ok (.if_icmp .ne 5, 3) := by decide +kernel
theorem dX2_isMark_18 : decode cX2_isMark 18 = .ok (.iconst 1, 1) := by decide +kernel
theorem dX2_isMark_19 : decode cX2_isMark 19 = .ok (.ireturn, 1) := by decide +kernel
theorem dX2_isMark_20 : decode cX2_isMark 20 = .ok (.iload_n 0, 1) := by decide +kernel
theorem dX2_isMark_21 : decode cX2_isMark 21 = .ok (.iconst 2, 1) := by decide +kernel
theorem dX2_isMark_22 : decode cX2_isMark 22 = .ok (.if_icmp .ne 25, 3) := by decide +kernel
theorem dX2_isMark_25 : decode cX2_isMark 25 = .ok (.iload_n 1, 1) := by decide +kernel
theorem dX2_isMark_26 : decode cX2_isMark 26 = .ok (.bipush 43, 2) := by decide +kernel
theorem dX2_isMark_28 : decode cX2_isMark 28 = .ok (.if_icmp .eq 15, 3) := by decide +kernel
theorem dX2_isMark_31 : decode cX2_isMark 31 = .ok (.iload_n 1, 1) := by decide +kernel
theorem dX2_isMark_32 : decode cX2_isMark 32 = .ok (.bipush 99, 2) := by decide +kernel
theorem dX2_isMark_34 : decode cX2_isMark 34 = .ok (.if_icmp .lt 13, 3) := by decide +kernel
theorem dX2_isMark_37 : decode cX2_isMark 37 = .ok (.iload_n 1, 1) := by decide +kernel
theorem dX2_isMark_38 : decode cX2_isMark 38 = .ok (.bipush 102, 2) := by decide +kernel
theorem dX2_isMark_40 : decode cX2_isMark 40 = .ok (.if_icmp .gt 7, 3) := by decide +kernel
theorem dX2_isMark_43 : decode cX2_isMark 43 = .ok (.iconst 1, 1) := by decide +kernel
theorem dX2_isMark_44 : decode cX2_isMark 44 = .ok (.goto 4, 3) := by decide +kernel
theorem dX2_isMark_47 : decode cX2_isMark 47 = .ok (.iconst 0, 1) := by decide +kernel
theorem dX2_isMark_48 : decode cX2_isMark 48 = .ok (.ireturn, 1) := by decide +kernel
theorem dX3_init_0 : decode cX3_init 0 = .ok (.aload_n 0, 1) := by decide +kernel
theorem dX3_init_1 : decode cX3_init 1 = .ok (.invokespecial 3, 3) := by decide +kernel
theorem dX3_init_4 : decode cX3_init 4 = .ok (.aload_n 0, 1) := by decide +kernel
theorem dX3_init_5 : decode cX3_init 5 = .ok (.sipush 225, 3) := by decide +kernel
theorem dX3_init_8 : decode cX3_init 8 = .ok (.newarray .int, 2) := by decide +kernel
theorem dX3_init_10 : decode cX3_init 10 = .ok (.putfield 9, 3) := by decide +kernel
theorem dX3_init_13 : decode cX3_init 13 = .ok (.aload_n 0, 1) := by decide +kernel
theorem dX3_init_14 : decode cX3_init 14 = .ok (.sipush 225, 3) := by decide +kernel
theorem dX3_init_17 : decode cX3_init 17 = .ok (.newarray .int, 2) := by decide +kernel
theorem dX3_init_19 : decode cX3_init 19 = .ok (.putfield 15, 3) := by decide +kernel
theorem dX3_init_22 : decode cX3_init 22 = .ok (.return_, 1) := by decide +kernel
theorem dX3_lastHope_0 : decode cX3_lastHope 0 = .ok (.iconst 1, 1) := by decide +kernel
theorem dX3_lastHope_1 : decode cX3_lastHope 1 = .ok (.istore_n 3, 1) := by decide +kernel
theorem dX3_lastHope_2 : decode cX3_lastHope 2 = .ok (.iload_n 2, 1) := by decide +kernel
theorem dX3_lastHope_3 : decode cX3_lastHope 3 = .ok (.istore 4, 2) := by decide +kernel
theorem dX3_lastHope_5 : decode cX3_lastHope 5 = .ok (.iload 4, 2) := by decide +kernel
theorem dX3_lastHope_7 : decode cX3_lastHope 7 = .ok (.ifCond .lt 48, 3) := by decide +kernel
theorem dX3_lastHope_10 : decode cX3_lastHope 10 = .ok (.aload_n 1, 1) := by decide +kernel
theorem dX3_lastHope_11 : decode cX3_lastHope 11 = .ok (.iload 4, 2) := by decide +kernel
theorem dX3_lastHope_13 : decode cX3_lastHope 13 = .ok (.invokevirtual 18, 3) := by decide +kernel
theorem dX3_lastHope_16 : decode cX3_lastHope 16 = .ok (.istore 5, 2) := by decide +kernel
theorem dX3_lastHope_18 : decode cX3_lastHope 18 = .ok (.iload 5, 2) := by decide +kernel
theorem dX3_lastHope_20 : decode cX3_lastHope 20 = .ok (.iconst (-1), 1) := by decide +kernel
theorem dX3_lastHope_21 : decode cX3_lastHope 21 = .ok (.if_icmp .eq 19, 3) := by decide +kernel
theorem dX3_lastHope_24 : decode cX3_lastHope 24 = .ok (.iload_n 3, 1) := by decide +kernel
theorem dX3_lastHope_25 : decode cX3_lastHope 25 = .ok (.iload 5, 2) := by decide +kernel
theorem dX3_lastHope_27 : decode cX3_lastHope 27 = .ok (.invokestatic 24, 3) := by decide +kernel
theorem dX3_lastHope_30 : decode cX3_lastHope 30 = .ok (.ishr, 1) := by decide +kernel
theorem dX3_lastHope_31 : decode cX3_lastHope 31 = .ok (.iconst 1, 1) := by decide +kernel
theorem dX3_lastHope_32 : decode cX3_lastHope 32 = .ok (.iand, 1) := by decide +kernel
theorem dX3_lastHope_33 : decode cX3_lastHope 33 = .ok (.iconst 1, 1) := by decide +kernel
theorem dX3_lastHope_34 : decode cX3_lastHope 34 = .ok (.if_icmp .ne 6, 3) := by decide +kernel
theorem dX3_lastHope_37 : decode cX3_lastHope 37 = .ok (.iload 4, 2) := by decide +kernel
theorem dX3_lastHope_39 : decode cX3_lastHope 39 = .ok (.ireturn, 1) := by decide +kernel
theorem dX3_lastHope_40 : decode cX3_lastHope 40 = .ok (.aload_n 1, 1) := by decide +kernel
theorem dX3_lastHope_41 : decode cX3_lastHope 41 = .ok (.getfield 29, 3) := by decide +kernel
theorem dX3_lastHope_44 : decode cX3_lastHope 44 = .ok (.iload_n 3, 1) := by decide +kernel
theorem dX3_lastHope_45 : decode cX3_lastHope 45 = .ok (.invokestatic 33, 3) := by decide +kernel
theorem dX3_lastHope_48 : decode cX3_lastHope 48 = .ok (.istore_n 3, 1) := by decide +kernel
theorem dX3_lastHope_49 : decode cX3_lastHope 49 = .ok (.iinc 4 (-1), 3) := by decide +kernel
theorem dX3_lastHope_52 : decode cX3_lastHope 52 = .ok (.goto (-47), 3) := by decide +kernel
theorem dX3_lastHope_55 : decode cX3_lastHope 55 = .ok (.iconst (-1), 1) := by decide +kernel
theorem dX3_lastHope_56 : decode cX3_lastHope 56 = .ok (.ireturn, 1) := by decide +kernel
theorem dX3_oneUnitEarlier_0 : decode cX3_oneUnitEarlier 0 = .ok (.iconst 0, 1) := by decide +kernel
theorem dX3_oneUnitEarlier_1 : decode cX3_oneUnitEarlier 1 = .ok (.istore_n 2, 1) := by decide +kernel
theorem dX3_oneUnitEarlier_2 : decode cX3_oneUnitEarlier 2 = .ok (.aload_n 0, 1) := by decide +kernel
theorem dX3_oneUnitEarlier_3 : decode cX3_oneUnitEarlier 3 = .ok (.invokevirtual 37, 3) := by decide +kernel
theorem dX3_oneUnitEarlier_6 : decode cX3_oneUnitEarlier 6 = .ok (.istore_n 3, 1) := by decide +kernel
theorem dX3_oneUnitEarlier_7 : decode cX3_oneUnitEarlier 7 = .ok (.iconst 0, 1) := by decide +kernel
theorem dX3_oneUnitEarlier_8 : decode cX3_oneUnitEarlier 8 = .ok (.istore 4, 2) := by decide +kernel
theorem dX3_oneUnitEarlier_10 : decode cX3_oneUnitEarlier 10 = .ok (.iload 4, 2) := by decide +kernel
theorem dX3_oneUnitEarlier_12 : decode cX3_oneUnitEarlier 12 = .ok (.iload_n 3, 1) := by decide +kernel
theorem dX3_oneUnitEarlier_13 : decode cX3_oneUnitEarlier 13 = .ok (.if_icmp .ge 58, 3) := by decide +kernel
theorem dX3_oneUnitEarlier_16 : decode cX3_oneUnitEarlier 16 = .ok (.iconst 0, 1) := by decide +kernel
theorem dX3_oneUnitEarlier_17 : decode cX3_oneUnitEarlier 17 = .ok (.istore 5, 2) := by decide +kernel
theorem dX3_oneUnitEarlier_19 : decode cX3_oneUnitEarlier 19 = .ok (.iload 5, 2) := by decide +kernel
theorem dX3_oneUnitEarlier_21 : decode cX3_oneUnitEarlier 21 = .ok (.bipush 8, 2) := by decide +kernel
theorem dX3_oneUnitEarlier_23 : decode cX3_oneUnitEarlier 23 = .ok (.if_icmp .ge 42, 3) := by decide +kernel
theorem dX3_oneUnitEarlier_26 : decode cX3_oneUnitEarlier 26 = .ok (.aload_n 0, 1) := by decide +kernel
theorem dX3_oneUnitEarlier_27 : decode cX3_oneUnitEarlier 27 = .ok (.iload 4, 2) := by decide +kernel
theorem dX3_oneUnitEarlier_29 : decode cX3_oneUnitEarlier 29 = .ok (.iload 5, 2) := by decide +kernel
theorem dX3_oneUnitEarlier_31 : decode cX3_oneUnitEarlier 31 = .ok (.invokevirtual 41, 3) := by decide +kernel
theorem dX3_oneUnitEarlier_34 : decode cX3_oneUnitEarlier 34 = .ok (.istore 6, 2) := by decide +kernel
theorem dX3_oneUnitEarlier_36 : decode cX3_oneUnitEarlier 36 = .ok (.iload 6, 2) := by decide +kernel
theorem dX3_oneUnitEarlier_38 : decode cX3_oneUnitEarlier 38 = .ok (.iconst (-1), 1) := by decide +kernel
theorem dX3_oneUnitEarlier_39 : decode cX3_oneUnitEarlier 39 = .ok (.if_icmp .eq 20, 3) := by decide +kernel
theorem dX3_oneUnitEarlier_42 : decode cX3_oneUnitEarlier 42 = .ok (.iload_n 1, 1) := by decide +kernel
theorem dX3_oneUnitEarlier_43 : decode cX3_oneUnitEarlier 43 = .ok (.iload 6, 2) := by decide +kernel
theorem dX3_oneUnitEarlier_45 : decode cX3_oneUnitEarlier 45 = .ok (.ishr, 1) := by decide +kernel
theorem dX3_oneUnitEarlier_46 : decode cX3_oneUnitEarlier 46 = .ok (.iconst 1, 1) := by decide +kernel
theorem dX3_oneUnitEarlier_47 : decode cX3_oneUnitEarlier 47 = .ok (.iand, 1) := by decide +kernel
theorem dX3_oneUnitEarlier_48 : decode cX3_oneUnitEarlier 48 = .ok (.iconst 1, 1) := by decide +kernel
theorem dX3_oneUnitEarlier_49 : decode cX3_oneUnitEarlier 49 = .ok (.if_icmp .ne 10, 3) := by decide +kernel
theorem dX3_oneUnitEarlier_52 : decode cX3_oneUnitEarlier 52 = .ok (.iload_n 2, 1) := by decide +kernel
theorem dX3_oneUnitEarlier_53 : decode cX3_oneUnitEarlier 53 = .ok (.iconst 1, 1) := by decide +kernel
theorem dX3_oneUnitEarlier_54 : decode cX3_oneUnitEarlier 54 = .ok (.iload 4, 2) := by decide +kernel
theorem dX3_oneUnitEarlier_56 : decode cX3_oneUnitEarlier 56 = .ok (.ishl, 1) := by decide +kernel
theorem dX3_oneUnitEarlier_57 : decode cX3_oneUnitEarlier 57 = .ok (.ior, 1) := by decide +kernel
theorem dX3_oneUnitEarlier_58 : decode cX3_oneUnitEarlier 58 = .ok (.istore_n 2, 1) := by decide +kernel
theorem dX3_oneUnitEarlier_59 : decode cX3_oneUnitEarlier 59 = .ok (.iinc 5 1, 3) := by decide +kernel
theorem dX3_oneUnitEarlier_62 : decode cX3_oneUnitEarlier 62 = .ok (.goto (-43), 3) := by decide +kernel
theorem dX3_oneUnitEarlier_65 : decode cX3_oneUnitEarlier 65 = .ok (.iinc 4 1, 3) := by decide +kernel
theorem dX3_oneUnitEarlier_68 : decode cX3_oneUnitEarlier 68 = .ok (.goto (-58), 3) := by decide +kernel
theorem dX3_oneUnitEarlier_71 : decode cX3_oneUnitEarlier 71 = .ok (.iload_n 2, 1) := by decide +kernel
theorem dX3_oneUnitEarlier_72 : decode cX3_oneUnitEarlier 72 = .ok (.ireturn, 1) := by decide +kernel
theorem dX3_lastBeaten_0 : decode cX3_lastBeaten 0 = .ok (.iload 4, 2) := by decide +kernel
theorem dX3_lastBeaten_2 : decode cX3_lastBeaten 2 = .ok (.ifCond .eq 7, 3) := by decide +kernel
theorem dX3_lastBeaten_5 : decode cX3_lastBeaten 5 = .ok (.iconst 0, 1) := by decide +kernel
theorem dX3_lastBeaten_6 : decode cX3_lastBeaten 6 = .ok (.goto 4, 3) := by decide +kernel
theorem dX3_lastBeaten_9 : decode cX3_lastBeaten 9 = .ok (.iconst 1, 1) := by decide +kernel
theorem dX3_lastBeaten_10 : decode cX3_lastBeaten 10 = .ok (.istore 5, 2) := by decide +kernel
theorem dX3_lastBeaten_12 : decode cX3_lastBeaten 12 = .ok (.aload_n 0, 1) := by decide +kernel
theorem dX3_lastBeaten_13 : decode cX3_lastBeaten 13 = .ok (.invokevirtual 45, 3) := by decide +kernel
theorem dX3_lastBeaten_16 : decode cX3_lastBeaten 16 = .ok (.iload_n 3, 1) := by decide +kernel
theorem dX3_lastBeaten_17 : decode cX3_lastBeaten 17 = .ok (.istore 6, 2) := by decide +kernel
theorem dX3_lastBeaten_19 : decode cX3_lastBeaten 19 = .ok (.iload 6, 2) := by decide +kernel
theorem dX3_lastBeaten_21 : decode cX3_lastBeaten 21 = .ok (.ifCond .lt 70, 3) := by decide +kernel
theorem dX3_lastBeaten_24 : decode cX3_lastBeaten 24 = .ok (.aload_n 0, 1) := by decide +kernel
theorem dX3_lastBeaten_25 : decode cX3_lastBeaten 25 = .ok (.aload_n 1, 1) := by decide +kernel
theorem dX3_lastBeaten_26 : decode cX3_lastBeaten 26 = .ok (.iload 6, 2) := by decide +kernel
theorem dX3_lastBeaten_28 : decode cX3_lastBeaten 28 = .ok (.invokevirtual 18, 3) := by decide +kernel
theorem dX3_lastBeaten_31 : decode cX3_lastBeaten 31 = .ok (.aload_n 2, 1) := by decide +kernel
theorem dX3_lastBeaten_32 : decode cX3_lastBeaten 32 = .ok (.iload 6, 2) := by decide +kernel
theorem dX3_lastBeaten_34 : decode cX3_lastBeaten 34 = .ok (.invokevirtual 18, 3) := by decide +kernel
theorem dX3_lastBeaten_37 : decode cX3_lastBeaten 37 = .ok (.invokevirtual 48, 3) := by decide +kernel
theorem dX3_lastBeaten_40 : decode cX3_lastBeaten 40 = .ok (.istore 7, 2) := by decide +kernel
theorem dX3_lastBeaten_42 : decode cX3_lastBeaten 42 = .ok (.iload 7, 2) := by decide +kernel
theorem dX3_lastBeaten_44 : decode cX3_lastBeaten 44 = .ok (.ldc 51, 2) := by decide +kernel
theorem dX3_lastBeaten_46 : decode cX3_lastBeaten 46 = .ok (.if_icmp .eq 27, 3) := by decide +kernel
theorem dX3_lastBeaten_49 : decode cX3_lastBeaten 49 = .ok (.aload_n 2, 1) := by decide +kernel
theorem dX3_lastBeaten_50 : decode cX3_lastBeaten 50 = .ok (.iload 6, 2) := by decide +kernel
theorem dX3_lastBeaten_52 : decode cX3_lastBeaten 52 = .ok (.invokevirtual 52, 3) := by decide +kernel
theorem dX3_lastBeaten_55 : decode cX3_lastBeaten 55 = .ok (.aload_n 1, 1) := by decide +kernel
theorem dX3_lastBeaten_56 : decode cX3_lastBeaten 56 = .ok (.iload 6, 2) := by decide +kernel
theorem dX3_lastBeaten_58 : decode cX3_lastBeaten 58 = .ok (.invokevirtual 52, 3) := by decide +kernel
theorem dX3_lastBeaten_61 : decode cX3_lastBeaten 61 = .ok (.isub, 1) := by decide +kernel
theorem dX3_lastBeaten_62 : decode cX3_lastBeaten 62 = .ok (.iload 7, 2) := by decide +kernel
theorem dX3_lastBeaten_64 : decode cX3_lastBeaten 64 = .ok (.iadd, 1) := by decide +kernel
theorem dX3_lastBeaten_65 : decode cX3_lastBeaten 65 = .ok (.iload 5, 2) := by decide +kernel
theorem dX3_lastBeaten_67 : decode cX3_lastBeaten 67 = .ok (.if_icmp .lt 6, 3) := by decide +kernel
theorem dX3_lastBeaten_70 : decode cX3_lastBeaten 70 = .ok (.iload 6, 2) := by decide +kernel
theorem dX3_lastBeaten_72 : decode cX3_lastBeaten 72 = .ok (.ireturn, 1) := by decide +kernel
theorem dX3_lastBeaten_73 : decode cX3_lastBeaten 73 = .ok (.aload_n 0, 1) := by decide +kernel
theorem dX3_lastBeaten_74 : decode cX3_lastBeaten 74 = .ok (.aload_n 1, 1) := by decide +kernel
theorem dX3_lastBeaten_75 : decode cX3_lastBeaten 75 = .ok (.getfield 29, 3) := by decide +kernel
theorem dX3_lastBeaten_78 : decode cX3_lastBeaten 78 = .ok (.aload_n 2, 1) := by decide +kernel
theorem dX3_lastBeaten_79 : decode cX3_lastBeaten 79 = .ok (.getfield 29, 3) := by decide +kernel
theorem dX3_lastBeaten_82 : decode cX3_lastBeaten 82 = .ok (.invokevirtual 55, 3) := by decide +kernel
theorem dX3_lastBeaten_85 : decode cX3_lastBeaten 85 = .ok (.iinc 6 (-1), 3) := by decide +kernel
theorem dX3_lastBeaten_88 : decode cX3_lastBeaten 88 = .ok (.goto (-69), 3) := by decide +kernel
theorem dX3_lastBeaten_91 : decode cX3_lastBeaten 91 = .ok (.iconst (-1), 1) := by decide +kernel
theorem dX3_lastBeaten_92 : decode cX3_lastBeaten 92 = .ok (.ireturn, 1) := by decide +kernel
theorem dX3_beginAtEnd_0 : decode cX3_beginAtEnd 0 = .ok (.aload_n 0, 1) := by decide +kernel
theorem dX3_beginAtEnd_1 : decode cX3_beginAtEnd 1 = .ok (.getfield 9, 3) := by decide +kernel
theorem dX3_beginAtEnd_4 : decode cX3_beginAtEnd 4 = .ok (.ldc 51, 2) := by decide +kernel
theorem dX3_beginAtEnd_6 : decode cX3_beginAtEnd 6 = .ok (.invokestatic 59, 3) := by decide +kernel
theorem dX3_beginAtEnd_9 : decode cX3_beginAtEnd 9 = .ok (.iconst 0, 1) := by decide +kernel
theorem dX3_beginAtEnd_10 : decode cX3_beginAtEnd 10 = .ok (.istore_n 1, 1) := by decide +kernel
theorem dX3_beginAtEnd_11 : decode cX3_beginAtEnd 11 = .ok (.iload_n 1, 1) := by decide +kernel
theorem dX3_beginAtEnd_12 : decode cX3_beginAtEnd 12 = .ok (.iconst 3, 1) := by decide +kernel
theorem dX3_beginAtEnd_13 : decode cX3_beginAtEnd 13 = .ok (.if_icmp .ge 34, 3) := by decide +kernel
theorem dX3_beginAtEnd_16 : decode cX3_beginAtEnd 16 = .ok (.iconst 0, 1) := by decide +kernel
theorem dX3_beginAtEnd_17 : decode cX3_beginAtEnd 17 = .ok (.istore_n 2, 1) := by decide +kernel
theorem dX3_beginAtEnd_18 : decode cX3_beginAtEnd 18 = .ok (.iload_n 2, 1) := by decide +kernel
theorem dX3_beginAtEnd_19 : decode cX3_beginAtEnd 19 = .ok (.iconst 3, 1) := by decide +kernel
theorem dX3_beginAtEnd_20 : decode cX3_beginAtEnd 20 = .ok (.if_icmp .ge 21, 3) := by decide +kernel
theorem dX3_beginAtEnd_23 : decode cX3_beginAtEnd 23 = .ok (.aload_n 0, 1) := by decide +kernel
theorem dX3_beginAtEnd_24 : decode cX3_beginAtEnd 24 = .ok (.getfield 9, 3) := by decide +kernel
theorem dX3_beginAtEnd_27 : decode cX3_beginAtEnd 27 = .ok (.iload_n 1, 1) := by decide +kernel
theorem dX3_beginAtEnd_28 : decode cX3_beginAtEnd 28 = .ok (.bipush 15, 2) := by decide +kernel
theorem dX3_beginAtEnd_30 : decode cX3_beginAtEnd 30 = .ok (.imul, 1) := by decide +kernel
theorem dX3_beginAtEnd_31 : decode cX3_beginAtEnd 31 = .ok (.iload_n 2, 1) := by decide +kernel
theorem dX3_beginAtEnd_32 : decode cX3_beginAtEnd 32 = .ok (.iadd, 1) := by decide +kernel
theorem dX3_beginAtEnd_33 : decode cX3_beginAtEnd 33 = .ok (.iconst 0, 1) := by decide +kernel
theorem dX3_beginAtEnd_34 : decode cX3_beginAtEnd 34 = .ok (.iastore, 1) := by decide +kernel
theorem dX3_beginAtEnd_35 : decode cX3_beginAtEnd 35 = .ok (.iinc 2 1, 3) := by decide +kernel
theorem dX3_beginAtEnd_38 : decode cX3_beginAtEnd 38 = .ok (.goto (-20), 3) := by decide +kernel
theorem dX3_beginAtEnd_41 : decode cX3_beginAtEnd 41 = .ok (.iinc 1 1, 3) := by decide +kernel
theorem dX3_beginAtEnd_44 : decode cX3_beginAtEnd 44 = .ok (.goto (-33), 3) := by decide +kernel
theorem dX3_beginAtEnd_47 : decode cX3_beginAtEnd 47 = .ok (.return_, 1) := by decide +kernel
theorem dX3_leadAt_0 : decode cX3_leadAt 0 = .ok (.iload_n 1, 1) := by decide +kernel
theorem dX3_leadAt_1 : decode cX3_leadAt 1 = .ok (.ifCond .lt 19, 3) := by decide +kernel
theorem dX3_leadAt_4 : decode cX3_leadAt 4 = .ok (.iload_n 1, 1) := by decide +kernel
theorem dX3_leadAt_5 : decode cX3_leadAt 5 = .ok (.bipush 15, 2) := by decide +kernel
theorem dX3_leadAt_7 : decode cX3_leadAt 7 = .ok (.if_icmp .ge 13, 3) := by decide +kernel
theorem dX3_leadAt_10 : decode cX3_leadAt 10 = .ok (.iload_n 2, 1) := by decide +kernel
theorem dX3_leadAt_11 : decode cX3_leadAt 11 = .ok (.ifCond .lt 9, 3) := by decide +kernel
theorem dX3_leadAt_14 : decode cX3_leadAt 14 = .ok (.iload_n 2, 1) := by decide +kernel
theorem dX3_leadAt_15 : decode cX3_leadAt 15 = .ok (.bipush 15, 2) := by decide +kernel
theorem dX3_leadAt_17 : decode cX3_leadAt 17 = .ok (.if_icmp .lt 6, 3) := by decide +kernel
theorem dX3_leadAt_20 : decode cX3_leadAt 20 = .ok (.ldc 51, 2) := by decide +kernel
theorem dX3_leadAt_22 : decode cX3_leadAt 22 = .ok (.ireturn, 1) := by decide +kernel
theorem dX3_leadAt_23 : decode cX3_leadAt 23 = .ok (.aload_n 0, 1) := by decide +kernel
theorem dX3_leadAt_24 : decode cX3_leadAt 24 = .ok (.getfield 9, 3) := by decide +kernel
theorem dX3_leadAt_27 : decode cX3_leadAt 27 = .ok (.iload_n 1, 1) := by decide +kernel
theorem dX3_leadAt_28 : decode cX3_leadAt 28 = .ok (.bipush 15, 2) := by decide +kernel
theorem dX3_leadAt_30 : decode cX3_leadAt 30 = .ok (.imul, 1) := by decide +kernel
theorem dX3_leadAt_31 : decode cX3_leadAt 31 = .ok (.iload_n 2, 1) := by decide +kernel
theorem dX3_leadAt_32 : decode cX3_leadAt 32 = .ok (.iadd, 1) := by decide +kernel
theorem dX3_leadAt_33 : decode cX3_leadAt 33 = .ok (.iaload, 1) := by decide +kernel
theorem dX3_leadAt_34 : decode cX3_leadAt 34 = .ok (.ireturn, 1) := by decide +kernel
theorem dX3_lengthen_0 : decode cX3_lengthen 0 = .ok (.aload_n 0, 1) := by decide +kernel
theorem dX3_lengthen_1 : decode cX3_lengthen 1 = .ok (.getfield 15, 3) := by decide +kernel
theorem dX3_lengthen_4 : decode cX3_lengthen 4 = .ok (.ldc 51, 2) := by decide +kernel
theorem dX3_lengthen_6 : decode cX3_lengthen 6 = .ok (.invokestatic 59, 3) := by decide +kernel
theorem dX3_lengthen_9 : decode cX3_lengthen 9 = .ok (.aload_n 1, 1) := by decide +kernel
theorem dX3_lengthen_10 : decode cX3_lengthen 10 = .ok (.invokevirtual 65, 3) := by decide +kernel
theorem dX3_lengthen_13 : decode cX3_lengthen 13 = .ok (.bipush 15, 2) := by decide +kernel
theorem dX3_lengthen_15 : decode cX3_lengthen 15 = .ok (.invokestatic 68, 3) := by decide +kernel
theorem dX3_lengthen_18 : decode cX3_lengthen 18 = .ok (.istore_n 3, 1) := by decide +kernel
theorem dX3_lengthen_19 : decode cX3_lengthen 19 = .ok (.iconst 0, 1) := by decide +kernel
theorem dX3_lengthen_20 : decode cX3_lengthen 20 = .ok (.istore 4, 2) := by decide +kernel
theorem dX3_lengthen_22 : decode cX3_lengthen 22 = .ok (.iload 4, 2) := by decide +kernel
theorem dX3_lengthen_24 : decode cX3_lengthen 24 = .ok (.iload_n 3, 1) := by decide +kernel
theorem dX3_lengthen_25 : decode cX3_lengthen 25 = .ok (.if_icmp .ge 60, 3) := by decide +kernel
theorem dX3_lengthen_28 : decode cX3_lengthen 28 = .ok (.iconst 0, 1) := by decide +kernel
theorem dX3_lengthen_29 : decode cX3_lengthen 29 = .ok (.istore 5, 2) := by decide +kernel
theorem dX3_lengthen_31 : decode cX3_lengthen 31 = .ok (.iload 5, 2) := by decide +kernel
theorem dX3_lengthen_33 : decode cX3_lengthen 33 = .ok (.bipush 8, 2) := by decide +kernel
theorem dX3_lengthen_35 : decode cX3_lengthen 35 = .ok (.if_icmp .ge 44, 3) := by decide +kernel
theorem dX3_lengthen_38 : decode cX3_lengthen 38 = .ok (.aload_n 1, 1) := by decide +kernel
theorem dX3_lengthen_39 : decode cX3_lengthen 39 = .ok (.iload 4, 2) := by decide +kernel
theorem dX3_lengthen_41 : decode cX3_lengthen 41 = .ok (.iload 5, 2) := by decide +kernel
theorem dX3_lengthen_43 : decode cX3_lengthen 43 = .ok (.invokevirtual 73, 3) := by decide +kernel
theorem dX3_lengthen_46 : decode cX3_lengthen 46 = .ok (.istore 6, 2) := by decide +kernel
theorem dX3_lengthen_48 : decode cX3_lengthen 48 = .ok (.iload 6, 2) := by decide +kernel
theorem dX3_lengthen_50 : decode cX3_lengthen 50 = .ok (.iconst (-1), 1) := by decide +kernel
theorem dX3_lengthen_51 : decode cX3_lengthen 51 = .ok (.if_icmp .eq 22, 3) := by decide +kernel
theorem dX3_lengthen_54 : decode cX3_lengthen 54 = .ok (.aload_n 0, 1) := by decide +kernel
theorem dX3_lengthen_55 : decode cX3_lengthen 55 = .ok (.iload 5, 2) := by decide +kernel
theorem dX3_lengthen_57 : decode cX3_lengthen 57 = .ok (.iload 4, 2) := by decide +kernel
theorem dX3_lengthen_59 : decode cX3_lengthen 59 = .ok (.iload 6, 2) := by decide +kernel
theorem dX3_lengthen_61 : decode cX3_lengthen 61 = .ok (.aload_n 1, 1) := by decide +kernel
theorem dX3_lengthen_62 : decode cX3_lengthen 62 = .ok (.iload 4, 2) := by decide +kernel
theorem dX3_lengthen_64 : decode cX3_lengthen 64 = .ok (.iload 5, 2) := by decide +kernel
theorem dX3_lengthen_66 : decode cX3_lengthen 66 = .ok (.invokevirtual 76, 3) := by decide +kernel
theorem dX3_lengthen_69 : decode cX3_lengthen 69 = .ok (.aload_n 2, 1) := by decide +kernel
theorem dX3_lengthen_70 : decode cX3_lengthen 70 = .ok (.invokevirtual 79, 3) := by decide +kernel
theorem dX3_lengthen_73 : decode cX3_lengthen 73 = .ok (.iinc 5 1, 3) := by decide +kernel
theorem dX3_lengthen_76 : decode cX3_lengthen 76 = .ok (.goto (-45), 3) := by decide +kernel
theorem dX3_lengthen_79 : decode cX3_lengthen 79 = .ok (.iinc 4 1, 3) := by decide +kernel
theorem dX3_lengthen_82 : decode cX3_lengthen 82 = .ok (.goto (-60), 3) := by decide +kernel
theorem dX3_lengthen_85 : decode cX3_lengthen 85 = .ok (.aload_n 0, 1) := by decide +kernel
theorem dX3_lengthen_86 : decode cX3_lengthen 86 = .ok (.getfield 15, 3) := by decide +kernel
theorem dX3_lengthen_89 : decode cX3_lengthen 89 = .ok (.iconst 0, 1) := by decide +kernel
theorem dX3_lengthen_90 : decode cX3_lengthen 90 = .ok (.aload_n 0, 1) := by decide +kernel
theorem dX3_lengthen_91 : decode cX3_lengthen 91 = .ok (.getfield 9, 3) := by decide +kernel
theorem dX3_lengthen_94 : decode cX3_lengthen 94 = .ok (.iconst 0, 1) := by decide +kernel
theorem dX3_lengthen_95 : decode cX3_lengthen 95 = .ok (.aload_n 0, 1) := by decide +kernel
theorem dX3_lengthen_96 : decode cX3_lengthen 96 = .ok (.getfield 9, 3) := by decide +kernel
theorem dX3_lengthen_99 : decode cX3_lengthen 99 = .ok (.arraylength, 1) := by decide +kernel
theorem dX3_lengthen_100 : decode cX3_lengthen 100 = .ok (.invokestatic 83, 3) := by decide +kernel
theorem dX3_lengthen_103 : decode cX3_lengthen 103 = .ok (.return_, 1) := by decide +kernel
theorem dX3_lengthenBy_0 : decode cX3_lengthenBy 0 = .ok (.aload 5, 2) := by decide +kernel
theorem dX3_lengthenBy_2 : decode cX3_lengthenBy 2 = .ok (.invokevirtual 65, 3) := by decide +kernel
theorem dX3_lengthenBy_5 : decode cX3_lengthenBy 5 = .ok (.bipush 15, 2) := by decide +kernel
theorem dX3_lengthenBy_7 : decode cX3_lengthenBy 7 = .ok (.invokestatic 68, 3) := by decide +kernel
theorem dX3_lengthenBy_10 : decode cX3_lengthenBy 10 = .ok (.istore 6, 2) := by decide +kernel
theorem dX3_lengthenBy_12 : decode cX3_lengthenBy 12 = .ok (.iconst 0, 1) := by decide +kernel
theorem dX3_lengthenBy_13 : decode cX3_lengthenBy 13 = .ok (.istore 7, 2) := by decide +kernel
theorem dX3_lengthenBy_15 : decode cX3_lengthenBy 15 = .ok (.iload 7, 2) := by decide +kernel
theorem dX3_lengthenBy_17 : decode cX3_lengthenBy 17 = .ok (.iload 6, 2) := by decide +kernel
theorem dX3_lengthenBy_19 : decode cX3_lengthenBy 19 = .ok (.if_icmp .ge 75, 3) := by decide +kernel
theorem dX3_lengthenBy_22 : decode cX3_lengthenBy 22 = .ok (.aload_n 0, 1) := by decide +kernel
theorem dX3_lengthenBy_23 : decode cX3_lengthenBy 23 = .ok (.iload_n 3, 1) := by decide +kernel
theorem dX3_lengthenBy_24 : decode cX3_lengthenBy 24 = .ok (.aload 5, 2) := by decide +kernel
theorem dX3_lengthenBy_26 : decode cX3_lengthenBy 26 = .ok (.iload 7, 2) := by decide +kernel
theorem dX3_lengthenBy_28 : decode cX3_lengthenBy 28 = .ok (.iload_n 1, 1) := by decide +kernel
theorem dX3_lengthenBy_29 : decode cX3_lengthenBy 29 = .ok (.invokevirtual 73, 3) := by decide +kernel
theorem dX3_lengthenBy_32 : decode cX3_lengthenBy 32 = .ok (.invokevirtual 48, 3) := by decide +kernel
theorem dX3_lengthenBy_35 : decode cX3_lengthenBy 35 = .ok (.istore 8, 2) := by decide +kernel
theorem dX3_lengthenBy_37 : decode cX3_lengthenBy 37 = .ok (.iload 8, 2) := by decide +kernel
theorem dX3_lengthenBy_39 : decode cX3_lengthenBy 39 = .ok (.ldc 51, 2) := by decide +kernel
theorem dX3_lengthenBy_41 : decode cX3_lengthenBy 41 = .ok (.if_icmp .eq 47, 3) := by decide +kernel
theorem dX3_lengthenBy_44 : decode cX3_lengthenBy 44 = .ok (.iload 8, 2) := by decide +kernel
theorem dX3_lengthenBy_46 : decode cX3_lengthenBy 46 = .ok (.aload 5, 2) := by decide +kernel
theorem dX3_lengthenBy_48 : decode cX3_lengthenBy 48 = .ok (.iload 7, 2) := by decide +kernel
theorem dX3_lengthenBy_50 : decode cX3_lengthenBy 50 = .ok (.iload_n 1, 1) := by decide +kernel
theorem dX3_lengthenBy_51 : decode cX3_lengthenBy 51 = .ok (.invokevirtual 76, 3) := by decide +kernel
theorem dX3_lengthenBy_54 : decode cX3_lengthenBy 54 = .ok (.iadd, 1) := by decide +kernel
theorem dX3_lengthenBy_55 : decode cX3_lengthenBy 55 = .ok (.iload 4, 2) := by decide +kernel
theorem dX3_lengthenBy_57 : decode cX3_lengthenBy 57 = .ok (.isub, 1) := by decide +kernel
theorem dX3_lengthenBy_58 : decode cX3_lengthenBy 58 = .ok (.istore 9, 2) := by decide +kernel
theorem dX3_lengthenBy_60 : decode cX3_lengthenBy 60 = .ok (.iload_n 2, 1) := by decide +kernel
theorem dX3_lengthenBy_61 : decode cX3_lengthenBy 61 = .ok (.bipush 15, 2) := by decide +kernel
theorem dX3_lengthenBy_63 : decode cX3_lengthenBy 63 = .ok (.imul, 1) := by decide +kernel
theorem dX3_lengthenBy_64 : decode cX3_lengthenBy 64 = .ok (.iload 7, 2) := by decide +kernel
theorem dX3_lengthenBy_66 : decode cX3_lengthenBy 66 = .ok (.iadd, 1) := by decide +kernel
theorem dX3_lengthenBy_67 : decode cX3_lengthenBy 67 = .ok (.istore 10, 2) := by decide +kernel
theorem dX3_lengthenBy_69 : decode cX3_lengthenBy 69 = .ok (.aload_n 0, 1) := by decide +kernel
theorem dX3_lengthenBy_70 : decode cX3_lengthenBy 70 = .ok (.getfield 15, 3) := by decide +kernel
theorem dX3_lengthenBy_73 : decode cX3_lengthenBy 73 = .ok (.iload 10, 2) := by decide +kernel
theorem dX3_lengthenBy_75 : decode cX3_lengthenBy 75 = .ok (.aload_n 0, 1) := by decide +kernel
theorem dX3_lengthenBy_76 : decode cX3_lengthenBy 76 = .ok (.getfield 15, 3) := by decide +kernel
theorem dX3_lengthenBy_79 : decode cX3_lengthenBy 79 = .ok (.iload 10, 2) := by decide +kernel
theorem dX3_lengthenBy_81 : decode cX3_lengthenBy 81 = .ok (.iaload, 1) := by decide +kernel
theorem dX3_lengthenBy_82 : decode cX3_lengthenBy 82 = .ok (.iload 9, 2) := by decide +kernel
theorem dX3_lengthenBy_84 : decode cX3_lengthenBy 84 = .ok (.invokestatic 89, 3) := by decide +kernel
theorem dX3_lengthenBy_87 : decode cX3_lengthenBy 87 = .ok (.iastore, 1) := by decide +kernel
theorem dX3_lengthenBy_88 : decode cX3_lengthenBy 88 = .ok (.iinc 7 1, 3) := by decide +kernel
theorem dX3_lengthenBy_91 : decode cX3_lengthenBy 91 = .ok (.goto (-76), 3) := by decide +kernel
theorem dX3_lengthenBy_94 : decode cX3_lengthenBy 94 = .ok (.return_, 1) := by decide +kernel
theorem dX4_init_0 : decode cX4_init 0 = .ok (.aload_n 0, 1) := by decide +kernel
theorem dX4_init_1 : decode cX4_init 1 = .ok (.invokespecial 5, 3) := by decide +kernel
theorem dX4_init_4 : decode cX4_init 4 = .ok (.aload_n 0, 1) := by decide +kernel
theorem dX4_init_5 : decode cX4_init 5 = .ok (.bipush 30, 2) := by decide +kernel
theorem dX4_init_7 : decode cX4_init 7 = .ok (.newarray .int, 2) := by decide +kernel
theorem dX4_init_9 : decode cX4_init 9 = .ok (.putfield 11, 3) := by decide +kernel
theorem dX4_init_12 : decode cX4_init 12 = .ok (.aload_n 0, 1) := by decide +kernel
theorem dX4_init_13 : decode cX4_init 13 = .ok (.bipush 30, 2) := by decide +kernel
theorem dX4_init_15 : decode cX4_init 15 = .ok (.newarray .int, 2) := by decide +kernel
theorem dX4_init_17 : decode cX4_init 17 = .ok (.putfield 15, 3) := by decide +kernel
theorem dX4_init_20 : decode cX4_init 20 = .ok (.aload_n 0, 1) := by decide +kernel
theorem dX4_init_21 : decode cX4_init 21 = .ok (.bipush 30, 2) := by decide +kernel
theorem dX4_init_23 : decode cX4_init 23 = .ok (.newarray .int, 2) := by decide +kernel
theorem dX4_init_25 : decode cX4_init 25 = .ok (.putfield 18, 3) := by decide +kernel
theorem dX4_init_28 : decode cX4_init 28 = .ok (.aload_n 0, 1) := by decide +kernel
theorem dX4_init_29 : decode cX4_init 29 = .ok (.bipush 30, 2) := by decide +kernel
theorem dX4_init_31 : decode cX4_init 31 = .ok (.newarray .int, 2) := by decide +kernel
theorem dX4_init_33 : decode cX4_init 33 = .ok (.putfield 21, 3) := by decide +kernel
theorem dX4_init_36 : decode cX4_init 36 = .ok (.return_, 1) := by decide +kernel
theorem dX4_search_0 : decode cX4_search 0 = .ok (.aload_n 0, 1) := by decide +kernel
theorem dX4_search_1 : decode cX4_search 1 = .ok (.getfield 15, 3) := by decide +kernel
theorem dX4_search_4 : decode cX4_search 4 = .ok (.bipush (-2), 2) := by decide +kernel
theorem dX4_search_6 : decode cX4_search 6 = .ok (.invokestatic 24, 3) := by decide +kernel
theorem dX4_search_9 : decode cX4_search 9 = .ok (.aload_n 0, 1) := by decide +kernel
theorem dX4_search_10 : decode cX4_search 10 = .ok (.iconst 0, 1) := by decide +kernel
theorem dX4_search_11 : decode cX4_search 11 = .ok (.putfield 30, 3) := by decide +kernel
theorem dX4_search_14 : decode cX4_search 14 = .ok (.aload_n 0, 1) := by decide +kernel
theorem dX4_search_15 : decode cX4_search 15 = .ok (.iconst 0, 1) := by decide +kernel
theorem dX4_search_16 : decode cX4_search 16 = .ok (.putfield 34, 3) := by decide +kernel
theorem dX4_search_19 : decode cX4_search 19 = .ok (.aload_n 0, 1) := by decide +kernel
theorem dX4_search_20 : decode cX4_search 20 = .ok (.iconst 0, 1) := by decide +kernel
theorem dX4_search_21 : decode cX4_search 21 = .ok (.iconst (-1), 1) := by decide +kernel
theorem dX4_search_22 : decode cX4_search 22 = .ok (.iconst 0, 1) := by decide +kernel
theorem dX4_search_23 : decode cX4_search 23 = .ok (.invokevirtual 37, 3) := by decide +kernel
theorem dX4_search_26 : decode cX4_search 26 = .ok (.iconst 0, 1) := by decide +kernel
theorem dX4_search_27 : decode cX4_search 27 = .ok (.istore_n 3, 1) := by decide +kernel
theorem dX4_search_28 : decode cX4_search 28 = .ok (.iload_n 3, 1) := by decide +kernel
theorem dX4_search_29 : decode cX4_search 29 = .ok (.aload_n 0, 1) := by decide +kernel
theorem dX4_search_30 : decode cX4_search 30 = .ok (.getfield 30, 3) := by decide +kernel
theorem dX4_search_33 : decode cX4_search 33 = .ok (.if_icmp .ge 47, 3) := by decide +kernel
theorem dX4_search_36 : decode cX4_search 36 = .ok (.iload_n 3, 1) := by decide +kernel
theorem dX4_search_37 : decode cX4_search 37 = .ok (.bipush 30, 2) := by decide +kernel
theorem dX4_search_39 : decode cX4_search 39 = .ok (.if_icmp .ge 41, 3) := by decide +kernel
theorem dX4_search_42 : decode cX4_search 42 = .ok (.aload_n 0, 1) := by decide +kernel
theorem dX4_search_43 : decode cX4_search 43 = .ok (.getfield 11, 3) := by decide +kernel
theorem dX4_search_46 : decode cX4_search 46 = .ok (.iload_n 3, 1) := by decide +kernel
theorem dX4_search_47 : decode cX4_search 47 = .ok (.iaload, 1) := by decide +kernel
theorem dX4_search_48 : decode cX4_search 48 = .ok (.istore 4, 2) := by decide +kernel
theorem dX4_search_50 : decode cX4_search 50 = .ok (.iload 4, 2) := by decide +kernel
theorem dX4_search_52 : decode cX4_search 52 = .ok (.invokestatic 41, 3) := by decide +kernel
theorem dX4_search_55 : decode cX4_search 55 = .ok (.ifCond .eq 11, 3) := by decide +kernel
theorem dX4_search_58 : decode cX4_search 58 = .ok (.aload_n 0, 1) := by decide +kernel
theorem dX4_search_59 : decode cX4_search 59 = .ok (.iload 4, 2) := by decide +kernel
theorem dX4_search_61 : decode cX4_search 61 = .ok (.invokevirtual 45, 3) := by decide +kernel
theorem dX4_search_64 : decode cX4_search 64 = .ok (.iconst 1, 1) := by decide +kernel
theorem dX4_search_65 : decode cX4_search 65 = .ok (.ireturn, 1) := by decide +kernel
theorem dX4_search_66 : decode cX4_search 66 = .ok (.aload_n 0, 1) := by decide +kernel
theorem dX4_search_67 : decode cX4_search 67 = .ok (.iload 4, 2) := by decide +kernel
theorem dX4_search_69 : decode cX4_search 69 = .ok (.aload_n 1, 1) := by decide +kernel
theorem dX4_search_70 : decode cX4_search 70 = .ok (.aload_n 2, 1) := by decide +kernel
theorem dX4_search_71 : decode cX4_search 71 = .ok (.invokevirtual 49, 3) := by decide +kernel
theorem dX4_search_74 : decode cX4_search 74 = .ok (.iinc 3 1, 3) := by decide +kernel
theorem dX4_search_77 : decode cX4_search 77 = .ok (.goto (-49), 3) := by decide +kernel
theorem dX4_search_80 : decode cX4_search 80 = .ok (.iconst 0, 1) := by decide +kernel
theorem dX4_search_81 : decode cX4_search 81 = .ok (.ireturn, 1) := by decide +kernel
theorem dX4_parts_0 : decode cX4_parts 0 = .ok (.iload_n 0, 1) := by decide +kernel
theorem dX4_parts_1 : decode cX4_parts 1 = .ok (.bipush 6, 2) := by decide +kernel
theorem dX4_parts_3 : decode cX4_parts 3 = .ok (.idiv, 1) := by decide +kernel
theorem dX4_parts_4 : decode cX4_parts 4 = .ok (.ifCond .ne 14, 3) := by decide +kernel
theorem dX4_parts_7 : decode cX4_parts 7 = .ok (.iload_n 0, 1) := by decide +kernel
theorem dX4_parts_8 : decode cX4_parts 8 = .ok (.bipush 6, 2) := by decide +kernel
theorem dX4_parts_10 : decode cX4_parts 10 = .ok (.irem, 1) := by decide +kernel
theorem dX4_parts_11 : decode cX4_parts 11 = .ok (.ifCond .eq 7, 3) := by decide +kernel
theorem dX4_parts_14 : decode cX4_parts 14 = .ok (.iconst 1, 1) := by decide +kernel
theorem dX4_parts_15 : decode cX4_parts 15 = .ok (.goto 4, 3) := by decide +kernel
theorem dX4_parts_18 : decode cX4_parts 18 = .ok (.iconst 0, 1) := by decide +kernel
theorem dX4_parts_19 : decode cX4_parts 19 = .ok (.ireturn, 1) := by decide +kernel
theorem dX4_expand_0 : decode cX4_expand 0 = .ok (.iconst 0, 1) := by decide +kernel
theorem dX4_expand_1 : decode cX4_expand 1 = .ok (.istore 4, 2) := by decide +kernel
theorem dX4_expand_3 : decode cX4_expand 3 = .ok (.iload 4, 2) := by decide +kernel
theorem dX4_expand_5 : decode cX4_expand 5 = .ok (.bipush 8, 2) := by decide +kernel
theorem dX4_expand_7 : decode cX4_expand 7 = .ok (.if_icmp .ge 64, 3) := by decide +kernel
theorem dX4_expand_10 : decode cX4_expand 10 = .ok (.aload_n 2, 1) := by decide +kernel
theorem dX4_expand_11 : decode cX4_expand 11 = .ok (.iload_n 1, 1) := by decide +kernel
theorem dX4_expand_12 : decode cX4_expand 12 = .ok (.bipush 6, 2) := by decide +kernel
theorem dX4_expand_14 : decode cX4_expand 14 = .ok (.idiv, 1) := by decide +kernel
theorem dX4_expand_15 : decode cX4_expand 15 = .ok (.iload 4, 2) := by decide +kernel
theorem dX4_expand_17 : decode cX4_expand 17 = .ok (.invokevirtual 53, 3) := by decide +kernel
theorem dX4_expand_20 : decode cX4_expand 20 = .ok (.istore 5, 2) := by decide +kernel
theorem dX4_expand_22 : decode cX4_expand 22 = .ok (.iload 5, 2) := by decide +kernel
theorem dX4_expand_24 : decode cX4_expand 24 = .ok (.iconst (-1), 1) := by decide +kernel
theorem dX4_expand_25 : decode cX4_expand 25 = .ok (.if_icmp .eq 40, 3) := by decide +kernel
theorem dX4_expand_28 : decode cX4_expand 28 = .ok (.aload_n 3, 1) := by decide +kernel
theorem dX4_expand_29 : decode cX4_expand 29 = .ok (.iload_n 1, 1) := by decide +kernel
theorem dX4_expand_30 : decode cX4_expand 30 = .ok (.bipush 6, 2) := by decide +kernel
theorem dX4_expand_32 : decode cX4_expand 32 = .ok (.irem, 1) := by decide +kernel
theorem dX4_expand_33 : decode cX4_expand 33 = .ok (.iload 4, 2) := by decide +kernel
theorem dX4_expand_35 : decode cX4_expand 35 = .ok (.invokevirtual 53, 3) := by decide +kernel
theorem dX4_expand_38 : decode cX4_expand 38 = .ok (.istore 6, 2) := by decide +kernel
theorem dX4_expand_40 : decode cX4_expand 40 = .ok (.aload_n 0, 1) := by decide +kernel
theorem dX4_expand_41 : decode cX4_expand 41 = .ok (.iload 5, 2) := by decide +kernel
theorem dX4_expand_43 : decode cX4_expand 43 = .ok (.bipush 6, 2) := by decide +kernel
theorem dX4_expand_45 : decode cX4_expand 45 = .ok (.imul, 1) := by decide +kernel
theorem dX4_expand_46 : decode cX4_expand 46 = .ok (.iload 6, 2) := by decide +kernel
theorem dX4_expand_48 : decode cX4_expand 48 = .ok (.iconst (-1), 1) := by decide +kernel
theorem dX4_expand_49 : decode cX4_expand 49 = .ok (.if_icmp .ne 7, 3) := by decide +kernel
theorem dX4_expand_52 : decode cX4_expand 52 = .ok (.iconst 5, 1) := by decide +kernel
theorem dX4_expand_53 : decode cX4_expand 53 = .ok (.goto 5, 3) := by decide +kernel
theorem dX4_expand_56 : decode cX4_expand 56 = .ok (.iload 6, 2) := by decide +kernel
theorem dX4_expand_58 : decode cX4_expand 58 = .ok (.iadd, 1) := by decide +kernel
theorem dX4_expand_59 : decode cX4_expand 59 = .ok (.iload_n 1, 1) := by decide +kernel
theorem dX4_expand_60 : decode cX4_expand 60 = .ok (.iload 4, 2) := by decide +kernel
theorem dX4_expand_62 : decode cX4_expand 62 = .ok (.invokevirtual 37, 3) := by decide +kernel
theorem dX4_expand_65 : decode cX4_expand 65 = .ok (.iinc 4 1, 3) := by decide +kernel
theorem dX4_expand_68 : decode cX4_expand 68 = .ok (.goto (-65), 3) := by decide +kernel
theorem dX4_expand_71 : decode cX4_expand 71 = .ok (.return_, 1) := by decide +kernel
theorem dX4_reach_0 : decode cX4_reach 0 = .ok (.iload_n 1, 1) := by decide +kernel
theorem dX4_reach_1 : decode cX4_reach 1 = .ok (.ifCond .lt 63, 3) := by decide +kernel
theorem dX4_reach_4 : decode cX4_reach 4 = .ok (.iload_n 1, 1) := by decide +kernel
theorem dX4_reach_5 : decode cX4_reach 5 = .ok (.bipush 30, 2) := by decide +kernel
theorem dX4_reach_7 : decode cX4_reach 7 = .ok (.if_icmp .ge 57, 3) := by decide +kernel
theorem dX4_reach_10 : decode cX4_reach 10 = .ok (.aload_n 0, 1) := by decide +kernel
theorem dX4_reach_11 : decode cX4_reach 11 = .ok (.getfield 15, 3) := by decide +kernel
theorem dX4_reach_14 : decode cX4_reach 14 = .ok (.iload_n 1, 1) := by decide +kernel
theorem dX4_reach_15 : decode cX4_reach 15 = .ok (.iaload, 1) := by decide +kernel
theorem dX4_reach_16 : decode cX4_reach 16 = .ok (.bipush (-2), 2) := by decide +kernel
theorem dX4_reach_18 : decode cX4_reach 18 = .ok (.if_icmp .ne 46, 3) := by decide +kernel
theorem dX4_reach_21 : decode cX4_reach 21 = .ok (.aload_n 0, 1) := by decide +kernel
theorem dX4_reach_22 : decode cX4_reach 22 = .ok (.getfield 30, 3) := by decide +kernel
theorem dX4_reach_25 : decode cX4_reach 25 = .ok (.bipush 30, 2) := by decide +kernel
theorem dX4_reach_27 : decode cX4_reach 27 = .ok (.if_icmp .ge 37, 3) := by decide +kernel
theorem dX4_reach_30 : decode cX4_reach 30 = .ok (.aload_n 0, 1) := by decide +kernel
theorem dX4_reach_31 : decode cX4_reach 31 = .ok (.getfield 15, 3) := by decide +kernel
theorem dX4_reach_34 : decode cX4_reach 34 = .ok (.iload_n 1, 1) := by decide +kernel
theorem dX4_reach_35 : decode cX4_reach 35 = .ok (.iload_n 2, 1) := by decide +kernel
theorem dX4_reach_36 : decode cX4_reach 36 = .ok (.iastore, 1) := by decide +kernel
theorem dX4_reach_37 : decode cX4_reach 37 = .ok (.aload_n 0, 1) := by decide +kernel
theorem dX4_reach_38 : decode cX4_reach 38 = .ok (.getfield 18, 3) := by decide +kernel
theorem dX4_reach_41 : decode cX4_reach 41 = .ok (.iload_n 1, 1) := by decide +kernel
theorem dX4_reach_42 : decode cX4_reach 42 = .ok (.iload_n 3, 1) := by decide +kernel
theorem dX4_reach_43 : decode cX4_reach 43 = .ok (.iastore, 1) := by decide +kernel
theorem dX4_reach_44 : decode cX4_reach 44 = .ok (.aload_n 0, 1) := by decide +kernel
theorem dX4_reach_45 : decode cX4_reach 45 = .ok (.getfield 11, 3) := by decide +kernel
theorem dX4_reach_48 : decode cX4_reach 48 = .ok (.aload_n 0, 1) := by decide +kernel
theorem dX4_reach_49 : decode cX4_reach 49 = .ok (.getfield 30, 3) := by decide +kernel
theorem dX4_reach_52 : decode cX4_reach 52 = .ok (.iload_n 1, 1) := by decide +kernel
theorem dX4_reach_53 : decode cX4_reach 53 = .ok (.iastore, 1) := by decide +kernel
theorem dX4_reach_54 : decode cX4_reach 54 = .ok (.aload_n 0, 1) := by decide +kernel
theorem dX4_reach_55 : decode cX4_reach 55 = .ok (.dup, 1) := by decide +kernel
theorem dX4_reach_56 : decode cX4_reach 56 = .ok (.getfield 30, 3) := by decide +kernel
theorem dX4_reach_59 : decode cX4_reach 59 = .ok (.iconst 1, 1) := by decide +kernel
theorem dX4_reach_60 : decode cX4_reach 60 = .ok (.iadd, 1) := by decide +kernel
theorem dX4_reach_61 : decode cX4_reach 61 = .ok (.putfield 30, 3) := by decide +kernel
theorem dX4_reach_64 : decode cX4_reach 64 = .ok (.return_, 1) := by decide +kernel
theorem dX4_writeRow_0 : decode cX4_writeRow 0 = .ok (.iconst 0, 1) := by decide +kernel
theorem dX4_writeRow_1 : decode cX4_writeRow 1 = .ok (.istore_n 2, 1) := by decide +kernel
theorem dX4_writeRow_2 : decode cX4_writeRow 2 = .ok (.iload_n 1, 1) := by decide +kernel
theorem dX4_writeRow_3 : decode cX4_writeRow 3 = .ok (.istore_n 3, 1) := by decide +kernel
theorem dX4_writeRow_4 : decode cX4_writeRow 4 = .ok (.iload_n 2, 1) := by decide +kernel
theorem dX4_writeRow_5 : decode cX4_writeRow 5 = .ok (.bipush 30, 2) := by decide +kernel
theorem dX4_writeRow_7 : decode cX4_writeRow 7 = .ok (.if_icmp .ge 36, 3) := by decide +kernel
theorem dX4_writeRow_10 : decode cX4_writeRow 10 = .ok (.iload_n 3, 1) := by decide +kernel
theorem dX4_writeRow_11 : decode cX4_writeRow 11 = .ok (.ifCond .lt 32, 3) := by decide +kernel
theorem dX4_writeRow_14 : decode cX4_writeRow 14 = .ok (.iload_n 3, 1) := by decide +kernel
theorem dX4_writeRow_15 : decode cX4_writeRow 15 = .ok (.bipush 30, 2) := by decide +kernel
theorem dX4_writeRow_17 : decode cX4_writeRow 17 = .ok (.if_icmp .ge 26, 3) := by decide +kernel
theorem dX4_writeRow_20 : decode cX4_writeRow 20 = .ok (.aload_n 0, 1) := by decide +kernel
theorem dX4_writeRow_21 : decode cX4_writeRow 21 = .ok (.getfield 15, 3) := by decide +kernel
theorem dX4_writeRow_24 : decode cX4_writeRow 24 = .ok (.iload_n 3, 1) := by decide +kernel
theorem dX4_writeRow_25 : decode cX4_writeRow 25 = .ok (.iaload, 1) := by decide +kernel
theorem dX4_writeRow_26 : decode cX4_writeRow 26 = .ok (.iconst (-1), 1) := by decide +kernel
theorem dX4_writeRow_27 : decode cX4_writeRow 27 = .ok (.if_icmp .eq 16, 3) := by decide +kernel
theorem dX4_writeRow_30 : decode cX4_writeRow 30 = .ok (.iinc 2 1, 3) := by decide +kernel
theorem dX4_writeRow_33 : decode cX4_writeRow 33 = .ok (.aload_n 0, 1) := by decide +kernel
theorem dX4_writeRow_34 : decode cX4_writeRow 34 = .ok (.getfield 15, 3) := by decide +kernel
theorem dX4_writeRow_37 : decode cX4_writeRow 37 = .ok (.iload_n 3, 1) := by decide +kernel
theorem dX4_writeRow_38 : decode cX4_writeRow 38 = .ok (.iaload, 1) := by decide +kernel
theorem dX4_writeRow_39 : decode cX4_writeRow 39 = .ok (.istore_n 3, 1) := by decide +kernel
theorem dX4_writeRow_40 : decode cX4_writeRow 40 = .ok (.goto (-36), 3) := by decide +kernel
theorem dX4_writeRow_43 : decode cX4_writeRow 43 = .ok (.iload_n 1, 1) := by decide +kernel
theorem dX4_writeRow_44 : decode cX4_writeRow 44 = .ok (.istore_n 3, 1) := by decide +kernel
theorem dX4_writeRow_45 : decode cX4_writeRow 45 = .ok (.iload_n 2, 1) := by decide +kernel
theorem dX4_writeRow_46 : decode cX4_writeRow 46 = .ok (.iconst 1, 1) := by decide +kernel
theorem dX4_writeRow_47 : decode cX4_writeRow 47 = .ok (.isub, 1) := by decide +kernel
theorem dX4_writeRow_48 : decode cX4_writeRow 48 = .ok (.istore 4, 2) := by decide +kernel
theorem dX4_writeRow_50 : decode cX4_writeRow 50 = .ok (.iload 4, 2) := by decide +kernel
theorem dX4_writeRow_52 : decode cX4_writeRow 52 = .ok (.ifCond .lt 39, 3) := by decide +kernel
theorem dX4_writeRow_55 : decode cX4_writeRow 55 = .ok (.iload_n 3, 1) := by decide +kernel
theorem dX4_writeRow_56 : decode cX4_writeRow 56 = .ok (.ifCond .lt 35, 3) := by decide +kernel
theorem dX4_writeRow_59 : decode cX4_writeRow 59 = .ok (.iload_n 3, 1) := by decide +kernel
theorem dX4_writeRow_60 : decode cX4_writeRow 60 = .ok (.bipush 30, 2) := by decide +kernel
theorem dX4_writeRow_62 : decode cX4_writeRow 62 = .ok (.if_icmp .ge 29, 3) := by decide +kernel
theorem dX4_writeRow_65 : decode cX4_writeRow 65 = .ok (.aload_n 0, 1) := by decide +kernel
theorem dX4_writeRow_66 : decode cX4_writeRow 66 = .ok (.getfield 21, 3) := by decide +kernel
theorem dX4_writeRow_69 : decode cX4_writeRow 69 = .ok (.iload 4, 2) := by decide +kernel
theorem dX4_writeRow_71 : decode cX4_writeRow 71 = .ok (.aload_n 0, 1) := by decide +kernel
theorem dX4_writeRow_72 : decode cX4_writeRow 72 = .ok (.getfield 18, 3) := by decide +kernel
theorem dX4_writeRow_75 : decode cX4_writeRow 75 = .ok (.iload_n 3, 1) := by decide +kernel
theorem dX4_writeRow_76 : decode cX4_writeRow 76 = .ok (.iaload, 1) := by decide +kernel
theorem dX4_writeRow_77 : decode cX4_writeRow 77 = .ok (.iastore, 1) := by decide +kernel
theorem dX4_writeRow_78 : decode cX4_writeRow 78 = .ok (.aload_n 0, 1) := by decide +kernel
theorem dX4_writeRow_79 : decode cX4_writeRow 79 = .ok (.getfield 15, 3) := by decide +kernel
theorem dX4_writeRow_82 : decode cX4_writeRow 82 = .ok (.iload_n 3, 1) := by decide +kernel
theorem dX4_writeRow_83 : decode cX4_writeRow 83 = .ok (.iaload, 1) := by decide +kernel
theorem dX4_writeRow_84 : decode cX4_writeRow 84 = .ok (.istore_n 3, 1) := by decide +kernel
theorem dX4_writeRow_85 : decode cX4_writeRow 85 = .ok (.iinc 4 (-1), 3) := by decide +kernel
theorem dX4_writeRow_88 : decode cX4_writeRow 88 = .ok (.goto (-38), 3) := by decide +kernel
theorem dX4_writeRow_91 : decode cX4_writeRow 91 = .ok (.aload_n 0, 1) := by decide +kernel
theorem dX4_writeRow_92 : decode cX4_writeRow 92 = .ok (.iload_n 2, 1) := by decide +kernel
theorem dX4_writeRow_93 : decode cX4_writeRow 93 = .ok (.putfield 34, 3) := by decide +kernel
theorem dX4_writeRow_96 : decode cX4_writeRow 96 = .ok (.return_, 1) := by decide +kernel
theorem dX4_rowLength_0 : decode cX4_rowLength 0 = .ok (.aload_n 0, 1) := by decide +kernel
theorem dX4_rowLength_1 : decode cX4_rowLength 1 = .ok (.getfield 34, 3) := by decide +kernel
theorem dX4_rowLength_4 : decode cX4_rowLength 4 = .ok (.ireturn, 1) := by decide +kernel
theorem dX4_rowUnit_0 : decode cX4_rowUnit 0 = .ok (.iload_n 1, 1) := by decide +kernel
theorem dX4_rowUnit_1 : decode cX4_rowUnit 1 = .ok (.ifCond .lt 26, 3) := by decide +kernel
theorem dX4_rowUnit_4 : decode cX4_rowUnit 4 = .ok (.iload_n 1, 1) := by decide +kernel
theorem dX4_rowUnit_5 : decode cX4_rowUnit 5 = .ok (.aload_n 0, 1) := by decide +kernel
theorem dX4_rowUnit_6 : decode cX4_rowUnit 6 = .ok (.getfield 34, 3) := by decide +kernel
theorem dX4_rowUnit_9 : decode cX4_rowUnit 9 = .ok (.if_icmp .ge 18, 3) := by decide +kernel
theorem dX4_rowUnit_12 : decode cX4_rowUnit 12 = .ok (.iload_n 1, 1) := by decide +kernel
theorem dX4_rowUnit_13 : decode cX4_rowUnit 13 = .ok (.bipush 30, 2) := by decide +kernel
end
section
theorem dX4_rowUnit_15 : decode cX4_rowUnit 15 = .ok (.if_icmp .ge 12, 3) := by decide +kernel
theorem dX4_rowUnit_18 : decode cX4_rowUnit 18 = .ok (.aload_n 0, 1) := by decide +kernel
theorem dX4_rowUnit_19 : decode cX4_rowUnit 19 = .ok (.getfield 21, 3) := by decide +kernel
theorem dX4_rowUnit_22 : decode cX4_rowUnit 22 = .ok (.iload_n 1, 1) := by decide +kernel
theorem dX4_rowUnit_23 : decode cX4_rowUnit 23 = .ok (.iaload, 1) := by decide +kernel
theorem dX4_rowUnit_24 : decode cX4_rowUnit 24 = .ok (.goto 5, 3) := by decide +kernel
theorem dX4_rowUnit_27 : decode cX4_rowUnit 27 = .ok (.bipush (-101), 2) := by decide +kernel
theorem dX4_rowUnit_29 : decode cX4_rowUnit 29 = .ok (.ireturn, 1) := by decide +kernel
theorem dX5_init_0 : decode cX5_init 0 = .ok (.aload_n 0, 1) := by decide +kernel
theorem dX5_init_1 : decode cX5_init 1 = .ok (.invokespecial 3, 3) := by decide +kernel
theorem dX5_init_4 : decode cX5_init 4 = .ok (.aload_n 0, 1) := by decide +kernel
theorem dX5_init_5 : decode cX5_init 5 = .ok (.bipush 41, 2) := by decide +kernel
theorem dX5_init_7 : decode cX5_init 7 = .ok (.newarray .int, 2) := by decide +kernel
theorem dX5_init_9 : decode cX5_init 9 = .ok (.putfield 9, 3) := by decide +kernel
theorem dX5_init_12 : decode cX5_init 12 = .ok (.aload_n 0, 1) := by decide +kernel
theorem dX5_init_13 : decode cX5_init 13 = .ok (.bipush 41, 2) := by decide +kernel
theorem dX5_init_15 : decode cX5_init 15 = .ok (.newarray .int, 2) := by decide +kernel
theorem dX5_init_17 : decode cX5_init 17 = .ok (.putfield 15, 3) := by decide +kernel
theorem dX5_init_20 : decode cX5_init 20 = .ok (.aload_n 0, 1) := by decide +kernel
theorem dX5_init_21 : decode cX5_init 21 = .ok (.iconst 4, 1) := by decide +kernel
theorem dX5_init_22 : decode cX5_init 22 = .ok (.newarray .int, 2) := by decide +kernel
theorem dX5_init_24 : decode cX5_init 24 = .ok (.putfield 18, 3) := by decide +kernel
theorem dX5_init_27 : decode cX5_init 27 = .ok (.aload_n 0, 1) := by decide +kernel
theorem dX5_init_28 : decode cX5_init 28 = .ok (.aload_n 1, 1) := by decide +kernel
theorem dX5_init_29 : decode cX5_init 29 = .ok (.putfield 21, 3) := by decide +kernel
theorem dX5_init_32 : decode cX5_init 32 = .ok (.return_, 1) := by decide +kernel
theorem dX5_follow_0 : decode cX5_follow 0 = .ok (.aload_n 0, 1) := by decide +kernel
theorem dX5_follow_1 : decode cX5_follow 1 = .ok (.getfield 18, 3) := by decide +kernel
theorem dX5_follow_4 : decode cX5_follow 4 = .ok (.iconst 0, 1) := by decide +kernel
theorem dX5_follow_5 : decode cX5_follow 5 = .ok (.invokestatic 25, 3) := by decide +kernel
theorem dX5_follow_8 : decode cX5_follow 8 = .ok (.aload_n 0, 1) := by decide +kernel
theorem dX5_follow_9 : decode cX5_follow 9 = .ok (.getfield 9, 3) := by decide +kernel
theorem dX5_follow_12 : decode cX5_follow 12 = .ok (.iconst 0, 1) := by decide +kernel
theorem dX5_follow_13 : decode cX5_follow 13 = .ok (.iconst 0, 1) := by decide +kernel
theorem dX5_follow_14 : decode cX5_follow 14 = .ok (.iastore, 1) := by decide +kernel
theorem dX5_follow_15 : decode cX5_follow 15 = .ok (.aload_n 0, 1) := by decide +kernel
theorem dX5_follow_16 : decode cX5_follow 16 = .ok (.getfield 15, 3) := by decide +kernel
theorem dX5_follow_19 : decode cX5_follow 19 = .ok (.iconst 0, 1) := by decide +kernel
theorem dX5_follow_20 : decode cX5_follow 20 = .ok (.iconst 0, 1) := by decide +kernel
theorem dX5_follow_21 : decode cX5_follow 21 = .ok (.iastore, 1) := by decide +kernel
theorem dX5_follow_22 : decode cX5_follow 22 = .ok (.aload_n 0, 1) := by decide +kernel
theorem dX5_follow_23 : decode cX5_follow 23 = .ok (.iconst 0, 1) := by decide +kernel
theorem dX5_follow_24 : decode cX5_follow 24 = .ok (.putfield 31, 3) := by decide +kernel
theorem dX5_follow_27 : decode cX5_follow 27 = .ok (.aload_n 0, 1) := by decide +kernel
theorem dX5_follow_28 : decode cX5_follow 28 = .ok (.iconst 0, 1) := by decide +kernel
theorem dX5_follow_29 : decode cX5_follow 29 = .ok (.putfield 35, 3) := by decide +kernel
theorem dX5_follow_32 : decode cX5_follow 32 = .ok (.iload_n 2, 1) := by decide +kernel
theorem dX5_follow_33 : decode cX5_follow 33 = .ok (.aload_n 1, 1) := by decide +kernel
theorem dX5_follow_34 : decode cX5_follow 34 = .ok (.arraylength, 1) := by decide +kernel
theorem dX5_follow_35 : decode cX5_follow 35 = .ok (.invokestatic 38, 3) := by decide +kernel
theorem dX5_follow_38 : decode cX5_follow 38 = .ok (.bipush 40, 2) := by decide +kernel
theorem dX5_follow_40 : decode cX5_follow 40 = .ok (.invokestatic 38, 3) := by decide +kernel
theorem dX5_follow_43 : decode cX5_follow 43 = .ok (.istore_n 3, 1) := by decide +kernel
theorem dX5_follow_44 : decode cX5_follow 44 = .ok (.iconst 0, 1) := by decide +kernel
theorem dX5_follow_45 : decode cX5_follow 45 = .ok (.istore 4, 2) := by decide +kernel
theorem dX5_follow_47 : decode cX5_follow 47 = .ok (.iload 4, 2) := by decide +kernel
theorem dX5_follow_49 : decode cX5_follow 49 = .ok (.iload_n 3, 1) := by decide +kernel
theorem dX5_follow_50 : decode cX5_follow 50 = .ok (.if_icmp .ge 28, 3) := by decide +kernel
theorem dX5_follow_53 : decode cX5_follow 53 = .ok (.aload_n 0, 1) := by decide +kernel
theorem dX5_follow_54 : decode cX5_follow 54 = .ok (.getfield 35, 3) := by decide +kernel
theorem dX5_follow_57 : decode cX5_follow 57 = .ok (.iload 4, 2) := by decide +kernel
theorem dX5_follow_59 : decode cX5_follow 59 = .ok (.if_icmp .ne 19, 3) := by decide +kernel
theorem dX5_follow_62 : decode cX5_follow 62 = .ok (.aload_n 0, 1) := by decide +kernel
theorem dX5_follow_63 : decode cX5_follow 63 = .ok (.iload 4, 2) := by decide +kernel
theorem dX5_follow_65 : decode cX5_follow 65 = .ok (.aload_n 1, 1) := by decide +kernel
theorem dX5_follow_66 : decode cX5_follow 66 = .ok (.iload 4, 2) := by decide +kernel
theorem dX5_follow_68 : decode cX5_follow 68 = .ok (.iaload, 1) := by decide +kernel
theorem dX5_follow_69 : decode cX5_follow 69 = .ok (.invokevirtual 44, 3) := by decide +kernel
theorem dX5_follow_72 : decode cX5_follow 72 = .ok (.iinc 4 1, 3) := by decide +kernel
theorem dX5_follow_75 : decode cX5_follow 75 = .ok (.goto (-28), 3) := by decide +kernel
theorem dX5_follow_78 : decode cX5_follow 78 = .ok (.aload_n 0, 1) := by decide +kernel
theorem dX5_follow_79 : decode cX5_follow 79 = .ok (.aload_n 0, 1) := by decide +kernel
theorem dX5_follow_80 : decode cX5_follow 80 = .ok (.getfield 35, 3) := by decide +kernel
theorem dX5_follow_83 : decode cX5_follow 83 = .ok (.iload_n 3, 1) := by decide +kernel
theorem dX5_follow_84 : decode cX5_follow 84 = .ok (.if_icmp .ne 7, 3) := by decide +kernel
theorem dX5_follow_87 : decode cX5_follow 87 = .ok (.iconst 1, 1) := by decide +kernel
theorem dX5_follow_88 : decode cX5_follow 88 = .ok (.goto 4, 3) := by decide +kernel
theorem dX5_follow_91 : decode cX5_follow 91 = .ok (.iconst 0, 1) := by decide +kernel
theorem dX5_follow_92 : decode cX5_follow 92 = .ok (.putfield 48, 3) := by decide +kernel
theorem dX5_follow_95 : decode cX5_follow 95 = .ok (.return_, 1) := by decide +kernel
theorem dX5_take_0 : decode cX5_take 0 = .ok (.aload_n 0, 1) := by decide +kernel
theorem dX5_take_1 : decode cX5_take 1 = .ok (.getfield 9, 3) := by decide +kernel
theorem dX5_take_4 : decode cX5_take 4 = .ok (.iload_n 1, 1) := by decide +kernel
theorem dX5_take_5 : decode cX5_take 5 = .ok (.iaload, 1) := by decide +kernel
theorem dX5_take_6 : decode cX5_take 6 = .ok (.istore_n 3, 1) := by decide +kernel
theorem dX5_take_7 : decode cX5_take 7 = .ok (.aload_n 0, 1) := by decide +kernel
theorem dX5_take_8 : decode cX5_take 8 = .ok (.getfield 21, 3) := by decide +kernel
theorem dX5_take_11 : decode cX5_take 11 = .ok (.iload_n 3, 1) := by decide +kernel
theorem dX5_take_12 : decode cX5_take 12 = .ok (.iload_n 2, 1) := by decide +kernel
theorem dX5_take_13 : decode cX5_take 13 = .ok (.invokevirtual 52, 3) := by decide +kernel
theorem dX5_take_16 : decode cX5_take 16 = .ok (.istore 4, 2) := by decide +kernel
theorem dX5_take_18 : decode cX5_take 18 = .ok (.iload 4, 2) := by decide +kernel
theorem dX5_take_20 : decode cX5_take 20 = .ok (.iconst (-1), 1) := by decide +kernel
theorem dX5_take_21 : decode cX5_take 21 = .ok (.if_icmp .ne 4, 3) := by decide +kernel
theorem dX5_take_24 : decode cX5_take 24 = .ok (.return_, 1) := by decide +kernel
theorem dX5_take_25 : decode cX5_take 25 = .ok (.iload_n 3, 1) := by decide +kernel
theorem dX5_take_26 : decode cX5_take 26 = .ok (.iconst 3, 1) := by decide +kernel
theorem dX5_take_27 : decode cX5_take 27 = .ok (.irem, 1) := by decide +kernel
theorem dX5_take_28 : decode cX5_take 28 = .ok (.istore 5, 2) := by decide +kernel
theorem dX5_take_30 : decode cX5_take 30 = .ok (.aload_n 0, 1) := by decide +kernel
theorem dX5_take_31 : decode cX5_take 31 = .ok (.getfield 21, 3) := by decide +kernel
theorem dX5_take_34 : decode cX5_take 34 = .ok (.iload_n 3, 1) := by decide +kernel
theorem dX5_take_35 : decode cX5_take 35 = .ok (.invokestatic 57, 3) := by decide +kernel
theorem dX5_take_38 : decode cX5_take 38 = .ok (.iload_n 2, 1) := by decide +kernel
theorem dX5_take_39 : decode cX5_take 39 = .ok (.invokevirtual 61, 3) := by decide +kernel
theorem dX5_take_42 : decode cX5_take 42 = .ok (.istore 6, 2) := by decide +kernel
theorem dX5_take_44 : decode cX5_take 44 = .ok (.iload 6, 2) := by decide +kernel
theorem dX5_take_46 : decode cX5_take 46 = .ok (.ifCond .eq 21, 3) := by decide +kernel
theorem dX5_take_49 : decode cX5_take 49 = .ok (.aload_n 0, 1) := by decide +kernel
theorem dX5_take_50 : decode cX5_take 50 = .ok (.dup, 1) := by decide +kernel
theorem dX5_take_51 : decode cX5_take 51 = .ok (.getfield 31, 3) := by decide +kernel
theorem dX5_take_54 : decode cX5_take 54 = .ok (.iconst 1, 1) := by decide +kernel
theorem dX5_take_55 : decode cX5_take 55 = .ok (.iadd, 1) := by decide +kernel
theorem dX5_take_56 : decode cX5_take 56 = .ok (.putfield 31, 3) := by decide +kernel
theorem dX5_take_59 : decode cX5_take 59 = .ok (.aload_n 0, 1) := by decide +kernel
theorem dX5_take_60 : decode cX5_take 60 = .ok (.iload 5, 2) := by decide +kernel
theorem dX5_take_62 : decode cX5_take 62 = .ok (.iload 6, 2) := by decide +kernel
theorem dX5_take_64 : decode cX5_take 64 = .ok (.invokevirtual 64, 3) := by decide +kernel
theorem dX5_take_67 : decode cX5_take 67 = .ok (.aload_n 0, 1) := by decide +kernel
theorem dX5_take_68 : decode cX5_take 68 = .ok (.getfield 9, 3) := by decide +kernel
theorem dX5_take_71 : decode cX5_take 71 = .ok (.iload_n 1, 1) := by decide +kernel
theorem dX5_take_72 : decode cX5_take 72 = .ok (.iconst 1, 1) := by decide +kernel
theorem dX5_take_73 : decode cX5_take 73 = .ok (.iadd, 1) := by decide +kernel
theorem dX5_take_74 : decode cX5_take 74 = .ok (.iload 4, 2) := by decide +kernel
theorem dX5_take_76 : decode cX5_take 76 = .ok (.iastore, 1) := by decide +kernel
theorem dX5_take_77 : decode cX5_take 77 = .ok (.aload_n 0, 1) := by decide +kernel
theorem dX5_take_78 : decode cX5_take 78 = .ok (.getfield 15, 3) := by decide +kernel
theorem dX5_take_81 : decode cX5_take 81 = .ok (.iload_n 1, 1) := by decide +kernel
theorem dX5_take_82 : decode cX5_take 82 = .ok (.iconst 1, 1) := by decide +kernel
theorem dX5_take_83 : decode cX5_take 83 = .ok (.iadd, 1) := by decide +kernel
theorem dX5_take_84 : decode cX5_take 84 = .ok (.aload_n 0, 1) := by decide +kernel
theorem dX5_take_85 : decode cX5_take 85 = .ok (.getfield 15, 3) := by decide +kernel
theorem dX5_take_88 : decode cX5_take 88 = .ok (.iload_n 1, 1) := by decide +kernel
theorem dX5_take_89 : decode cX5_take 89 = .ok (.iaload, 1) := by decide +kernel
theorem dX5_take_90 : decode cX5_take 90 = .ok (.aload_n 0, 1) := by decide +kernel
theorem dX5_take_91 : decode cX5_take 91 = .ok (.getfield 21, 3) := by decide +kernel
theorem dX5_take_94 : decode cX5_take 94 = .ok (.iload_n 3, 1) := by decide +kernel
theorem dX5_take_95 : decode cX5_take 95 = .ok (.iload_n 2, 1) := by decide +kernel
theorem dX5_take_96 : decode cX5_take 96 = .ok (.invokevirtual 67, 3) := by decide +kernel
theorem dX5_take_99 : decode cX5_take 99 = .ok (.iadd, 1) := by decide +kernel
theorem dX5_take_100 : decode cX5_take 100 = .ok (.iastore, 1) := by decide +kernel
theorem dX5_take_101 : decode cX5_take 101 = .ok (.aload_n 0, 1) := by decide +kernel
theorem dX5_take_102 : decode cX5_take 102 = .ok (.iload_n 1, 1) := by decide +kernel
theorem dX5_take_103 : decode cX5_take 103 = .ok (.iconst 1, 1) := by decide +kernel
theorem dX5_take_104 : decode cX5_take 104 = .ok (.iadd, 1) := by decide +kernel
theorem dX5_take_105 : decode cX5_take 105 = .ok (.putfield 35, 3) := by decide +kernel
theorem dX5_take_108 : decode cX5_take 108 = .ok (.return_, 1) := by decide +kernel
theorem dX5_countPair_0 : decode cX5_countPair 0 = .ok (.iload_n 1, 1) := by decide +kernel
theorem dX5_countPair_1 : decode cX5_countPair 1 = .ok (.ifCond .eq 26, 3) := by decide +kernel
theorem dX5_countPair_4 : decode cX5_countPair 4 = .ok (.iload_n 1, 1) := by decide +kernel
theorem dX5_countPair_5 : decode cX5_countPair 5 = .ok (.iload_n 2, 1) := by decide +kernel
theorem dX5_countPair_6 : decode cX5_countPair 6 = .ok (.invokestatic 70, 3) := by decide +kernel
theorem dX5_countPair_9 : decode cX5_countPair 9 = .ok (.istore_n 3, 1) := by decide +kernel
theorem dX5_countPair_10 : decode cX5_countPair 10 = .ok (.iload_n 3, 1) := by decide +kernel
theorem dX5_countPair_11 : decode cX5_countPair 11 = .ok (.invokestatic 73, 3) := by decide +kernel
theorem dX5_countPair_14 : decode cX5_countPair 14 = .ok (.ifCond .eq 13, 3) := by decide +kernel
theorem dX5_countPair_17 : decode cX5_countPair 17 = .ok (.aload_n 0, 1) := by decide +kernel
theorem dX5_countPair_18 : decode cX5_countPair 18 = .ok (.getfield 18, 3) := by decide +kernel
theorem dX5_countPair_21 : decode cX5_countPair 21 = .ok (.iload_n 3, 1) := by decide +kernel
theorem dX5_countPair_22 : decode cX5_countPair 22 = .ok (.dup2, 1) := by decide +kernel
theorem dX5_countPair_23 : decode cX5_countPair 23 = .ok (.iaload, 1) := by decide +kernel
theorem dX5_countPair_24 : decode cX5_countPair 24 = .ok (.iconst 1, 1) := by decide +kernel
theorem dX5_countPair_25 : decode cX5_countPair 25 = .ok (.iadd, 1) := by decide +kernel
theorem dX5_countPair_26 : decode cX5_countPair 26 = .ok (.iastore, 1) := by decide +kernel
theorem dX5_countPair_27 : decode cX5_countPair 27 = .ok (.return_, 1) := by decide +kernel
theorem dX5_isAlive_0 : decode cX5_isAlive 0 = .ok (.aload_n 0, 1) := by decide +kernel
theorem dX5_isAlive_1 : decode cX5_isAlive 1 = .ok (.getfield 48, 3) := by decide +kernel
theorem dX5_isAlive_4 : decode cX5_isAlive 4 = .ok (.ireturn, 1) := by decide +kernel
theorem dX5_isValid_0 : decode cX5_isValid 0 = .ok (.aload_n 0, 1) := by decide +kernel
theorem dX5_isValid_1 : decode cX5_isValid 1 = .ok (.getfield 48, 3) := by decide +kernel
theorem dX5_isValid_4 : decode cX5_isValid 4 = .ok (.ifCond .eq 22, 3) := by decide +kernel
theorem dX5_isValid_7 : decode cX5_isValid 7 = .ok (.aload_n 0, 1) := by decide +kernel
theorem dX5_isValid_8 : decode cX5_isValid 8 = .ok (.getfield 9, 3) := by decide +kernel
theorem dX5_isValid_11 : decode cX5_isValid 11 = .ok (.aload_n 0, 1) := by decide +kernel
theorem dX5_isValid_12 : decode cX5_isValid 12 = .ok (.getfield 35, 3) := by decide +kernel
theorem dX5_isValid_15 : decode cX5_isValid 15 = .ok (.iaload, 1) := by decide +kernel
theorem dX5_isValid_16 : decode cX5_isValid 16 = .ok (.invokestatic 57, 3) := by decide +kernel
theorem dX5_isValid_19 : decode cX5_isValid 19 = .ok (.ifCond .ne 7, 3) := by decide +kernel
theorem dX5_isValid_22 : decode cX5_isValid 22 = .ok (.iconst 1, 1) := by decide +kernel
theorem dX5_isValid_23 : decode cX5_isValid 23 = .ok (.goto 4, 3) := by decide +kernel
theorem dX5_isValid_26 : decode cX5_isValid 26 = .ok (.iconst 0, 1) := by decide +kernel
theorem dX5_isValid_27 : decode cX5_isValid 27 = .ok (.ireturn, 1) := by decide +kernel
theorem dX5_group_0 : decode cX5_group 0 = .ok (.aload_n 0, 1) := by decide +kernel
theorem dX5_group_1 : decode cX5_group 1 = .ok (.invokevirtual 77, 3) := by decide +kernel
theorem dX5_group_4 : decode cX5_group 4 = .ok (.ifCond .eq 5, 3) := by decide +kernel
theorem dX5_group_7 : decode cX5_group 7 = .ok (.iconst 0, 1) := by decide +kernel
theorem dX5_group_8 : decode cX5_group 8 = .ok (.ireturn, 1) := by decide +kernel
theorem dX5_group_9 : decode cX5_group 9 = .ok (.aload_n 0, 1) := by decide +kernel
theorem dX5_group_10 : decode cX5_group 10 = .ok (.getfield 48, 3) := by decide +kernel
theorem dX5_group_13 : decode cX5_group 13 = .ok (.ifCond .eq 7, 3) := by decide +kernel
theorem dX5_group_16 : decode cX5_group 16 = .ok (.iconst 1, 1) := by decide +kernel
theorem dX5_group_17 : decode cX5_group 17 = .ok (.goto 4, 3) := by decide +kernel
theorem dX5_group_20 : decode cX5_group 20 = .ok (.iconst 2, 1) := by decide +kernel
theorem dX5_group_21 : decode cX5_group 21 = .ok (.ireturn, 1) := by decide +kernel
theorem dX5_signCount_0 : decode cX5_signCount 0 = .ok (.aload_n 0, 1) := by decide +kernel
theorem dX5_signCount_1 : decode cX5_signCount 1 = .ok (.getfield 31, 3) := by decide +kernel
theorem dX5_signCount_4 : decode cX5_signCount 4 = .ok (.ireturn, 1) := by decide +kernel
theorem dX5_weight_0 : decode cX5_weight 0 = .ok (.aload_n 0, 1) := by decide +kernel
theorem dX5_weight_1 : decode cX5_weight 1 = .ok (.getfield 15, 3) := by decide +kernel
theorem dX5_weight_4 : decode cX5_weight 4 = .ok (.aload_n 0, 1) := by decide +kernel
theorem dX5_weight_5 : decode cX5_weight 5 = .ok (.getfield 35, 3) := by decide +kernel
theorem dX5_weight_8 : decode cX5_weight 8 = .ok (.iaload, 1) := by decide +kernel
theorem dX5_weight_9 : decode cX5_weight 9 = .ok (.ireturn, 1) := by decide +kernel
theorem dX5_allowedUnits_0 : decode cX5_allowedUnits 0 = .ok (.aload_n 0, 1) := by decide +kernel
theorem dX5_allowedUnits_1 : decode cX5_allowedUnits 1 = .ok (.getfield 35, 3) := by decide +kernel
theorem dX5_allowedUnits_4 : decode cX5_allowedUnits 4 = .ok (.ireturn, 1) := by decide +kernel
theorem dX5_pairCount_0 : decode cX5_pairCount 0 = .ok (.iload_n 1, 1) := by decide +kernel
theorem dX5_pairCount_1 : decode cX5_pairCount 1 = .ok (.invokestatic 73, 3) := by decide +kernel
theorem dX5_pairCount_4 : decode cX5_pairCount 4 = .ok (.ifCond .eq 12, 3) := by decide +kernel
theorem dX5_pairCount_7 : decode cX5_pairCount 7 = .ok (.aload_n 0, 1) := by decide +kernel
theorem dX5_pairCount_8 : decode cX5_pairCount 8 = .ok (.getfield 18, 3) := by decide +kernel
theorem dX5_pairCount_11 : decode cX5_pairCount 11 = .ok (.iload_n 1, 1) := by decide +kernel
theorem dX5_pairCount_12 : decode cX5_pairCount 12 = .ok (.iaload, 1) := by decide +kernel
theorem dX5_pairCount_13 : decode cX5_pairCount 13 = .ok (.goto 4, 3) := by decide +kernel
theorem dX5_pairCount_16 : decode cX5_pairCount 16 = .ok (.iconst 0, 1) := by decide +kernel
theorem dX5_pairCount_17 : decode cX5_pairCount 17 = .ok (.ireturn, 1) := by decide +kernel
theorem dX5_stateAt_0 : decode cX5_stateAt 0 = .ok (.iload_n 1, 1) := by decide +kernel
theorem dX5_stateAt_1 : decode cX5_stateAt 1 = .ok (.ifCond .lt 20, 3) := by decide +kernel
theorem dX5_stateAt_4 : decode cX5_stateAt 4 = .ok (.iload_n 1, 1) := by decide +kernel
theorem dX5_stateAt_5 : decode cX5_stateAt 5 = .ok (.aload_n 0, 1) := by decide +kernel
theorem dX5_stateAt_6 : decode cX5_stateAt 6 = .ok (.getfield 35, 3) := by decide +kernel
theorem dX5_stateAt_9 : decode cX5_stateAt 9 = .ok (.if_icmp .gt 12, 3) := by decide +kernel
theorem dX5_stateAt_12 : decode cX5_stateAt 12 = .ok (.aload_n 0, 1) := by decide +kernel
theorem dX5_stateAt_13 : decode cX5_stateAt 13 = .ok (.getfield 9, 3) := by decide +kernel
theorem dX5_stateAt_16 : decode cX5_stateAt 16 = .ok (.iload_n 1, 1) := by decide +kernel
theorem dX5_stateAt_17 : decode cX5_stateAt 17 = .ok (.iaload, 1) := by decide +kernel
theorem dX5_stateAt_18 : decode cX5_stateAt 18 = .ok (.goto 4, 3) := by decide +kernel
theorem dX5_stateAt_21 : decode cX5_stateAt 21 = .ok (.iconst (-1), 1) := by decide +kernel
theorem dX5_stateAt_22 : decode cX5_stateAt 22 = .ok (.ireturn, 1) := by decide +kernel
theorem dX5_weightAt_0 : decode cX5_weightAt 0 = .ok (.iload_n 1, 1) := by decide +kernel
theorem dX5_weightAt_1 : decode cX5_weightAt 1 = .ok (.ifCond .lt 20, 3) := by decide +kernel
theorem dX5_weightAt_4 : decode cX5_weightAt 4 = .ok (.iload_n 1, 1) := by decide +kernel
theorem dX5_weightAt_5 : decode cX5_weightAt 5 = .ok (.aload_n 0, 1) := by decide +kernel
theorem dX5_weightAt_6 : decode cX5_weightAt 6 = .ok (.getfield 35, 3) := by decide +kernel
theorem dX5_weightAt_9 : decode cX5_weightAt 9 = .ok (.if_icmp .gt 12, 3) := by decide +kernel
theorem dX5_weightAt_12 : decode cX5_weightAt 12 = .ok (.aload_n 0, 1) := by decide +kernel
theorem dX5_weightAt_13 : decode cX5_weightAt 13 = .ok (.getfield 15, 3) := by decide +kernel
theorem dX5_weightAt_16 : decode cX5_weightAt 16 = .ok (.iload_n 1, 1) := by decide +kernel
theorem dX5_weightAt_17 : decode cX5_weightAt 17 = .ok (.iaload, 1) := by decide +kernel
theorem dX5_weightAt_18 : decode cX5_weightAt 18 = .ok (.goto 4, 3) := by decide +kernel
theorem dX5_weightAt_21 : decode cX5_weightAt 21 = .ok (.iconst 0, 1) := by decide +kernel
theorem dX5_weightAt_22 : decode cX5_weightAt 22 = .ok (.ireturn, 1) := by decide +kernel
theorem dX6_init_0 : decode cX6_init 0 = .ok (.aload_n 0, 1) := by decide +kernel
theorem dX6_init_1 : decode cX6_init 1 = .ok (.invokespecial 3, 3) := by decide +kernel
theorem dX6_init_4 : decode cX6_init 4 = .ok (.aload_n 0, 1) := by decide +kernel
theorem dX6_init_5 : decode cX6_init 5 = .ok (.bipush 40, 2) := by decide +kernel
theorem dX6_init_7 : decode cX6_init 7 = .ok (.newarray .int, 2) := by decide +kernel
theorem dX6_init_9 : decode cX6_init 9 = .ok (.putfield 9, 3) := by decide +kernel
theorem dX6_init_12 : decode cX6_init 12 = .ok (.aload_n 0, 1) := by decide +kernel
theorem dX6_init_13 : decode cX6_init 13 = .ok (.iconst 0, 1) := by decide +kernel
theorem dX6_init_14 : decode cX6_init 14 = .ok (.putfield 13, 3) := by decide +kernel
theorem dX6_init_17 : decode cX6_init 17 = .ok (.aload_n 0, 1) := by decide +kernel
theorem dX6_init_18 : decode cX6_init 18 = .ok (.bipush 40, 2) := by decide +kernel
theorem dX6_init_20 : decode cX6_init 20 = .ok (.newarray .int, 2) := by decide +kernel
theorem dX6_init_22 : decode cX6_init 22 = .ok (.putfield 17, 3) := by decide +kernel
theorem dX6_init_25 : decode cX6_init 25 = .ok (.aload_n 0, 1) := by decide +kernel
theorem dX6_init_26 : decode cX6_init 26 = .ok (.iconst 0, 1) := by decide +kernel
theorem dX6_init_27 : decode cX6_init 27 = .ok (.putfield 20, 3) := by decide +kernel
theorem dX6_init_30 : decode cX6_init 30 = .ok (.aload_n 0, 1) := by decide +kernel
theorem dX6_init_31 : decode cX6_init 31 = .ok (.bipush 40, 2) := by decide +kernel
theorem dX6_init_33 : decode cX6_init 33 = .ok (.putfield 23, 3) := by decide +kernel
theorem dX6_init_36 : decode cX6_init 36 = .ok (.aload_n 0, 1) := by decide +kernel
theorem dX6_init_37 : decode cX6_init 37 = .ok (.iconst 4, 1) := by decide +kernel
theorem dX6_init_38 : decode cX6_init 38 = .ok (.anewarray 26, 3) := by decide +kernel
theorem dX6_init_41 : decode cX6_init 41 = .ok (.putfield 28, 3) := by decide +kernel
theorem dX6_init_44 : decode cX6_init 44 = .ok (.aload_n 0, 1) := by decide +kernel
theorem dX6_init_45 : decode cX6_init 45 = .ok (.iconst 4, 1) := by decide +kernel
theorem dX6_init_46 : decode cX6_init 46 = .ok (.anewarray 32, 3) := by decide +kernel
theorem dX6_init_49 : decode cX6_init 49 = .ok (.putfield 34, 3) := by decide +kernel
theorem dX6_init_52 : decode cX6_init 52 = .ok (.iconst 0, 1) := by decide +kernel
theorem dX6_init_53 : decode cX6_init 53 = .ok (.istore_n 1, 1) := by decide +kernel
theorem dX6_init_54 : decode cX6_init 54 = .ok (.iload_n 1, 1) := by decide +kernel
theorem dX6_init_55 : decode cX6_init 55 = .ok (.iconst 4, 1) := by decide +kernel
theorem dX6_init_56 : decode cX6_init 56 = .ok (.if_icmp .ge 41, 3) := by decide +kernel
theorem dX6_init_59 : decode cX6_init 59 = .ok (.aload_n 0, 1) := by decide +kernel
theorem dX6_init_60 : decode cX6_init 60 = .ok (.getfield 28, 3) := by decide +kernel
theorem dX6_init_63 : decode cX6_init 63 = .ok (.iload_n 1, 1) := by decide +kernel
theorem dX6_init_64 : decode cX6_init 64 = .ok (.new 26, 3) := by decide +kernel
theorem dX6_init_67 : decode cX6_init 67 = .ok (.dup, 1) := by decide +kernel
theorem dX6_init_68 : decode cX6_init 68 = .ok (.invokespecial 38, 3) := by decide +kernel
theorem dX6_init_71 : decode cX6_init 71 = .ok (.aastore, 1) := by decide +kernel
theorem dX6_init_72 : decode cX6_init 72 = .ok (.aload_n 0, 1) := by decide +kernel
theorem dX6_init_73 : decode cX6_init 73 = .ok (.getfield 34, 3) := by decide +kernel
theorem dX6_init_76 : decode cX6_init 76 = .ok (.iload_n 1, 1) := by decide +kernel
theorem dX6_init_77 : decode cX6_init 77 = .ok (.new 32, 3) := by decide +kernel
theorem dX6_init_80 : decode cX6_init 80 = .ok (.dup, 1) := by decide +kernel
theorem dX6_init_81 : decode cX6_init 81 = .ok (.aload_n 0, 1) := by decide +kernel
theorem dX6_init_82 : decode cX6_init 82 = .ok (.getfield 28, 3) := by decide +kernel
theorem dX6_init_85 : decode cX6_init 85 = .ok (.iload_n 1, 1) := by decide +kernel
theorem dX6_init_86 : decode cX6_init 86 = .ok (.aaload, 1) := by decide +kernel
theorem dX6_init_87 : decode cX6_init 87 = .ok (.invokespecial 39, 3) := by decide +kernel
theorem dX6_init_90 : decode cX6_init 90 = .ok (.aastore, 1) := by decide +kernel
theorem dX6_init_91 : decode cX6_init 91 = .ok (.iinc 1 1, 3) := by decide +kernel
theorem dX6_init_94 : decode cX6_init 94 = .ok (.goto (-40), 3) := by decide +kernel
theorem dX6_init_97 : decode cX6_init 97 = .ok (.aload_n 0, 1) := by decide +kernel
theorem dX6_init_98 : decode cX6_init 98 = .ok (.iconst 0, 1) := by decide +kernel
theorem dX6_init_99 : decode cX6_init 99 = .ok (.putfield 42, 3) := by decide +kernel
theorem dX6_init_102 : decode cX6_init 102 = .ok (.aload_n 0, 1) := by decide +kernel
theorem dX6_init_103 : decode cX6_init 103 = .ok (.iconst 0, 1) := by decide +kernel
theorem dX6_init_104 : decode cX6_init 104 = .ok (.putfield 45, 3) := by decide +kernel
theorem dX6_init_107 : decode cX6_init 107 = .ok (.aload_n 0, 1) := by decide +kernel
theorem dX6_init_108 : decode cX6_init 108 = .ok (.iconst 0, 1) := by decide +kernel
theorem dX6_init_109 : decode cX6_init 109 = .ok (.putfield 48, 3) := by decide +kernel
theorem dX6_init_112 : decode cX6_init 112 = .ok (.aload_n 0, 1) := by decide +kernel
theorem dX6_init_113 : decode cX6_init 113 = .ok (.new 51, 3) := by decide +kernel
theorem dX6_init_116 : decode cX6_init 116 = .ok (.dup, 1) := by decide +kernel
theorem dX6_init_117 : decode cX6_init 117 = .ok (.invokespecial 53, 3) := by decide +kernel
theorem dX6_init_120 : decode cX6_init 120 = .ok (.putfield 54, 3) := by decide +kernel
theorem dX6_init_123 : decode cX6_init 123 = .ok (.aload_n 0, 1) := by decide +kernel
theorem dX6_init_124 : decode cX6_init 124 = .ok (.new 58, 3) := by decide +kernel
theorem dX6_init_127 : decode cX6_init 127 = .ok (.dup, 1) := by decide +kernel
theorem dX6_init_128 : decode cX6_init 128 = .ok (.invokespecial 60, 3) := by decide +kernel
theorem dX6_init_131 : decode cX6_init 131 = .ok (.putfield 61, 3) := by decide +kernel
theorem dX6_init_134 : decode cX6_init 134 = .ok (.aload_n 0, 1) := by decide +kernel
theorem dX6_init_135 : decode cX6_init 135 = .ok (.new 65, 3) := by decide +kernel
theorem dX6_init_138 : decode cX6_init 138 = .ok (.dup, 1) := by decide +kernel
theorem dX6_init_139 : decode cX6_init 139 = .ok (.invokespecial 67, 3) := by decide +kernel
theorem dX6_init_142 : decode cX6_init 142 = .ok (.putfield 68, 3) := by decide +kernel
theorem dX6_init_145 : decode cX6_init 145 = .ok (.return_, 1) := by decide +kernel
theorem dX6_letter_0 : decode cX6_letter 0 = .ok (.iload_n 1, 1) := by decide +kernel
theorem dX6_letter_1 : decode cX6_letter 1 = .ok (.bipush 32, 2) := by decide +kernel
theorem dX6_letter_3 : decode cX6_letter 3 = .ok (.if_icmp .lt 9, 3) := by decide +kernel
theorem dX6_letter_6 : decode cX6_letter 6 = .ok (.iload_n 1, 1) := by decide +kernel
theorem dX6_letter_7 : decode cX6_letter 7 = .ok (.bipush 126, 2) := by decide +kernel
theorem dX6_letter_9 : decode cX6_letter 9 = .ok (.if_icmp .le 6, 3) := by decide +kernel
theorem dX6_letter_12 : decode cX6_letter 12 = .ok (.bipush (-102), 2) := by decide +kernel
theorem dX6_letter_14 : decode cX6_letter 14 = .ok (.ireturn, 1) := by decide +kernel
theorem dX6_letter_15 : decode cX6_letter 15 = .ok (.aload_n 0, 1) := by decide +kernel
theorem dX6_letter_16 : decode cX6_letter 16 = .ok (.getfield 13, 3) := by decide +kernel
theorem dX6_letter_19 : decode cX6_letter 19 = .ok (.bipush 40, 2) := by decide +kernel
theorem dX6_letter_21 : decode cX6_letter 21 = .ok (.if_icmp .lt 6, 3) := by decide +kernel
theorem dX6_letter_24 : decode cX6_letter 24 = .ok (.bipush (-104), 2) := by decide +kernel
theorem dX6_letter_26 : decode cX6_letter 26 = .ok (.ireturn, 1) := by decide +kernel
theorem dX6_letter_27 : decode cX6_letter 27 = .ok (.aload_n 0, 1) := by decide +kernel
theorem dX6_letter_28 : decode cX6_letter 28 = .ok (.getfield 9, 3) := by decide +kernel
theorem dX6_letter_31 : decode cX6_letter 31 = .ok (.aload_n 0, 1) := by decide +kernel
theorem dX6_letter_32 : decode cX6_letter 32 = .ok (.getfield 13, 3) := by decide +kernel
theorem dX6_letter_35 : decode cX6_letter 35 = .ok (.iload_n 1, 1) := by decide +kernel
theorem dX6_letter_36 : decode cX6_letter 36 = .ok (.iastore, 1) := by decide +kernel
theorem dX6_letter_37 : decode cX6_letter 37 = .ok (.aload_n 0, 1) := by decide +kernel
theorem dX6_letter_38 : decode cX6_letter 38 = .ok (.dup, 1) := by decide +kernel
theorem dX6_letter_39 : decode cX6_letter 39 = .ok (.getfield 13, 3) := by decide +kernel
theorem dX6_letter_42 : decode cX6_letter 42 = .ok (.iconst 1, 1) := by decide +kernel
theorem dX6_letter_43 : decode cX6_letter 43 = .ok (.iadd, 1) := by decide +kernel
theorem dX6_letter_44 : decode cX6_letter 44 = .ok (.putfield 13, 3) := by decide +kernel
theorem dX6_letter_47 : decode cX6_letter 47 = .ok (.aload_n 0, 1) := by decide +kernel
theorem dX6_letter_48 : decode cX6_letter 48 = .ok (.getfield 13, 3) := by decide +kernel
theorem dX6_letter_51 : decode cX6_letter 51 = .ok (.ireturn, 1) := by decide +kernel
theorem dX6_blank_0 : decode cX6_blank 0 = .ok (.aload_n 0, 1) := by decide +kernel
theorem dX6_blank_1 : decode cX6_blank 1 = .ok (.getfield 13, 3) := by decide +kernel
theorem dX6_blank_4 : decode cX6_blank 4 = .ok (.istore_n 1, 1) := by decide +kernel
theorem dX6_blank_5 : decode cX6_blank 5 = .ok (.aload_n 0, 1) := by decide +kernel
theorem dX6_blank_6 : decode cX6_blank 6 = .ok (.iconst 0, 1) := by decide +kernel
theorem dX6_blank_7 : decode cX6_blank 7 = .ok (.putfield 13, 3) := by decide +kernel
theorem dX6_blank_10 : decode cX6_blank 10 = .ok (.iload_n 1, 1) := by decide +kernel
theorem dX6_blank_11 : decode cX6_blank 11 = .ok (.ireturn, 1) := by decide +kernel
theorem dX6_fault_0 : decode cX6_fault 0 = .ok (.aload_n 0, 1) := by decide +kernel
theorem dX6_fault_1 : decode cX6_fault 1 = .ok (.getfield 9, 3) := by decide +kernel
theorem dX6_fault_4 : decode cX6_fault 4 = .ok (.aload_n 0, 1) := by decide +kernel
theorem dX6_fault_5 : decode cX6_fault 5 = .ok (.getfield 13, 3) := by decide +kernel
theorem dX6_fault_8 : decode cX6_fault 8 = .ok (.invokestatic 72, 3) := by decide +kernel
theorem dX6_fault_11 : decode cX6_fault 11 = .ok (.ireturn, 1) := by decide +kernel
theorem dX6_code_0 : decode cX6_code 0 = .ok (.aload_n 0, 1) := by decide +kernel
theorem dX6_code_1 : decode cX6_code 1 = .ok (.getfield 9, 3) := by decide +kernel
theorem dX6_code_4 : decode cX6_code 4 = .ok (.aload_n 0, 1) := by decide +kernel
theorem dX6_code_5 : decode cX6_code 5 = .ok (.getfield 13, 3) := by decide +kernel
theorem dX6_code_8 : decode cX6_code 8 = .ok (.invokestatic 78, 3) := by decide +kernel
theorem dX6_code_11 : decode cX6_code 11 = .ok (.ifCond .ne 6, 3) := by decide +kernel
theorem dX6_code_14 : decode cX6_code 14 = .ok (.bipush (-103), 2) := by decide +kernel
theorem dX6_code_16 : decode cX6_code 16 = .ok (.ireturn, 1) := by decide +kernel
theorem dX6_code_17 : decode cX6_code 17 = .ok (.aload_n 0, 1) := by decide +kernel
theorem dX6_code_18 : decode cX6_code 18 = .ok (.getfield 42, 3) := by decide +kernel
theorem dX6_code_21 : decode cX6_code 21 = .ok (.iconst 4, 1) := by decide +kernel
theorem dX6_code_22 : decode cX6_code 22 = .ok (.if_icmp .lt 6, 3) := by decide +kernel
theorem dX6_code_25 : decode cX6_code 25 = .ok (.bipush (-104), 2) := by decide +kernel
theorem dX6_code_27 : decode cX6_code 27 = .ok (.ireturn, 1) := by decide +kernel
theorem dX6_code_28 : decode cX6_code 28 = .ok (.aload_n 0, 1) := by decide +kernel
theorem dX6_code_29 : decode cX6_code 29 = .ok (.getfield 42, 3) := by decide +kernel
theorem dX6_code_32 : decode cX6_code 32 = .ok (.istore_n 1, 1) := by decide +kernel
theorem dX6_code_33 : decode cX6_code 33 = .ok (.aload_n 0, 1) := by decide +kernel
theorem dX6_code_34 : decode cX6_code 34 = .ok (.getfield 28, 3) := by decide +kernel
theorem dX6_code_37 : decode cX6_code 37 = .ok (.iload_n 1, 1) := by decide +kernel
theorem dX6_code_38 : decode cX6_code 38 = .ok (.aaload, 1) := by decide +kernel
theorem dX6_code_39 : decode cX6_code 39 = .ok (.aload_n 0, 1) := by decide +kernel
theorem dX6_code_40 : decode cX6_code 40 = .ok (.getfield 9, 3) := by decide +kernel
theorem dX6_code_43 : decode cX6_code 43 = .ok (.aload_n 0, 1) := by decide +kernel
theorem dX6_code_44 : decode cX6_code 44 = .ok (.getfield 13, 3) := by decide +kernel
theorem dX6_code_47 : decode cX6_code 47 = .ok (.invokevirtual 82, 3) := by decide +kernel
theorem dX6_code_50 : decode cX6_code 50 = .ok (.aload_n 0, 1) := by decide +kernel
theorem dX6_code_51 : decode cX6_code 51 = .ok (.getfield 34, 3) := by decide +kernel
theorem dX6_code_54 : decode cX6_code 54 = .ok (.iload_n 1, 1) := by decide +kernel
theorem dX6_code_55 : decode cX6_code 55 = .ok (.aaload, 1) := by decide +kernel
theorem dX6_code_56 : decode cX6_code 56 = .ok (.aload_n 0, 1) := by decide +kernel
theorem dX6_code_57 : decode cX6_code 57 = .ok (.getfield 17, 3) := by decide +kernel
theorem dX6_code_60 : decode cX6_code 60 = .ok (.aload_n 0, 1) := by decide +kernel
theorem dX6_code_61 : decode cX6_code 61 = .ok (.getfield 20, 3) := by decide +kernel
theorem dX6_code_64 : decode cX6_code 64 = .ok (.invokevirtual 86, 3) := by decide +kernel
theorem dX6_code_67 : decode cX6_code 67 = .ok (.aload_n 0, 1) := by decide +kernel
theorem dX6_code_68 : decode cX6_code 68 = .ok (.dup, 1) := by decide +kernel
theorem dX6_code_69 : decode cX6_code 69 = .ok (.getfield 42, 3) := by decide +kernel
theorem dX6_code_72 : decode cX6_code 72 = .ok (.iconst 1, 1) := by decide +kernel
theorem dX6_code_73 : decode cX6_code 73 = .ok (.iadd, 1) := by decide +kernel
theorem dX6_code_74 : decode cX6_code 74 = .ok (.putfield 42, 3) := by decide +kernel
theorem dX6_code_77 : decode cX6_code 77 = .ok (.aload_n 0, 1) := by decide +kernel
theorem dX6_code_78 : decode cX6_code 78 = .ok (.dup, 1) := by decide +kernel
theorem dX6_code_79 : decode cX6_code 79 = .ok (.getfield 45, 3) := by decide +kernel
theorem dX6_code_82 : decode cX6_code 82 = .ok (.iconst 1, 1) := by decide +kernel
theorem dX6_code_83 : decode cX6_code 83 = .ok (.iadd, 1) := by decide +kernel
theorem dX6_code_84 : decode cX6_code 84 = .ok (.putfield 45, 3) := by decide +kernel
theorem dX6_code_87 : decode cX6_code 87 = .ok (.aload_n 0, 1) := by decide +kernel
theorem dX6_code_88 : decode cX6_code 88 = .ok (.iconst 0, 1) := by decide +kernel
theorem dX6_code_89 : decode cX6_code 89 = .ok (.putfield 13, 3) := by decide +kernel
theorem dX6_code_92 : decode cX6_code 92 = .ok (.iload_n 1, 1) := by decide +kernel
theorem dX6_code_93 : decode cX6_code 93 = .ok (.ireturn, 1) := by decide +kernel
theorem dX6_drop_0 : decode cX6_drop 0 = .ok (.aload_n 0, 1) := by decide +kernel
theorem dX6_drop_1 : decode cX6_drop 1 = .ok (.getfield 42, 3) := by decide +kernel
theorem dX6_drop_4 : decode cX6_drop 4 = .ok (.ifCond .gt 6, 3) := by decide +kernel
theorem dX6_drop_7 : decode cX6_drop 7 = .ok (.bipush (-103), 2) := by decide +kernel
theorem dX6_drop_9 : decode cX6_drop 9 = .ok (.ireturn, 1) := by decide +kernel
theorem dX6_drop_10 : decode cX6_drop 10 = .ok (.aload_n 0, 1) := by decide +kernel
theorem dX6_drop_11 : decode cX6_drop 11 = .ok (.dup, 1) := by decide +kernel
theorem dX6_drop_12 : decode cX6_drop 12 = .ok (.getfield 42, 3) := by decide +kernel
theorem dX6_drop_15 : decode cX6_drop 15 = .ok (.iconst 1, 1) := by decide +kernel
theorem dX6_drop_16 : decode cX6_drop 16 = .ok (.isub, 1) := by decide +kernel
theorem dX6_drop_17 : decode cX6_drop 17 = .ok (.putfield 42, 3) := by decide +kernel
theorem dX6_drop_20 : decode cX6_drop 20 = .ok (.aload_n 0, 1) := by decide +kernel
theorem dX6_drop_21 : decode cX6_drop 21 = .ok (.getfield 42, 3) := by decide +kernel
theorem dX6_drop_24 : decode cX6_drop 24 = .ok (.ireturn, 1) := by decide +kernel
theorem dX6_ink_0 : decode cX6_ink 0 = .ok (.aload_n 0, 1) := by decide +kernel
theorem dX6_ink_1 : decode cX6_ink 1 = .ok (.iload_n 1, 1) := by decide +kernel
theorem dX6_ink_2 : decode cX6_ink 2 = .ok (.invokevirtual 89, 3) := by decide +kernel
theorem dX6_ink_5 : decode cX6_ink 5 = .ok (.ifCond .eq 20, 3) := by decide +kernel
theorem dX6_ink_8 : decode cX6_ink 8 = .ok (.iload_n 2, 1) := by decide +kernel
theorem dX6_ink_9 : decode cX6_ink 9 = .ok (.ifCond .lt 16, 3) := by decide +kernel
theorem dX6_ink_12 : decode cX6_ink 12 = .ok (.iload_n 2, 1) := by decide +kernel
theorem dX6_ink_13 : decode cX6_ink 13 = .ok (.aload_n 0, 1) := by decide +kernel
theorem dX6_ink_14 : decode cX6_ink 14 = .ok (.getfield 28, 3) := by decide +kernel
theorem dX6_ink_17 : decode cX6_ink 17 = .ok (.iload_n 1, 1) := by decide +kernel
theorem dX6_ink_18 : decode cX6_ink 18 = .ok (.aaload, 1) := by decide +kernel
theorem dX6_ink_19 : decode cX6_ink 19 = .ok (.invokevirtual 93, 3) := by decide +kernel
theorem dX6_ink_22 : decode cX6_ink 22 = .ok (.if_icmp .lt 6, 3) := by decide +kernel
theorem dX6_ink_25 : decode cX6_ink 25 = .ok (.bipush (-101), 2) := by decide +kernel
theorem dX6_ink_27 : decode cX6_ink 27 = .ok (.ireturn, 1) := by decide +kernel
theorem dX6_ink_28 : decode cX6_ink 28 = .ok (.aload_n 0, 1) := by decide +kernel
theorem dX6_ink_29 : decode cX6_ink 29 = .ok (.getfield 28, 3) := by decide +kernel
theorem dX6_ink_32 : decode cX6_ink 32 = .ok (.iload_n 1, 1) := by decide +kernel
theorem dX6_ink_33 : decode cX6_ink 33 = .ok (.aaload, 1) := by decide +kernel
theorem dX6_ink_34 : decode cX6_ink 34 = .ok (.iload_n 2, 1) := by decide +kernel
theorem dX6_ink_35 : decode cX6_ink 35 = .ok (.invokevirtual 97, 3) := by decide +kernel
theorem dX6_ink_38 : decode cX6_ink 38 = .ok (.ireturn, 1) := by decide +kernel
theorem dX6_open_0 : decode cX6_open 0 = .ok (.iload_n 1, 1) := by decide +kernel
theorem dX6_open_1 : decode cX6_open 1 = .ok (.iconst 1, 1) := by decide +kernel
theorem dX6_open_2 : decode cX6_open 2 = .ok (.if_icmp .lt 9, 3) := by decide +kernel
theorem dX6_open_5 : decode cX6_open 5 = .ok (.iload_n 1, 1) := by decide +kernel
theorem dX6_open_6 : decode cX6_open 6 = .ok (.bipush 40, 2) := by decide +kernel
theorem dX6_open_8 : decode cX6_open 8 = .ok (.if_icmp .le 6, 3) := by decide +kernel
theorem dX6_open_11 : decode cX6_open 11 = .ok (.bipush (-102), 2) := by decide +kernel
theorem dX6_open_13 : decode cX6_open 13 = .ok (.ireturn, 1) := by decide +kernel
theorem dX6_open_14 : decode cX6_open 14 = .ok (.aload_n 0, 1) := by decide +kernel
theorem dX6_open_15 : decode cX6_open 15 = .ok (.getfield 20, 3) := by decide +kernel
theorem dX6_open_18 : decode cX6_open 18 = .ok (.istore_n 2, 1) := by decide +kernel
theorem dX6_open_19 : decode cX6_open 19 = .ok (.aload_n 0, 1) := by decide +kernel
theorem dX6_open_20 : decode cX6_open 20 = .ok (.iload_n 1, 1) := by decide +kernel
theorem dX6_open_21 : decode cX6_open 21 = .ok (.putfield 23, 3) := by decide +kernel
theorem dX6_open_24 : decode cX6_open 24 = .ok (.aload_n 0, 1) := by decide +kernel
theorem dX6_open_25 : decode cX6_open 25 = .ok (.iconst 0, 1) := by decide +kernel
theorem dX6_open_26 : decode cX6_open 26 = .ok (.putfield 20, 3) := by decide +kernel
theorem dX6_open_29 : decode cX6_open 29 = .ok (.aload_n 0, 1) := by decide +kernel
theorem dX6_open_30 : decode cX6_open 30 = .ok (.invokevirtual 101, 3) := by decide +kernel
theorem dX6_open_33 : decode cX6_open 33 = .ok (.iload_n 2, 1) := by decide +kernel
theorem dX6_open_34 : decode cX6_open 34 = .ok (.ireturn, 1) := by decide +kernel
theorem dX6_feed_0 : decode cX6_feed 0 = .ok (.iload_n 1, 1) := by decide +kernel
theorem dX6_feed_1 : decode cX6_feed 1 = .ok (.invokestatic 104, 3) := by decide +kernel
theorem dX6_feed_4 : decode cX6_feed 4 = .ok (.ifCond .ne 6, 3) := by decide +kernel
theorem dX6_feed_7 : decode cX6_feed 7 = .ok (.bipush (-102), 2) := by decide +kernel
theorem dX6_feed_9 : decode cX6_feed 9 = .ok (.ireturn, 1) := by decide +kernel
theorem dX6_feed_10 : decode cX6_feed 10 = .ok (.aload_n 0, 1) := by decide +kernel
theorem dX6_feed_11 : decode cX6_feed 11 = .ok (.getfield 20, 3) := by decide +kernel
theorem dX6_feed_14 : decode cX6_feed 14 = .ok (.aload_n 0, 1) := by decide +kernel
theorem dX6_feed_15 : decode cX6_feed 15 = .ok (.getfield 23, 3) := by decide +kernel
theorem dX6_feed_18 : decode cX6_feed 18 = .ok (.if_icmp .lt 6, 3) := by decide +kernel
theorem dX6_feed_21 : decode cX6_feed 21 = .ok (.bipush (-104), 2) := by decide +kernel
theorem dX6_feed_23 : decode cX6_feed 23 = .ok (.ireturn, 1) := by decide +kernel
theorem dX6_feed_24 : decode cX6_feed 24 = .ok (.aload_n 0, 1) := by decide +kernel
theorem dX6_feed_25 : decode cX6_feed 25 = .ok (.iload_n 1, 1) := by decide +kernel
theorem dX6_feed_26 : decode cX6_feed 26 = .ok (.invokevirtual 107, 3) := by decide +kernel
theorem dX6_feed_29 : decode cX6_feed 29 = .ok (.aload_n 0, 1) := by decide +kernel
theorem dX6_feed_30 : decode cX6_feed 30 = .ok (.invokevirtual 101, 3) := by decide +kernel
theorem dX6_feed_33 : decode cX6_feed 33 = .ok (.aload_n 0, 1) := by decide +kernel
theorem dX6_feed_34 : decode cX6_feed 34 = .ok (.getfield 20, 3) := by decide +kernel
theorem dX6_feed_37 : decode cX6_feed 37 = .ok (.ireturn, 1) := by decide +kernel
theorem dX6_feeds_0 : decode cX6_feeds 0 = .ok (.iconst 0, 1) := by decide +kernel
theorem dX6_feeds_1 : decode cX6_feeds 1 = .ok (.istore_n 1, 1) := by decide +kernel
theorem dX6_feeds_2 : decode cX6_feeds 2 = .ok (.iload_n 1, 1) := by decide +kernel
theorem dX6_feeds_3 : decode cX6_feeds 3 = .ok (.aload_n 0, 1) := by decide +kernel
theorem dX6_feeds_4 : decode cX6_feeds 4 = .ok (.getfield 13, 3) := by decide +kernel
theorem dX6_feeds_7 : decode cX6_feeds 7 = .ok (.if_icmp .ge 27, 3) := by decide +kernel
theorem dX6_feeds_10 : decode cX6_feeds 10 = .ok (.aload_n 0, 1) := by decide +kernel
theorem dX6_feeds_11 : decode cX6_feeds 11 = .ok (.getfield 9, 3) := by decide +kernel
theorem dX6_feeds_14 : decode cX6_feeds 14 = .ok (.iload_n 1, 1) := by decide +kernel
theorem dX6_feeds_15 : decode cX6_feeds 15 = .ok (.iaload, 1) := by decide +kernel
theorem dX6_feeds_16 : decode cX6_feeds 16 = .ok (.bipush 48, 2) := by decide +kernel
theorem dX6_feeds_18 : decode cX6_feeds 18 = .ok (.isub, 1) := by decide +kernel
theorem dX6_feeds_19 : decode cX6_feeds 19 = .ok (.invokestatic 104, 3) := by decide +kernel
theorem dX6_feeds_22 : decode cX6_feeds 22 = .ok (.ifCond .ne 6, 3) := by decide +kernel
theorem dX6_feeds_25 : decode cX6_feeds 25 = .ok (.bipush (-103), 2) := by decide +kernel
theorem dX6_feeds_27 : decode cX6_feeds 27 = .ok (.ireturn, 1) := by decide +kernel
theorem dX6_feeds_28 : decode cX6_feeds 28 = .ok (.iinc 1 1, 3) := by decide +kernel
theorem dX6_feeds_31 : decode cX6_feeds 31 = .ok (.goto (-29), 3) := by decide +kernel
theorem dX6_feeds_34 : decode cX6_feeds 34 = .ok (.aload_n 0, 1) := by decide +kernel
theorem dX6_feeds_35 : decode cX6_feeds 35 = .ok (.getfield 13, 3) := by decide +kernel
theorem dX6_feeds_38 : decode cX6_feeds 38 = .ok (.aload_n 0, 1) := by decide +kernel
theorem dX6_feeds_39 : decode cX6_feeds 39 = .ok (.getfield 23, 3) := by decide +kernel
theorem dX6_feeds_42 : decode cX6_feeds 42 = .ok (.aload_n 0, 1) := by decide +kernel
theorem dX6_feeds_43 : decode cX6_feeds 43 = .ok (.getfield 20, 3) := by decide +kernel
theorem dX6_feeds_46 : decode cX6_feeds 46 = .ok (.isub, 1) := by decide +kernel
theorem dX6_feeds_47 : decode cX6_feeds 47 = .ok (.if_icmp .le 6, 3) := by decide +kernel
theorem dX6_feeds_50 : decode cX6_feeds 50 = .ok (.bipush (-104), 2) := by decide +kernel
theorem dX6_feeds_52 : decode cX6_feeds 52 = .ok (.ireturn, 1) := by decide +kernel
theorem dX6_feeds_53 : decode cX6_feeds 53 = .ok (.iconst 0, 1) := by decide +kernel
theorem dX6_feeds_54 : decode cX6_feeds 54 = .ok (.istore_n 1, 1) := by decide +kernel
theorem dX6_feeds_55 : decode cX6_feeds 55 = .ok (.iload_n 1, 1) := by decide +kernel
theorem dX6_feeds_56 : decode cX6_feeds 56 = .ok (.aload_n 0, 1) := by decide +kernel
theorem dX6_feeds_57 : decode cX6_feeds 57 = .ok (.getfield 13, 3) := by decide +kernel
theorem dX6_feeds_60 : decode cX6_feeds 60 = .ok (.if_icmp .ge 22, 3) := by decide +kernel
theorem dX6_feeds_63 : decode cX6_feeds 63 = .ok (.aload_n 0, 1) := by decide +kernel
theorem dX6_feeds_64 : decode cX6_feeds 64 = .ok (.aload_n 0, 1) := by decide +kernel
theorem dX6_feeds_65 : decode cX6_feeds 65 = .ok (.getfield 9, 3) := by decide +kernel
theorem dX6_feeds_68 : decode cX6_feeds 68 = .ok (.iload_n 1, 1) := by decide +kernel
theorem dX6_feeds_69 : decode cX6_feeds 69 = .ok (.iaload, 1) := by decide +kernel
theorem dX6_feeds_70 : decode cX6_feeds 70 = .ok (.bipush 48, 2) := by decide +kernel
theorem dX6_feeds_72 : decode cX6_feeds 72 = .ok (.isub, 1) := by decide +kernel
theorem dX6_feeds_73 : decode cX6_feeds 73 = .ok (.invokevirtual 107, 3) := by decide +kernel
theorem dX6_feeds_76 : decode cX6_feeds 76 = .ok (.iinc 1 1, 3) := by decide +kernel
theorem dX6_feeds_79 : decode cX6_feeds 79 = .ok (.goto (-24), 3) := by decide +kernel
theorem dX6_feeds_82 : decode cX6_feeds 82 = .ok (.aload_n 0, 1) := by decide +kernel
theorem dX6_feeds_83 : decode cX6_feeds 83 = .ok (.iconst 0, 1) := by decide +kernel
theorem dX6_feeds_84 : decode cX6_feeds 84 = .ok (.putfield 13, 3) := by decide +kernel
theorem dX6_feeds_87 : decode cX6_feeds 87 = .ok (.aload_n 0, 1) := by decide +kernel
theorem dX6_feeds_88 : decode cX6_feeds 88 = .ok (.invokevirtual 101, 3) := by decide +kernel
theorem dX6_feeds_91 : decode cX6_feeds 91 = .ok (.aload_n 0, 1) := by decide +kernel
theorem dX6_feeds_92 : decode cX6_feeds 92 = .ok (.getfield 20, 3) := by decide +kernel
theorem dX6_feeds_95 : decode cX6_feeds 95 = .ok (.ireturn, 1) := by decide +kernel
theorem dX6_back_0 : decode cX6_back 0 = .ok (.aload_n 0, 1) := by decide +kernel
theorem dX6_back_1 : decode cX6_back 1 = .ok (.getfield 20, 3) := by decide +kernel
theorem dX6_back_4 : decode cX6_back 4 = .ok (.ifCond .gt 6, 3) := by decide +kernel
theorem dX6_back_7 : decode cX6_back 7 = .ok (.bipush (-103), 2) := by decide +kernel
theorem dX6_back_9 : decode cX6_back 9 = .ok (.ireturn, 1) := by decide +kernel
theorem dX6_back_10 : decode cX6_back 10 = .ok (.aload_n 0, 1) := by decide +kernel
theorem dX6_back_11 : decode cX6_back 11 = .ok (.dup, 1) := by decide +kernel
theorem dX6_back_12 : decode cX6_back 12 = .ok (.getfield 20, 3) := by decide +kernel
theorem dX6_back_15 : decode cX6_back 15 = .ok (.iconst 1, 1) := by decide +kernel
theorem dX6_back_16 : decode cX6_back 16 = .ok (.isub, 1) := by decide +kernel
theorem dX6_back_17 : decode cX6_back 17 = .ok (.putfield 20, 3) := by decide +kernel
theorem dX6_back_20 : decode cX6_back 20 = .ok (.aload_n 0, 1) := by decide +kernel
theorem dX6_back_21 : decode cX6_back 21 = .ok (.invokevirtual 101, 3) := by decide +kernel
theorem dX6_back_24 : decode cX6_back 24 = .ok (.aload_n 0, 1) := by decide +kernel
theorem dX6_back_25 : decode cX6_back 25 = .ok (.getfield 20, 3) := by decide +kernel
theorem dX6_back_28 : decode cX6_back 28 = .ok (.ireturn, 1) := by decide +kernel
theorem dX6_unit_0 : decode cX6_unit 0 = .ok (.iload_n 1, 1) := by decide +kernel
theorem dX6_unit_1 : decode cX6_unit 1 = .ok (.ifCond .lt 11, 3) := by decide +kernel
theorem dX6_unit_4 : decode cX6_unit 4 = .ok (.iload_n 1, 1) := by decide +kernel
theorem dX6_unit_5 : decode cX6_unit 5 = .ok (.aload_n 0, 1) := by decide +kernel
theorem dX6_unit_6 : decode cX6_unit 6 = .ok (.getfield 20, 3) := by decide +kernel
theorem dX6_unit_9 : decode cX6_unit 9 = .ok (.if_icmp .lt 6, 3) := by decide +kernel
theorem dX6_unit_12 : decode cX6_unit 12 = .ok (.bipush (-101), 2) := by decide +kernel
theorem dX6_unit_14 : decode cX6_unit 14 = .ok (.ireturn, 1) := by decide +kernel
theorem dX6_unit_15 : decode cX6_unit 15 = .ok (.aload_n 0, 1) := by decide +kernel
theorem dX6_unit_16 : decode cX6_unit 16 = .ok (.getfield 17, 3) := by decide +kernel
theorem dX6_unit_19 : decode cX6_unit 19 = .ok (.iload_n 1, 1) := by decide +kernel
theorem dX6_unit_20 : decode cX6_unit 20 = .ok (.iaload, 1) := by decide +kernel
theorem dX6_unit_21 : decode cX6_unit 21 = .ok (.ireturn, 1) := by decide +kernel
theorem dX6_about_0 : decode cX6_about 0 = .ok (.aload_n 0, 1) := by decide +kernel
theorem dX6_about_1 : decode cX6_about 1 = .ok (.iload_n 1, 1) := by decide +kernel
theorem dX6_about_2 : decode cX6_about 2 = .ok (.invokevirtual 89, 3) := by decide +kernel
theorem dX6_about_5 : decode cX6_about 5 = .ok (.ifCond .ne 6, 3) := by decide +kernel
theorem dX6_about_8 : decode cX6_about 8 = .ok (.bipush (-101), 2) := by decide +kernel
theorem dX6_about_10 : decode cX6_about 10 = .ok (.ireturn, 1) := by decide +kernel
theorem dX6_about_11 : decode cX6_about 11 = .ok (.aload_n 0, 1) := by decide +kernel
theorem dX6_about_12 : decode cX6_about 12 = .ok (.getfield 34, 3) := by decide +kernel
theorem dX6_about_15 : decode cX6_about 15 = .ok (.iload_n 1, 1) := by decide +kernel
theorem dX6_about_16 : decode cX6_about 16 = .ok (.aaload, 1) := by decide +kernel
theorem dX6_about_17 : decode cX6_about 17 = .ok (.astore_n 3, 1) := by decide +kernel
theorem dX6_about_18 : decode cX6_about 18 = .ok (.iload_n 2, 1) := by decide +kernel
theorem dX6_about_19 : decode cX6_about 19 = .ok (.tableswitch 119 0 7 #[45, 55, 68, 81, 86, 91, 107, 113], 45) := by decide +kernel
theorem dX6_about_64 : decode cX6_about 64 = .ok (.aload_n 0, 1) := by decide +kernel
theorem dX6_about_65 : decode cX6_about 65 = .ok (.getfield 28, 3) := by decide +kernel
theorem dX6_about_68 : decode cX6_about 68 = .ok (.iload_n 1, 1) := by decide +kernel
theorem dX6_about_69 : decode cX6_about 69 = .ok (.aaload, 1) := by decide +kernel
theorem dX6_about_70 : decode cX6_about 70 = .ok (.invokevirtual 111, 3) := by decide +kernel
theorem dX6_about_73 : decode cX6_about 73 = .ok (.ireturn, 1) := by decide +kernel
theorem dX6_about_74 : decode cX6_about 74 = .ok (.aload_n 3, 1) := by decide +kernel
theorem dX6_about_75 : decode cX6_about 75 = .ok (.invokevirtual 114, 3) := by decide +kernel
theorem dX6_about_78 : decode cX6_about 78 = .ok (.ifCond .eq 7, 3) := by decide +kernel
theorem dX6_about_81 : decode cX6_about 81 = .ok (.iconst 1, 1) := by decide +kernel
theorem dX6_about_82 : decode cX6_about 82 = .ok (.goto 4, 3) := by decide +kernel
theorem dX6_about_85 : decode cX6_about 85 = .ok (.iconst 0, 1) := by decide +kernel
theorem dX6_about_86 : decode cX6_about 86 = .ok (.ireturn, 1) := by decide +kernel
theorem dX6_about_87 : decode cX6_about 87 = .ok (.aload_n 3, 1) := by decide +kernel
theorem dX6_about_88 : decode cX6_about 88 = .ok (.invokevirtual 118, 3) := by decide +kernel
theorem dX6_about_91 : decode cX6_about 91 = .ok (.ifCond .eq 7, 3) := by decide +kernel
theorem dX6_about_94 : decode cX6_about 94 = .ok (.iconst 1, 1) := by decide +kernel
theorem dX6_about_95 : decode cX6_about 95 = .ok (.goto 4, 3) := by decide +kernel
theorem dX6_about_98 : decode cX6_about 98 = .ok (.iconst 0, 1) := by decide +kernel
theorem dX6_about_99 : decode cX6_about 99 = .ok (.ireturn, 1) := by decide +kernel
theorem dX6_about_100 : decode cX6_about 100 = .ok (.aload_n 3, 1) := by decide +kernel
theorem dX6_about_101 : decode cX6_about 101 = .ok (.invokevirtual 121, 3) := by decide +kernel
theorem dX6_about_104 : decode cX6_about 104 = .ok (.ireturn, 1) := by decide +kernel
theorem dX6_about_105 : decode cX6_about 105 = .ok (.aload_n 3, 1) := by decide +kernel
theorem dX6_about_106 : decode cX6_about 106 = .ok (.invokevirtual 124, 3) := by decide +kernel
theorem dX6_about_109 : decode cX6_about 109 = .ok (.ireturn, 1) := by decide +kernel
theorem dX6_about_110 : decode cX6_about 110 = .ok (.aload_n 3, 1) := by decide +kernel
theorem dX6_about_111 : decode cX6_about 111 = .ok (.invokevirtual 114, 3) := by decide +kernel
theorem dX6_about_114 : decode cX6_about 114 = .ok (.ifCond .eq 7, 3) := by decide +kernel
theorem dX6_about_117 : decode cX6_about 117 = .ok (.iconst (-1), 1) := by decide +kernel
theorem dX6_about_118 : decode cX6_about 118 = .ok (.goto 7, 3) := by decide +kernel
theorem dX6_about_121 : decode cX6_about 121 = .ok (.aload_n 3, 1) := by decide +kernel
theorem dX6_about_122 : decode cX6_about 122 = .ok (.invokevirtual 127, 3) := by decide +kernel
theorem dX6_about_125 : decode cX6_about 125 = .ok (.ireturn, 1) := by decide +kernel
theorem dX6_about_126 : decode cX6_about 126 = .ok (.aload_n 0, 1) := by decide +kernel
theorem dX6_about_127 : decode cX6_about 127 = .ok (.iload_n 1, 1) := by decide +kernel
theorem dX6_about_128 : decode cX6_about 128 = .ok (.invokevirtual 130, 3) := by decide +kernel
theorem dX6_about_131 : decode cX6_about 131 = .ok (.ireturn, 1) := by decide +kernel
theorem dX6_about_132 : decode cX6_about 132 = .ok (.aload_n 0, 1) := by decide +kernel
theorem dX6_about_133 : decode cX6_about 133 = .ok (.iload_n 1, 1) := by decide +kernel
theorem dX6_about_134 : decode cX6_about 134 = .ok (.invokevirtual 133, 3) := by decide +kernel
theorem dX6_about_137 : decode cX6_about 137 = .ok (.ireturn, 1) := by decide +kernel
theorem dX6_about_138 : decode cX6_about 138 = .ok (.bipush (-102), 2) := by decide +kernel
theorem dX6_about_140 : decode cX6_about 140 = .ok (.ireturn, 1) := by decide +kernel
theorem dX6_points_0 : decode cX6_points 0 = .ok (.aload_n 0, 1) := by decide +kernel
theorem dX6_points_1 : decode cX6_points 1 = .ok (.iload_n 1, 1) := by decide +kernel
theorem dX6_points_2 : decode cX6_points 2 = .ok (.invokevirtual 89, 3) := by decide +kernel
theorem dX6_points_5 : decode cX6_points 5 = .ok (.ifCond .ne 6, 3) := by decide +kernel
theorem dX6_points_8 : decode cX6_points 8 = .ok (.bipush (-101), 2) := by decide +kernel
theorem dX6_points_10 : decode cX6_points 10 = .ok (.ireturn, 1) := by decide +kernel
theorem dX6_points_11 : decode cX6_points 11 = .ok (.iload_n 2, 1) := by decide +kernel
theorem dX6_points_12 : decode cX6_points 12 = .ok (.invokestatic 136, 3) := by decide +kernel
theorem dX6_points_15 : decode cX6_points 15 = .ok (.ifCond .ne 6, 3) := by decide +kernel
theorem dX6_points_18 : decode cX6_points 18 = .ok (.bipush (-102), 2) := by decide +kernel
theorem dX6_points_20 : decode cX6_points 20 = .ok (.ireturn, 1) := by decide +kernel
theorem dX6_points_21 : decode cX6_points 21 = .ok (.aload_n 0, 1) := by decide +kernel
theorem dX6_points_22 : decode cX6_points 22 = .ok (.getfield 28, 3) := by decide +kernel
theorem dX6_points_25 : decode cX6_points 25 = .ok (.iload_n 1, 1) := by decide +kernel
theorem dX6_points_26 : decode cX6_points 26 = .ok (.aaload, 1) := by decide +kernel
theorem dX6_points_27 : decode cX6_points 27 = .ok (.iload_n 2, 1) := by decide +kernel
theorem dX6_points_28 : decode cX6_points 28 = .ok (.invokevirtual 139, 3) := by decide +kernel
theorem dX6_points_31 : decode cX6_points 31 = .ok (.ireturn, 1) := by decide +kernel
theorem dX6_pairs_0 : decode cX6_pairs 0 = .ok (.aload_n 0, 1) := by decide +kernel
theorem dX6_pairs_1 : decode cX6_pairs 1 = .ok (.iload_n 1, 1) := by decide +kernel
theorem dX6_pairs_2 : decode cX6_pairs 2 = .ok (.invokevirtual 89, 3) := by decide +kernel
theorem dX6_pairs_5 : decode cX6_pairs 5 = .ok (.ifCond .ne 6, 3) := by decide +kernel
theorem dX6_pairs_8 : decode cX6_pairs 8 = .ok (.bipush (-101), 2) := by decide +kernel
theorem dX6_pairs_10 : decode cX6_pairs 10 = .ok (.ireturn, 1) := by decide +kernel
theorem dX6_pairs_11 : decode cX6_pairs 11 = .ok (.iload_n 2, 1) := by decide +kernel
theorem dX6_pairs_12 : decode cX6_pairs 12 = .ok (.invokestatic 136, 3) := by decide +kernel
theorem dX6_pairs_15 : decode cX6_pairs 15 = .ok (.ifCond .ne 6, 3) := by decide +kernel
theorem dX6_pairs_18 : decode cX6_pairs 18 = .ok (.bipush (-102), 2) := by decide +kernel
theorem dX6_pairs_20 : decode cX6_pairs 20 = .ok (.ireturn, 1) := by decide +kernel
theorem dX6_pairs_21 : decode cX6_pairs 21 = .ok (.aload_n 0, 1) := by decide +kernel
theorem dX6_pairs_22 : decode cX6_pairs 22 = .ok (.getfield 34, 3) := by decide +kernel
theorem dX6_pairs_25 : decode cX6_pairs 25 = .ok (.iload_n 1, 1) := by decide +kernel
theorem dX6_pairs_26 : decode cX6_pairs 26 = .ok (.aaload, 1) := by decide +kernel
theorem dX6_pairs_27 : decode cX6_pairs 27 = .ok (.iload_n 2, 1) := by decide +kernel
theorem dX6_pairs_28 : decode cX6_pairs 28 = .ok (.invokevirtual 142, 3) := by decide +kernel
theorem dX6_pairs_31 : decode cX6_pairs 31 = .ok (.ireturn, 1) := by decide +kernel
theorem dX6_judged_0 : decode cX6_judged 0 = .ok (.aload_n 0, 1) := by decide +kernel
theorem dX6_judged_1 : decode cX6_judged 1 = .ok (.iconst 0, 1) := by decide +kernel
theorem dX6_judged_2 : decode cX6_judged 2 = .ok (.invokevirtual 145, 3) := by decide +kernel
theorem dX6_judged_5 : decode cX6_judged 5 = .ok (.istore_n 1, 1) := by decide +kernel
theorem dX6_judged_6 : decode cX6_judged 6 = .ok (.aload_n 0, 1) := by decide +kernel
theorem dX6_judged_7 : decode cX6_judged 7 = .ok (.iload_n 1, 1) := by decide +kernel
theorem dX6_judged_8 : decode cX6_judged 8 = .ok (.invokevirtual 89, 3) := by decide +kernel
theorem dX6_judged_11 : decode cX6_judged 11 = .ok (.ifCond .eq 19, 3) := by decide +kernel
theorem dX6_judged_14 : decode cX6_judged 14 = .ok (.aload_n 0, 1) := by decide +kernel
theorem dX6_judged_15 : decode cX6_judged 15 = .ok (.getfield 34, 3) := by decide +kernel
theorem dX6_judged_18 : decode cX6_judged 18 = .ok (.iload_n 1, 1) := by decide +kernel
theorem dX6_judged_19 : decode cX6_judged 19 = .ok (.aaload, 1) := by decide +kernel
theorem dX6_judged_20 : decode cX6_judged 20 = .ok (.invokevirtual 118, 3) := by decide +kernel
theorem dX6_judged_23 : decode cX6_judged 23 = .ok (.ifCond .eq 7, 3) := by decide +kernel
theorem dX6_judged_26 : decode cX6_judged 26 = .ok (.iload_n 1, 1) := by decide +kernel
theorem dX6_judged_27 : decode cX6_judged 27 = .ok (.goto 4, 3) := by decide +kernel
theorem dX6_judged_30 : decode cX6_judged 30 = .ok (.iconst (-1), 1) := by decide +kernel
theorem dX6_judged_31 : decode cX6_judged 31 = .ok (.ireturn, 1) := by decide +kernel
theorem dX6_rank_0 : decode cX6_rank 0 = .ok (.iconst 0, 1) := by decide +kernel
theorem dX6_rank_1 : decode cX6_rank 1 = .ok (.istore_n 2, 1) := by decide +kernel
theorem dX6_rank_2 : decode cX6_rank 2 = .ok (.iload_n 2, 1) := by decide +kernel
theorem dX6_rank_3 : decode cX6_rank 3 = .ok (.aload_n 0, 1) := by decide +kernel
theorem dX6_rank_4 : decode cX6_rank 4 = .ok (.getfield 42, 3) := by decide +kernel
theorem dX6_rank_7 : decode cX6_rank 7 = .ok (.if_icmp .ge 20, 3) := by decide +kernel
theorem dX6_rank_10 : decode cX6_rank 10 = .ok (.aload_n 0, 1) := by decide +kernel
theorem dX6_rank_11 : decode cX6_rank 11 = .ok (.iload_n 2, 1) := by decide +kernel
theorem dX6_rank_12 : decode cX6_rank 12 = .ok (.invokevirtual 133, 3) := by decide +kernel
theorem dX6_rank_15 : decode cX6_rank 15 = .ok (.iload_n 1, 1) := by decide +kernel
theorem dX6_rank_16 : decode cX6_rank 16 = .ok (.if_icmp .ne 5, 3) := by decide +kernel
theorem dX6_rank_19 : decode cX6_rank 19 = .ok (.iload_n 2, 1) := by decide +kernel
theorem dX6_rank_20 : decode cX6_rank 20 = .ok (.ireturn, 1) := by decide +kernel
theorem dX6_rank_21 : decode cX6_rank 21 = .ok (.iinc 2 1, 3) := by decide +kernel
theorem dX6_rank_24 : decode cX6_rank 24 = .ok (.goto (-22), 3) := by decide +kernel
theorem dX6_rank_27 : decode cX6_rank 27 = .ok (.bipush (-101), 2) := by decide +kernel
theorem dX6_rank_29 : decode cX6_rank 29 = .ok (.ireturn, 1) := by decide +kernel
theorem dX6_rows_0 : decode cX6_rows 0 = .ok (.aload_n 0, 1) := by decide +kernel
theorem dX6_rows_1 : decode cX6_rows 1 = .ok (.iload_n 1, 1) := by decide +kernel
theorem dX6_rows_2 : decode cX6_rows 2 = .ok (.invokevirtual 89, 3) := by decide +kernel
theorem dX6_rows_5 : decode cX6_rows 5 = .ok (.ifCond .ne 6, 3) := by decide +kernel
theorem dX6_rows_8 : decode cX6_rows 8 = .ok (.bipush (-101), 2) := by decide +kernel
theorem dX6_rows_10 : decode cX6_rows 10 = .ok (.ireturn, 1) := by decide +kernel
theorem dX6_rows_11 : decode cX6_rows 11 = .ok (.iload_n 2, 1) := by decide +kernel
theorem dX6_rows_12 : decode cX6_rows 12 = .ok (.ifCond .lt 9, 3) := by decide +kernel
theorem dX6_rows_15 : decode cX6_rows 15 = .ok (.iload_n 2, 1) := by decide +kernel
theorem dX6_rows_16 : decode cX6_rows 16 = .ok (.bipush 9, 2) := by decide +kernel
theorem dX6_rows_18 : decode cX6_rows 18 = .ok (.if_icmp .le 6, 3) := by decide +kernel
theorem dX6_rows_21 : decode cX6_rows 21 = .ok (.bipush (-102), 2) := by decide +kernel
theorem dX6_rows_23 : decode cX6_rows 23 = .ok (.ireturn, 1) := by decide +kernel
theorem dX6_rows_24 : decode cX6_rows 24 = .ok (.aload_n 0, 1) := by decide +kernel
theorem dX6_rows_25 : decode cX6_rows 25 = .ok (.getfield 28, 3) := by decide +kernel
theorem dX6_rows_28 : decode cX6_rows 28 = .ok (.iload_n 1, 1) := by decide +kernel
theorem dX6_rows_29 : decode cX6_rows 29 = .ok (.aaload, 1) := by decide +kernel
theorem dX6_rows_30 : decode cX6_rows 30 = .ok (.iload_n 2, 1) := by decide +kernel
theorem dX6_rows_31 : decode cX6_rows 31 = .ok (.invokevirtual 148, 3) := by decide +kernel
theorem dX6_rows_34 : decode cX6_rows 34 = .ok (.ireturn, 1) := by decide +kernel
theorem dX6_apart_0 : decode cX6_apart 0 = .ok (.aload_n 0, 1) := by decide +kernel
theorem dX6_apart_1 : decode cX6_apart 1 = .ok (.iload_n 1, 1) := by decide +kernel
theorem dX6_apart_2 : decode cX6_apart 2 = .ok (.invokevirtual 89, 3) := by decide +kernel
theorem dX6_apart_5 : decode cX6_apart 5 = .ok (.ifCond .eq 11, 3) := by decide +kernel
theorem dX6_apart_8 : decode cX6_apart 8 = .ok (.aload_n 0, 1) := by decide +kernel
theorem dX6_apart_9 : decode cX6_apart 9 = .ok (.iload_n 2, 1) := by decide +kernel
theorem dX6_apart_10 : decode cX6_apart 10 = .ok (.invokevirtual 89, 3) := by decide +kernel
theorem dX6_apart_13 : decode cX6_apart 13 = .ok (.ifCond .ne 6, 3) := by decide +kernel
theorem dX6_apart_16 : decode cX6_apart 16 = .ok (.bipush (-101), 2) := by decide +kernel
theorem dX6_apart_18 : decode cX6_apart 18 = .ok (.ireturn, 1) := by decide +kernel
theorem dX6_apart_19 : decode cX6_apart 19 = .ok (.aload_n 0, 1) := by decide +kernel
theorem dX6_apart_20 : decode cX6_apart 20 = .ok (.getfield 61, 3) := by decide +kernel
theorem dX6_apart_23 : decode cX6_apart 23 = .ok (.aload_n 0, 1) := by decide +kernel
theorem dX6_apart_24 : decode cX6_apart 24 = .ok (.getfield 28, 3) := by decide +kernel
theorem dX6_apart_27 : decode cX6_apart 27 = .ok (.iload_n 1, 1) := by decide +kernel
theorem dX6_apart_28 : decode cX6_apart 28 = .ok (.aaload, 1) := by decide +kernel
theorem dX6_apart_29 : decode cX6_apart 29 = .ok (.aload_n 0, 1) := by decide +kernel
theorem dX6_apart_30 : decode cX6_apart 30 = .ok (.getfield 28, 3) := by decide +kernel
theorem dX6_apart_33 : decode cX6_apart 33 = .ok (.iload_n 2, 1) := by decide +kernel
theorem dX6_apart_34 : decode cX6_apart 34 = .ok (.aaload, 1) := by decide +kernel
theorem dX6_apart_35 : decode cX6_apart 35 = .ok (.invokevirtual 151, 3) := by decide +kernel
theorem dX6_apart_38 : decode cX6_apart 38 = .ok (.ifCond .eq 13, 3) := by decide +kernel
theorem dX6_apart_41 : decode cX6_apart 41 = .ok (.aload_n 0, 1) := by decide +kernel
theorem dX6_apart_42 : decode cX6_apart 42 = .ok (.getfield 61, 3) := by decide +kernel
theorem dX6_apart_45 : decode cX6_apart 45 = .ok (.invokevirtual 155, 3) := by decide +kernel
theorem dX6_apart_48 : decode cX6_apart 48 = .ok (.goto 4, 3) := by decide +kernel
theorem dX6_apart_51 : decode cX6_apart 51 = .ok (.iconst (-1), 1) := by decide +kernel
theorem dX6_apart_52 : decode cX6_apart 52 = .ok (.ireturn, 1) := by decide +kernel
theorem dX6_tells_0 : decode cX6_tells 0 = .ok (.aload_n 0, 1) := by decide +kernel
theorem dX6_tells_1 : decode cX6_tells 1 = .ok (.iload_n 1, 1) := by decide +kernel
theorem dX6_tells_2 : decode cX6_tells 2 = .ok (.invokevirtual 89, 3) := by decide +kernel
theorem dX6_tells_5 : decode cX6_tells 5 = .ok (.ifCond .eq 33, 3) := by decide +kernel
theorem dX6_tells_8 : decode cX6_tells 8 = .ok (.aload_n 0, 1) := by decide +kernel
theorem dX6_tells_9 : decode cX6_tells 9 = .ok (.iload_n 2, 1) := by decide +kernel
theorem dX6_tells_10 : decode cX6_tells 10 = .ok (.invokevirtual 89, 3) := by decide +kernel
theorem dX6_tells_13 : decode cX6_tells 13 = .ok (.ifCond .eq 25, 3) := by decide +kernel
theorem dX6_tells_16 : decode cX6_tells 16 = .ok (.aload_n 0, 1) := by decide +kernel
theorem dX6_tells_17 : decode cX6_tells 17 = .ok (.getfield 61, 3) := by decide +kernel
theorem dX6_tells_20 : decode cX6_tells 20 = .ok (.aload_n 0, 1) := by decide +kernel
theorem dX6_tells_21 : decode cX6_tells 21 = .ok (.getfield 28, 3) := by decide +kernel
theorem dX6_tells_24 : decode cX6_tells 24 = .ok (.iload_n 1, 1) := by decide +kernel
theorem dX6_tells_25 : decode cX6_tells 25 = .ok (.aaload, 1) := by decide +kernel
theorem dX6_tells_26 : decode cX6_tells 26 = .ok (.aload_n 0, 1) := by decide +kernel
theorem dX6_tells_27 : decode cX6_tells 27 = .ok (.getfield 28, 3) := by decide +kernel
theorem dX6_tells_30 : decode cX6_tells 30 = .ok (.iload_n 2, 1) := by decide +kernel
theorem dX6_tells_31 : decode cX6_tells 31 = .ok (.aaload, 1) := by decide +kernel
theorem dX6_tells_32 : decode cX6_tells 32 = .ok (.invokevirtual 151, 3) := by decide +kernel
theorem dX6_tells_35 : decode cX6_tells 35 = .ok (.ifCond .ne 6, 3) := by decide +kernel
theorem dX6_tells_38 : decode cX6_tells 38 = .ok (.bipush (-101), 2) := by decide +kernel
theorem dX6_tells_40 : decode cX6_tells 40 = .ok (.ireturn, 1) := by decide +kernel
theorem dX6_tells_41 : decode cX6_tells 41 = .ok (.iload_n 3, 1) := by decide +kernel
theorem dX6_tells_42 : decode cX6_tells 42 = .ok (.ifCond .lt 14, 3) := by decide +kernel
theorem dX6_tells_45 : decode cX6_tells 45 = .ok (.iload_n 3, 1) := by decide +kernel
theorem dX6_tells_46 : decode cX6_tells 46 = .ok (.aload_n 0, 1) := by decide +kernel
theorem dX6_tells_47 : decode cX6_tells 47 = .ok (.getfield 61, 3) := by decide +kernel
theorem dX6_tells_50 : decode cX6_tells 50 = .ok (.invokevirtual 155, 3) := by decide +kernel
theorem dX6_tells_53 : decode cX6_tells 53 = .ok (.if_icmp .lt 6, 3) := by decide +kernel
theorem dX6_tells_56 : decode cX6_tells 56 = .ok (.bipush (-101), 2) := by decide +kernel
theorem dX6_tells_58 : decode cX6_tells 58 = .ok (.ireturn, 1) := by decide +kernel
theorem dX6_tells_59 : decode cX6_tells 59 = .ok (.aload_n 0, 1) := by decide +kernel
theorem dX6_tells_60 : decode cX6_tells 60 = .ok (.getfield 61, 3) := by decide +kernel
theorem dX6_tells_63 : decode cX6_tells 63 = .ok (.iload_n 3, 1) := by decide +kernel
theorem dX6_tells_64 : decode cX6_tells 64 = .ok (.invokevirtual 158, 3) := by decide +kernel
theorem dX6_tells_67 : decode cX6_tells 67 = .ok (.ireturn, 1) := by decide +kernel
theorem dX6_cuts_0 : decode cX6_cuts 0 = .ok (.iload_n 1, 1) := by decide +kernel
theorem dX6_cuts_1 : decode cX6_cuts 1 = .ok (.ifCond .lt 8, 3) := by decide +kernel
theorem dX6_cuts_4 : decode cX6_cuts 4 = .ok (.iload_n 1, 1) := by decide +kernel
theorem dX6_cuts_5 : decode cX6_cuts 5 = .ok (.iconst 1, 1) := by decide +kernel
theorem dX6_cuts_6 : decode cX6_cuts 6 = .ok (.if_icmp .le 6, 3) := by decide +kernel
theorem dX6_cuts_9 : decode cX6_cuts 9 = .ok (.bipush (-102), 2) := by decide +kernel
theorem dX6_cuts_11 : decode cX6_cuts 11 = .ok (.ireturn, 1) := by decide +kernel
theorem dX6_cuts_12 : decode cX6_cuts 12 = .ok (.aload_n 0, 1) := by decide +kernel
theorem dX6_cuts_13 : decode cX6_cuts 13 = .ok (.getfield 68, 3) := by decide +kernel
theorem dX6_cuts_16 : decode cX6_cuts 16 = .ok (.aload_n 0, 1) := by decide +kernel
theorem dX6_cuts_17 : decode cX6_cuts 17 = .ok (.getfield 28, 3) := by decide +kernel
theorem dX6_cuts_20 : decode cX6_cuts 20 = .ok (.aload_n 0, 1) := by decide +kernel
theorem dX6_cuts_21 : decode cX6_cuts 21 = .ok (.getfield 42, 3) := by decide +kernel
theorem dX6_cuts_24 : decode cX6_cuts 24 = .ok (.aload_n 0, 1) := by decide +kernel
theorem dX6_cuts_25 : decode cX6_cuts 25 = .ok (.getfield 17, 3) := by decide +kernel
theorem dX6_cuts_28 : decode cX6_cuts 28 = .ok (.aload_n 0, 1) := by decide +kernel
theorem dX6_cuts_29 : decode cX6_cuts 29 = .ok (.getfield 20, 3) := by decide +kernel
theorem dX6_cuts_32 : decode cX6_cuts 32 = .ok (.invokevirtual 161, 3) := by decide +kernel
theorem dX6_cuts_35 : decode cX6_cuts 35 = .ok (.ifCond .ne 6, 3) := by decide +kernel
theorem dX6_cuts_38 : decode cX6_cuts 38 = .ok (.bipush (-103), 2) := by decide +kernel
theorem dX6_cuts_40 : decode cX6_cuts 40 = .ok (.ireturn, 1) := by decide +kernel
theorem dX6_cuts_41 : decode cX6_cuts 41 = .ok (.iload_n 1, 1) := by decide +kernel
theorem dX6_cuts_42 : decode cX6_cuts 42 = .ok (.ifCond .ne 13, 3) := by decide +kernel
theorem dX6_cuts_45 : decode cX6_cuts 45 = .ok (.aload_n 0, 1) := by decide +kernel
theorem dX6_cuts_46 : decode cX6_cuts 46 = .ok (.getfield 68, 3) := by decide +kernel
theorem dX6_cuts_49 : decode cX6_cuts 49 = .ok (.invokevirtual 165, 3) := by decide +kernel
theorem dX6_cuts_52 : decode cX6_cuts 52 = .ok (.goto 10, 3) := by decide +kernel
theorem dX6_cuts_55 : decode cX6_cuts 55 = .ok (.aload_n 0, 1) := by decide +kernel
theorem dX6_cuts_56 : decode cX6_cuts 56 = .ok (.getfield 68, 3) := by decide +kernel
theorem dX6_cuts_59 : decode cX6_cuts 59 = .ok (.invokevirtual 168, 3) := by decide +kernel
theorem dX6_cuts_62 : decode cX6_cuts 62 = .ok (.ireturn, 1) := by decide +kernel
theorem dX6_piece_0 : decode cX6_piece 0 = .ok (.aload_n 0, 1) := by decide +kernel
theorem dX6_piece_1 : decode cX6_piece 1 = .ok (.getfield 68, 3) := by decide +kernel
theorem dX6_piece_4 : decode cX6_piece 4 = .ok (.aload_n 0, 1) := by decide +kernel
theorem dX6_piece_5 : decode cX6_piece 5 = .ok (.getfield 28, 3) := by decide +kernel
theorem dX6_piece_8 : decode cX6_piece 8 = .ok (.aload_n 0, 1) := by decide +kernel
theorem dX6_piece_9 : decode cX6_piece 9 = .ok (.getfield 42, 3) := by decide +kernel
theorem dX6_piece_12 : decode cX6_piece 12 = .ok (.aload_n 0, 1) := by decide +kernel
theorem dX6_piece_13 : decode cX6_piece 13 = .ok (.getfield 17, 3) := by decide +kernel
theorem dX6_piece_16 : decode cX6_piece 16 = .ok (.aload_n 0, 1) := by decide +kernel
theorem dX6_piece_17 : decode cX6_piece 17 = .ok (.getfield 20, 3) := by decide +kernel
theorem dX6_piece_20 : decode cX6_piece 20 = .ok (.invokevirtual 161, 3) := by decide +kernel
theorem dX6_piece_23 : decode cX6_piece 23 = .ok (.ifCond .ne 6, 3) := by decide +kernel
theorem dX6_piece_26 : decode cX6_piece 26 = .ok (.bipush (-101), 2) := by decide +kernel
theorem dX6_piece_28 : decode cX6_piece 28 = .ok (.ireturn, 1) := by decide +kernel
theorem dX6_piece_29 : decode cX6_piece 29 = .ok (.iload_n 1, 1) := by decide +kernel
theorem dX6_piece_30 : decode cX6_piece 30 = .ok (.ifCond .lt 14, 3) := by decide +kernel
theorem dX6_piece_33 : decode cX6_piece 33 = .ok (.iload_n 1, 1) := by decide +kernel
theorem dX6_piece_34 : decode cX6_piece 34 = .ok (.aload_n 0, 1) := by decide +kernel
theorem dX6_piece_35 : decode cX6_piece 35 = .ok (.getfield 68, 3) := by decide +kernel
theorem dX6_piece_38 : decode cX6_piece 38 = .ok (.invokevirtual 168, 3) := by decide +kernel
theorem dX6_piece_41 : decode cX6_piece 41 = .ok (.if_icmp .lt 6, 3) := by decide +kernel
theorem dX6_piece_44 : decode cX6_piece 44 = .ok (.bipush (-101), 2) := by decide +kernel
theorem dX6_piece_46 : decode cX6_piece 46 = .ok (.ireturn, 1) := by decide +kernel
theorem dX6_piece_47 : decode cX6_piece 47 = .ok (.iload_n 2, 1) := by decide +kernel
theorem dX6_piece_48 : decode cX6_piece 48 = .ok (.ifCond .lt 8, 3) := by decide +kernel
theorem dX6_piece_51 : decode cX6_piece 51 = .ok (.iload_n 2, 1) := by decide +kernel
theorem dX6_piece_52 : decode cX6_piece 52 = .ok (.iconst 2, 1) := by decide +kernel
theorem dX6_piece_53 : decode cX6_piece 53 = .ok (.if_icmp .le 6, 3) := by decide +kernel
theorem dX6_piece_56 : decode cX6_piece 56 = .ok (.bipush (-102), 2) := by decide +kernel
theorem dX6_piece_58 : decode cX6_piece 58 = .ok (.ireturn, 1) := by decide +kernel
theorem dX6_piece_59 : decode cX6_piece 59 = .ok (.aload_n 0, 1) := by decide +kernel
theorem dX6_piece_60 : decode cX6_piece 60 = .ok (.getfield 68, 3) := by decide +kernel
theorem dX6_piece_63 : decode cX6_piece 63 = .ok (.iload_n 1, 1) := by decide +kernel
theorem dX6_piece_64 : decode cX6_piece 64 = .ok (.iload_n 2, 1) := by decide +kernel
theorem dX6_piece_65 : decode cX6_piece 65 = .ok (.invokevirtual 171, 3) := by decide +kernel
theorem dX6_piece_68 : decode cX6_piece 68 = .ok (.ireturn, 1) := by decide +kernel
theorem dX6_count_0 : decode cX6_count 0 = .ok (.iload_n 1, 1) := by decide +kernel
theorem dX6_count_1 : decode cX6_count 1 = .ok (.tableswitch 87 0 7 #[47, 52, 57, 62, 67, 72, 77, 82], 47) := by decide +kernel
theorem dX6_count_48 : decode cX6_count 48 = .ok (.aload_n 0, 1) := by decide +kernel
theorem dX6_count_49 : decode cX6_count 49 = .ok (.getfield 42, 3) := by decide +kernel
theorem dX6_count_52 : decode cX6_count 52 = .ok (.ireturn, 1) := by decide +kernel
theorem dX6_count_53 : decode cX6_count 53 = .ok (.aload_n 0, 1) := by decide +kernel
theorem dX6_count_54 : decode cX6_count 54 = .ok (.getfield 20, 3) := by decide +kernel
theorem dX6_count_57 : decode cX6_count 57 = .ok (.ireturn, 1) := by decide +kernel
theorem dX6_count_58 : decode cX6_count 58 = .ok (.aload_n 0, 1) := by decide +kernel
theorem dX6_count_59 : decode cX6_count 59 = .ok (.getfield 23, 3) := by decide +kernel
theorem dX6_count_62 : decode cX6_count 62 = .ok (.ireturn, 1) := by decide +kernel
theorem dX6_count_63 : decode cX6_count 63 = .ok (.aload_n 0, 1) := by decide +kernel
theorem dX6_count_64 : decode cX6_count 64 = .ok (.invokevirtual 175, 3) := by decide +kernel
theorem dX6_count_67 : decode cX6_count 67 = .ok (.ireturn, 1) := by decide +kernel
theorem dX6_count_68 : decode cX6_count 68 = .ok (.aload_n 0, 1) := by decide +kernel
theorem dX6_count_69 : decode cX6_count 69 = .ok (.invokevirtual 178, 3) := by decide +kernel
theorem dX6_count_72 : decode cX6_count 72 = .ok (.ireturn, 1) := by decide +kernel
theorem dX6_count_73 : decode cX6_count 73 = .ok (.aload_n 0, 1) := by decide +kernel
theorem dX6_count_74 : decode cX6_count 74 = .ok (.getfield 13, 3) := by decide +kernel
theorem dX6_count_77 : decode cX6_count 77 = .ok (.ireturn, 1) := by decide +kernel
theorem dX6_count_78 : decode cX6_count 78 = .ok (.aload_n 0, 1) := by decide +kernel
theorem dX6_count_79 : decode cX6_count 79 = .ok (.getfield 45, 3) := by decide +kernel
theorem dX6_count_82 : decode cX6_count 82 = .ok (.ireturn, 1) := by decide +kernel
theorem dX6_count_83 : decode cX6_count 83 = .ok (.aload_n 0, 1) := by decide +kernel
theorem dX6_count_84 : decode cX6_count 84 = .ok (.getfield 48, 3) := by decide +kernel
theorem dX6_count_87 : decode cX6_count 87 = .ok (.ireturn, 1) := by decide +kernel
theorem dX6_count_88 : decode cX6_count 88 = .ok (.bipush (-102), 2) := by decide +kernel
theorem dX6_count_90 : decode cX6_count 90 = .ok (.ireturn, 1) := by decide +kernel
theorem dX6_digest_0 : decode cX6_digest 0 = .ok (.ldc2_w 181, 3) := by decide +kernel
theorem dX6_digest_3 : decode cX6_digest 3 = .ok (.lstore_n 1, 1) := by decide +kernel
theorem dX6_digest_4 : decode cX6_digest 4 = .ok (.iconst 0, 1) := by decide +kernel
theorem dX6_digest_5 : decode cX6_digest 5 = .ok (.istore_n 3, 1) := by decide +kernel
theorem dX6_digest_6 : decode cX6_digest 6 = .ok (.iload_n 3, 1) := by decide +kernel
theorem dX6_digest_7 : decode cX6_digest 7 = .ok (.aload_n 0, 1) := by decide +kernel
theorem dX6_digest_8 : decode cX6_digest 8 = .ok (.getfield 42, 3) := by decide +kernel
theorem dX6_digest_11 : decode cX6_digest 11 = .ok (.if_icmp .ge 16, 3) := by decide +kernel
theorem dX6_digest_14 : decode cX6_digest 14 = .ok (.aload_n 0, 1) := by decide +kernel
theorem dX6_digest_15 : decode cX6_digest 15 = .ok (.lload_n 1, 1) := by decide +kernel
theorem dX6_digest_16 : decode cX6_digest 16 = .ok (.iload_n 3, 1) := by decide +kernel
theorem dX6_digest_17 : decode cX6_digest 17 = .ok (.invokevirtual 183, 3) := by decide +kernel
theorem dX6_digest_20 : decode cX6_digest 20 = .ok (.lstore_n 1, 1) := by decide +kernel
theorem dX6_digest_21 : decode cX6_digest 21 = .ok (.iinc 3 1, 3) := by decide +kernel
theorem dX6_digest_24 : decode cX6_digest 24 = .ok (.goto (-18), 3) := by decide +kernel
theorem dX6_digest_27 : decode cX6_digest 27 = .ok (.iconst 0, 1) := by decide +kernel
theorem dX6_digest_28 : decode cX6_digest 28 = .ok (.istore_n 3, 1) := by decide +kernel
theorem dX6_digest_29 : decode cX6_digest 29 = .ok (.iload_n 3, 1) := by decide +kernel
theorem dX6_digest_30 : decode cX6_digest 30 = .ok (.aload_n 0, 1) := by decide +kernel
theorem dX6_digest_31 : decode cX6_digest 31 = .ok (.getfield 20, 3) := by decide +kernel
theorem dX6_digest_34 : decode cX6_digest 34 = .ok (.if_icmp .ge 21, 3) := by decide +kernel
theorem dX6_digest_37 : decode cX6_digest 37 = .ok (.lload_n 1, 1) := by decide +kernel
theorem dX6_digest_38 : decode cX6_digest 38 = .ok (.aload_n 0, 1) := by decide +kernel
theorem dX6_digest_39 : decode cX6_digest 39 = .ok (.getfield 17, 3) := by decide +kernel
theorem dX6_digest_42 : decode cX6_digest 42 = .ok (.iload_n 3, 1) := by decide +kernel
theorem dX6_digest_43 : decode cX6_digest 43 = .ok (.iaload, 1) := by decide +kernel
theorem dX6_digest_44 : decode cX6_digest 44 = .ok (.i2l, 1) := by decide +kernel
theorem dX6_digest_45 : decode cX6_digest 45 = .ok (.invokestatic 187, 3) := by decide +kernel
theorem dX6_digest_48 : decode cX6_digest 48 = .ok (.lstore_n 1, 1) := by decide +kernel
theorem dX6_digest_49 : decode cX6_digest 49 = .ok (.iinc 3 1, 3) := by decide +kernel
theorem dX6_digest_52 : decode cX6_digest 52 = .ok (.goto (-23), 3) := by decide +kernel
theorem dX6_digest_55 : decode cX6_digest 55 = .ok (.lload_n 1, 1) := by decide +kernel
theorem dX6_digest_56 : decode cX6_digest 56 = .ok (.aload_n 0, 1) := by decide +kernel
theorem dX6_digest_57 : decode cX6_digest 57 = .ok (.invokevirtual 191, 3) := by decide +kernel
theorem dX6_digest_60 : decode cX6_digest 60 = .ok (.i2l, 1) := by decide +kernel
theorem dX6_digest_61 : decode cX6_digest 61 = .ok (.invokestatic 187, 3) := by decide +kernel
theorem dX6_digest_64 : decode cX6_digest 64 = .ok (.lstore_n 1, 1) := by decide +kernel
theorem dX6_digest_65 : decode cX6_digest 65 = .ok (.aload_n 0, 1) := by decide +kernel
theorem dX6_digest_66 : decode cX6_digest 66 = .ok (.lload_n 1, 1) := by decide +kernel
theorem dX6_digest_67 : decode cX6_digest 67 = .ok (.invokevirtual 194, 3) := by decide +kernel
theorem dX6_digest_70 : decode cX6_digest 70 = .ok (.lstore_n 1, 1) := by decide +kernel
theorem dX6_digest_71 : decode cX6_digest 71 = .ok (.iconst 0, 1) := by decide +kernel
theorem dX6_digest_72 : decode cX6_digest 72 = .ok (.istore_n 3, 1) := by decide +kernel
theorem dX6_digest_73 : decode cX6_digest 73 = .ok (.iload_n 3, 1) := by decide +kernel
theorem dX6_digest_74 : decode cX6_digest 74 = .ok (.aload_n 0, 1) := by decide +kernel
theorem dX6_digest_75 : decode cX6_digest 75 = .ok (.getfield 13, 3) := by decide +kernel
theorem dX6_digest_78 : decode cX6_digest 78 = .ok (.if_icmp .ge 21, 3) := by decide +kernel
theorem dX6_digest_81 : decode cX6_digest 81 = .ok (.lload_n 1, 1) := by decide +kernel
theorem dX6_digest_82 : decode cX6_digest 82 = .ok (.aload_n 0, 1) := by decide +kernel
theorem dX6_digest_83 : decode cX6_digest 83 = .ok (.getfield 9, 3) := by decide +kernel
theorem dX6_digest_86 : decode cX6_digest 86 = .ok (.iload_n 3, 1) := by decide +kernel
theorem dX6_digest_87 : decode cX6_digest 87 = .ok (.iaload, 1) := by decide +kernel
theorem dX6_digest_88 : decode cX6_digest 88 = .ok (.i2l, 1) := by decide +kernel
theorem dX6_digest_89 : decode cX6_digest 89 = .ok (.invokestatic 187, 3) := by decide +kernel
theorem dX6_digest_92 : decode cX6_digest 92 = .ok (.lstore_n 1, 1) := by decide +kernel
theorem dX6_digest_93 : decode cX6_digest 93 = .ok (.iinc 3 1, 3) := by decide +kernel
theorem dX6_digest_96 : decode cX6_digest 96 = .ok (.goto (-23), 3) := by decide +kernel
theorem dX6_digest_99 : decode cX6_digest 99 = .ok (.iconst 0, 1) := by decide +kernel
theorem dX6_digest_100 : decode cX6_digest 100 = .ok (.istore_n 3, 1) := by decide +kernel
theorem dX6_digest_101 : decode cX6_digest 101 = .ok (.iload_n 3, 1) := by decide +kernel
theorem dX6_digest_102 : decode cX6_digest 102 = .ok (.bipush 8, 2) := by decide +kernel
theorem dX6_digest_104 : decode cX6_digest 104 = .ok (.if_icmp .ge 20, 3) := by decide +kernel
theorem dX6_digest_107 : decode cX6_digest 107 = .ok (.lload_n 1, 1) := by decide +kernel
theorem dX6_digest_108 : decode cX6_digest 108 = .ok (.aload_n 0, 1) := by decide +kernel
theorem dX6_digest_109 : decode cX6_digest 109 = .ok (.iload_n 3, 1) := by decide +kernel
theorem dX6_digest_110 : decode cX6_digest 110 = .ok (.invokevirtual 198, 3) := by decide +kernel
theorem dX6_digest_113 : decode cX6_digest 113 = .ok (.i2l, 1) := by decide +kernel
theorem dX6_digest_114 : decode cX6_digest 114 = .ok (.invokestatic 187, 3) := by decide +kernel
theorem dX6_digest_117 : decode cX6_digest 117 = .ok (.lstore_n 1, 1) := by decide +kernel
theorem dX6_digest_118 : decode cX6_digest 118 = .ok (.iinc 3 1, 3) := by decide +kernel
theorem dX6_digest_121 : decode cX6_digest 121 = .ok (.goto (-20), 3) := by decide +kernel
theorem dX6_digest_124 : decode cX6_digest 124 = .ok (.lload_n 1, 1) := by decide +kernel
theorem dX6_digest_125 : decode cX6_digest 125 = .ok (.lreturn, 1) := by decide +kernel
theorem dX6_fold_0 : decode cX6_fold 0 = .ok (.ldc2_w 201, 3) := by decide +kernel
theorem dX6_fold_3 : decode cX6_fold 3 = .ok (.lload_n 0, 1) := by decide +kernel
theorem dX6_fold_4 : decode cX6_fold 4 = .ok (.lmul, 1) := by decide +kernel
theorem dX6_fold_5 : decode cX6_fold 5 = .ok (.lload_n 2, 1) := by decide +kernel
theorem dX6_fold_6 : decode cX6_fold 6 = .ok (.ladd, 1) := by decide +kernel
theorem dX6_fold_7 : decode cX6_fold 7 = .ok (.lreturn, 1) := by decide +kernel
theorem dX6_foldCode_0 : decode cX6_foldCode 0 = .ok (.lload_n 1, 1) := by decide +kernel
theorem dX6_foldCode_1 : decode cX6_foldCode 1 = .ok (.lstore 4, 2) := by decide +kernel
theorem dX6_foldCode_3 : decode cX6_foldCode 3 = .ok (.aload_n 0, 1) := by decide +kernel
theorem dX6_foldCode_4 : decode cX6_foldCode 4 = .ok (.getfield 28, 3) := by decide +kernel
theorem dX6_foldCode_7 : decode cX6_foldCode 7 = .ok (.iload_n 3, 1) := by decide +kernel
theorem dX6_foldCode_8 : decode cX6_foldCode 8 = .ok (.aaload, 1) := by decide +kernel
theorem dX6_foldCode_9 : decode cX6_foldCode 9 = .ok (.invokevirtual 93, 3) := by decide +kernel
theorem dX6_foldCode_12 : decode cX6_foldCode 12 = .ok (.istore 6, 2) := by decide +kernel
theorem dX6_foldCode_14 : decode cX6_foldCode 14 = .ok (.iconst 0, 1) := by decide +kernel
theorem dX6_foldCode_15 : decode cX6_foldCode 15 = .ok (.istore 7, 2) := by decide +kernel
theorem dX6_foldCode_17 : decode cX6_foldCode 17 = .ok (.iload 7, 2) := by decide +kernel
theorem dX6_foldCode_19 : decode cX6_foldCode 19 = .ok (.iload 6, 2) := by decide +kernel
theorem dX6_foldCode_21 : decode cX6_foldCode 21 = .ok (.if_icmp .ge 24, 3) := by decide +kernel
theorem dX6_foldCode_24 : decode cX6_foldCode 24 = .ok (.lload 4, 2) := by decide +kernel
theorem dX6_foldCode_26 : decode cX6_foldCode 26 = .ok (.aload_n 0, 1) := by decide +kernel
theorem dX6_foldCode_27 : decode cX6_foldCode 27 = .ok (.iload_n 3, 1) := by decide +kernel
theorem dX6_foldCode_28 : decode cX6_foldCode 28 = .ok (.iload 7, 2) := by decide +kernel
theorem dX6_foldCode_30 : decode cX6_foldCode 30 = .ok (.invokevirtual 203, 3) := by decide +kernel
theorem dX6_foldCode_33 : decode cX6_foldCode 33 = .ok (.i2l, 1) := by decide +kernel
theorem dX6_foldCode_34 : decode cX6_foldCode 34 = .ok (.invokestatic 187, 3) := by decide +kernel
theorem dX6_foldCode_37 : decode cX6_foldCode 37 = .ok (.lstore 4, 2) := by decide +kernel
theorem dX6_foldCode_39 : decode cX6_foldCode 39 = .ok (.iinc 7 1, 3) := by decide +kernel
theorem dX6_foldCode_42 : decode cX6_foldCode 42 = .ok (.goto (-25), 3) := by decide +kernel
theorem dX6_foldCode_45 : decode cX6_foldCode 45 = .ok (.iconst 0, 1) := by decide +kernel
theorem dX6_foldCode_46 : decode cX6_foldCode 46 = .ok (.istore 7, 2) := by decide +kernel
theorem dX6_foldCode_48 : decode cX6_foldCode 48 = .ok (.iload 7, 2) := by decide +kernel
theorem dX6_foldCode_50 : decode cX6_foldCode 50 = .ok (.bipush 8, 2) := by decide +kernel
theorem dX6_foldCode_52 : decode cX6_foldCode 52 = .ok (.if_icmp .ge 24, 3) := by decide +kernel
theorem dX6_foldCode_55 : decode cX6_foldCode 55 = .ok (.lload 4, 2) := by decide +kernel
theorem dX6_foldCode_57 : decode cX6_foldCode 57 = .ok (.aload_n 0, 1) := by decide +kernel
theorem dX6_foldCode_58 : decode cX6_foldCode 58 = .ok (.iload_n 3, 1) := by decide +kernel
theorem dX6_foldCode_59 : decode cX6_foldCode 59 = .ok (.iload 7, 2) := by decide +kernel
theorem dX6_foldCode_61 : decode cX6_foldCode 61 = .ok (.invokevirtual 206, 3) := by decide +kernel
theorem dX6_foldCode_64 : decode cX6_foldCode 64 = .ok (.i2l, 1) := by decide +kernel
theorem dX6_foldCode_65 : decode cX6_foldCode 65 = .ok (.invokestatic 187, 3) := by decide +kernel
theorem dX6_foldCode_68 : decode cX6_foldCode 68 = .ok (.lstore 4, 2) := by decide +kernel
theorem dX6_foldCode_70 : decode cX6_foldCode 70 = .ok (.iinc 7 1, 3) := by decide +kernel
theorem dX6_foldCode_73 : decode cX6_foldCode 73 = .ok (.goto (-25), 3) := by decide +kernel
theorem dX6_foldCode_76 : decode cX6_foldCode 76 = .ok (.iconst 0, 1) := by decide +kernel
theorem dX6_foldCode_77 : decode cX6_foldCode 77 = .ok (.istore 7, 2) := by decide +kernel
theorem dX6_foldCode_79 : decode cX6_foldCode 79 = .ok (.iload 7, 2) := by decide +kernel
theorem dX6_foldCode_81 : decode cX6_foldCode 81 = .ok (.iconst 4, 1) := by decide +kernel
theorem dX6_foldCode_82 : decode cX6_foldCode 82 = .ok (.if_icmp .ge 24, 3) := by decide +kernel
theorem dX6_foldCode_85 : decode cX6_foldCode 85 = .ok (.lload 4, 2) := by decide +kernel
theorem dX6_foldCode_87 : decode cX6_foldCode 87 = .ok (.aload_n 0, 1) := by decide +kernel
theorem dX6_foldCode_88 : decode cX6_foldCode 88 = .ok (.iload_n 3, 1) := by decide +kernel
theorem dX6_foldCode_89 : decode cX6_foldCode 89 = .ok (.iload 7, 2) := by decide +kernel
theorem dX6_foldCode_91 : decode cX6_foldCode 91 = .ok (.invokevirtual 209, 3) := by decide +kernel
theorem dX6_foldCode_94 : decode cX6_foldCode 94 = .ok (.i2l, 1) := by decide +kernel
theorem dX6_foldCode_95 : decode cX6_foldCode 95 = .ok (.invokestatic 187, 3) := by decide +kernel
theorem dX6_foldCode_98 : decode cX6_foldCode 98 = .ok (.lstore 4, 2) := by decide +kernel
theorem dX6_foldCode_100 : decode cX6_foldCode 100 = .ok (.iinc 7 1, 3) := by decide +kernel
theorem dX6_foldCode_103 : decode cX6_foldCode 103 = .ok (.goto (-24), 3) := by decide +kernel
theorem dX6_foldCode_106 : decode cX6_foldCode 106 = .ok (.lload 4, 2) := by decide +kernel
theorem dX6_foldCode_108 : decode cX6_foldCode 108 = .ok (.aload_n 0, 1) := by decide +kernel
theorem dX6_foldCode_109 : decode cX6_foldCode 109 = .ok (.iload_n 3, 1) := by decide +kernel
theorem dX6_foldCode_110 : decode cX6_foldCode 110 = .ok (.iconst 5, 1) := by decide +kernel
theorem dX6_foldCode_111 : decode cX6_foldCode 111 = .ok (.invokevirtual 212, 3) := by decide +kernel
theorem dX6_foldCode_114 : decode cX6_foldCode 114 = .ok (.i2l, 1) := by decide +kernel
theorem dX6_foldCode_115 : decode cX6_foldCode 115 = .ok (.invokestatic 187, 3) := by decide +kernel
theorem dX6_foldCode_118 : decode cX6_foldCode 118 = .ok (.lstore 4, 2) := by decide +kernel
theorem dX6_foldCode_120 : decode cX6_foldCode 120 = .ok (.iconst 0, 1) := by decide +kernel
theorem dX6_foldCode_121 : decode cX6_foldCode 121 = .ok (.istore 7, 2) := by decide +kernel
theorem dX6_foldCode_123 : decode cX6_foldCode 123 = .ok (.iload 7, 2) := by decide +kernel
theorem dX6_foldCode_125 : decode cX6_foldCode 125 = .ok (.aload_n 0, 1) := by decide +kernel
theorem dX6_foldCode_126 : decode cX6_foldCode 126 = .ok (.getfield 42, 3) := by decide +kernel
theorem dX6_foldCode_129 : decode cX6_foldCode 129 = .ok (.if_icmp .ge 24, 3) := by decide +kernel
theorem dX6_foldCode_132 : decode cX6_foldCode 132 = .ok (.lload 4, 2) := by decide +kernel
theorem dX6_foldCode_134 : decode cX6_foldCode 134 = .ok (.aload_n 0, 1) := by decide +kernel
theorem dX6_foldCode_135 : decode cX6_foldCode 135 = .ok (.iload_n 3, 1) := by decide +kernel
theorem dX6_foldCode_136 : decode cX6_foldCode 136 = .ok (.iload 7, 2) := by decide +kernel
theorem dX6_foldCode_138 : decode cX6_foldCode 138 = .ok (.invokevirtual 215, 3) := by decide +kernel
theorem dX6_foldCode_141 : decode cX6_foldCode 141 = .ok (.i2l, 1) := by decide +kernel
theorem dX6_foldCode_142 : decode cX6_foldCode 142 = .ok (.invokestatic 187, 3) := by decide +kernel
theorem dX6_foldCode_145 : decode cX6_foldCode 145 = .ok (.lstore 4, 2) := by decide +kernel
theorem dX6_foldCode_147 : decode cX6_foldCode 147 = .ok (.iinc 7 1, 3) := by decide +kernel
theorem dX6_foldCode_150 : decode cX6_foldCode 150 = .ok (.goto (-27), 3) := by decide +kernel
theorem dX6_foldCode_153 : decode cX6_foldCode 153 = .ok (.lload 4, 2) := by decide +kernel
theorem dX6_foldCode_155 : decode cX6_foldCode 155 = .ok (.lreturn, 1) := by decide +kernel
theorem dX6_foldDivision_0 : decode cX6_foldDivision 0 = .ok (.aload_n 0, 1) := by decide +kernel
theorem dX6_foldDivision_1 : decode cX6_foldDivision 1 = .ok (.getfield 68, 3) := by decide +kernel
theorem dX6_foldDivision_4 : decode cX6_foldDivision 4 = .ok (.aload_n 0, 1) := by decide +kernel
theorem dX6_foldDivision_5 : decode cX6_foldDivision 5 = .ok (.getfield 28, 3) := by decide +kernel
theorem dX6_foldDivision_8 : decode cX6_foldDivision 8 = .ok (.aload_n 0, 1) := by decide +kernel
theorem dX6_foldDivision_9 : decode cX6_foldDivision 9 = .ok (.getfield 42, 3) := by decide +kernel
theorem dX6_foldDivision_12 : decode cX6_foldDivision 12 = .ok (.aload_n 0, 1) := by decide +kernel
theorem dX6_foldDivision_13 : decode cX6_foldDivision 13 = .ok (.getfield 17, 3) := by decide +kernel
theorem dX6_foldDivision_16 : decode cX6_foldDivision 16 = .ok (.aload_n 0, 1) := by decide +kernel
theorem dX6_foldDivision_17 : decode cX6_foldDivision 17 = .ok (.getfield 20, 3) := by decide +kernel
theorem dX6_foldDivision_20 : decode cX6_foldDivision 20 = .ok (.invokevirtual 161, 3) := by decide +kernel
theorem dX6_foldDivision_23 : decode cX6_foldDivision 23 = .ok (.ifCond .ne 5, 3) := by decide +kernel
theorem dX6_foldDivision_26 : decode cX6_foldDivision 26 = .ok (.lload_n 1, 1) := by decide +kernel
theorem dX6_foldDivision_27 : decode cX6_foldDivision 27 = .ok (.lreturn, 1) := by decide +kernel
theorem dX6_foldDivision_28 : decode cX6_foldDivision 28 = .ok (.lload_n 1, 1) := by decide +kernel
theorem dX6_foldDivision_29 : decode cX6_foldDivision 29 = .ok (.aload_n 0, 1) := by decide +kernel
theorem dX6_foldDivision_30 : decode cX6_foldDivision 30 = .ok (.getfield 68, 3) := by decide +kernel
theorem dX6_foldDivision_33 : decode cX6_foldDivision 33 = .ok (.invokevirtual 165, 3) := by decide +kernel
theorem dX6_foldDivision_36 : decode cX6_foldDivision 36 = .ok (.i2l, 1) := by decide +kernel
theorem dX6_foldDivision_37 : decode cX6_foldDivision 37 = .ok (.invokestatic 187, 3) := by decide +kernel
theorem dX6_foldDivision_40 : decode cX6_foldDivision 40 = .ok (.lstore_n 3, 1) := by decide +kernel
theorem dX6_foldDivision_41 : decode cX6_foldDivision 41 = .ok (.aload_n 0, 1) := by decide +kernel
theorem dX6_foldDivision_42 : decode cX6_foldDivision 42 = .ok (.getfield 68, 3) := by decide +kernel
theorem dX6_foldDivision_45 : decode cX6_foldDivision 45 = .ok (.invokevirtual 168, 3) := by decide +kernel
theorem dX6_foldDivision_48 : decode cX6_foldDivision 48 = .ok (.istore 5, 2) := by decide +kernel
theorem dX6_foldDivision_50 : decode cX6_foldDivision 50 = .ok (.lload_n 3, 1) := by decide +kernel
theorem dX6_foldDivision_51 : decode cX6_foldDivision 51 = .ok (.iload 5, 2) := by decide +kernel
theorem dX6_foldDivision_53 : decode cX6_foldDivision 53 = .ok (.i2l, 1) := by decide +kernel
theorem dX6_foldDivision_54 : decode cX6_foldDivision 54 = .ok (.invokestatic 187, 3) := by decide +kernel
theorem dX6_foldDivision_57 : decode cX6_foldDivision 57 = .ok (.lstore_n 3, 1) := by decide +kernel
theorem dX6_foldDivision_58 : decode cX6_foldDivision 58 = .ok (.iconst 0, 1) := by decide +kernel
theorem dX6_foldDivision_59 : decode cX6_foldDivision 59 = .ok (.istore 6, 2) := by decide +kernel
theorem dX6_foldDivision_61 : decode cX6_foldDivision 61 = .ok (.iload 6, 2) := by decide +kernel
theorem dX6_foldDivision_63 : decode cX6_foldDivision 63 = .ok (.iload 5, 2) := by decide +kernel
theorem dX6_foldDivision_65 : decode cX6_foldDivision 65 = .ok (.if_icmp .ge 41, 3) := by decide +kernel
theorem dX6_foldDivision_68 : decode cX6_foldDivision 68 = .ok (.iconst 0, 1) := by decide +kernel
theorem dX6_foldDivision_69 : decode cX6_foldDivision 69 = .ok (.istore 7, 2) := by decide +kernel
theorem dX6_foldDivision_71 : decode cX6_foldDivision 71 = .ok (.iload 7, 2) := by decide +kernel
theorem dX6_foldDivision_73 : decode cX6_foldDivision 73 = .ok (.iconst 3, 1) := by decide +kernel
theorem dX6_foldDivision_74 : decode cX6_foldDivision 74 = .ok (.if_icmp .ge 26, 3) := by decide +kernel
theorem dX6_foldDivision_77 : decode cX6_foldDivision 77 = .ok (.lload_n 3, 1) := by decide +kernel
theorem dX6_foldDivision_78 : decode cX6_foldDivision 78 = .ok (.aload_n 0, 1) := by decide +kernel
theorem dX6_foldDivision_79 : decode cX6_foldDivision 79 = .ok (.getfield 68, 3) := by decide +kernel
theorem dX6_foldDivision_82 : decode cX6_foldDivision 82 = .ok (.iload 6, 2) := by decide +kernel
theorem dX6_foldDivision_84 : decode cX6_foldDivision 84 = .ok (.iload 7, 2) := by decide +kernel
theorem dX6_foldDivision_86 : decode cX6_foldDivision 86 = .ok (.invokevirtual 171, 3) := by decide +kernel
theorem dX6_foldDivision_89 : decode cX6_foldDivision 89 = .ok (.i2l, 1) := by decide +kernel
theorem dX6_foldDivision_90 : decode cX6_foldDivision 90 = .ok (.invokestatic 187, 3) := by decide +kernel
theorem dX6_foldDivision_93 : decode cX6_foldDivision 93 = .ok (.lstore_n 3, 1) := by decide +kernel
theorem dX6_foldDivision_94 : decode cX6_foldDivision 94 = .ok (.iinc 7 1, 3) := by decide +kernel
theorem dX6_foldDivision_97 : decode cX6_foldDivision 97 = .ok (.goto (-26), 3) := by decide +kernel
theorem dX6_foldDivision_100 : decode cX6_foldDivision 100 = .ok (.iinc 6 1, 3) := by decide +kernel
theorem dX6_foldDivision_103 : decode cX6_foldDivision 103 = .ok (.goto (-42), 3) := by decide +kernel
theorem dX6_foldDivision_106 : decode cX6_foldDivision 106 = .ok (.lload_n 3, 1) := by decide +kernel
theorem dX6_foldDivision_107 : decode cX6_foldDivision 107 = .ok (.lreturn, 1) := by decide +kernel
theorem dX6_isCode_0 : decode cX6_isCode 0 = .ok (.iload_n 1, 1) := by decide +kernel
theorem dX6_isCode_1 : decode cX6_isCode 1 = .ok (.ifCond .lt 15, 3) := by decide +kernel
theorem dX6_isCode_4 : decode cX6_isCode 4 = .ok (.iload_n 1, 1) := by decide +kernel
theorem dX6_isCode_5 : decode cX6_isCode 5 = .ok (.aload_n 0, 1) := by decide +kernel
theorem dX6_isCode_6 : decode cX6_isCode 6 = .ok (.getfield 42, 3) := by decide +kernel
theorem dX6_isCode_9 : decode cX6_isCode 9 = .ok (.if_icmp .ge 7, 3) := by decide +kernel
theorem dX6_isCode_12 : decode cX6_isCode 12 = .ok (.iconst 1, 1) := by decide +kernel
theorem dX6_isCode_13 : decode cX6_isCode 13 = .ok (.goto 4, 3) := by decide +kernel
theorem dX6_isCode_16 : decode cX6_isCode 16 = .ok (.iconst 0, 1) := by decide +kernel
theorem dX6_isCode_17 : decode cX6_isCode 17 = .ok (.ireturn, 1) := by decide +kernel
theorem dX6_isUnit_0 : decode cX6_isUnit 0 = .ok (.iload_n 0, 1) := by decide +kernel
theorem dX6_isUnit_1 : decode cX6_isUnit 1 = .ok (.ifCond .lt 13, 3) := by decide +kernel
theorem dX6_isUnit_4 : decode cX6_isUnit 4 = .ok (.iload_n 0, 1) := by decide +kernel
theorem dX6_isUnit_5 : decode cX6_isUnit 5 = .ok (.bipush 8, 2) := by decide +kernel
theorem dX6_isUnit_7 : decode cX6_isUnit 7 = .ok (.if_icmp .ge 7, 3) := by decide +kernel
theorem dX6_isUnit_10 : decode cX6_isUnit 10 = .ok (.iconst 1, 1) := by decide +kernel
theorem dX6_isUnit_11 : decode cX6_isUnit 11 = .ok (.goto 4, 3) := by decide +kernel
theorem dX6_isUnit_14 : decode cX6_isUnit 14 = .ok (.iconst 0, 1) := by decide +kernel
theorem dX6_isUnit_15 : decode cX6_isUnit 15 = .ok (.ireturn, 1) := by decide +kernel
theorem dX6_isSortPair_0 : decode cX6_isSortPair 0 = .ok (.iload_n 0, 1) := by decide +kernel
theorem dX6_isSortPair_1 : decode cX6_isSortPair 1 = .ok (.ifCond .lt 12, 3) := by decide +kernel
theorem dX6_isSortPair_4 : decode cX6_isSortPair 4 = .ok (.iload_n 0, 1) := by decide +kernel
theorem dX6_isSortPair_5 : decode cX6_isSortPair 5 = .ok (.iconst 4, 1) := by decide +kernel
theorem dX6_isSortPair_6 : decode cX6_isSortPair 6 = .ok (.if_icmp .ge 7, 3) := by decide +kernel
theorem dX6_isSortPair_9 : decode cX6_isSortPair 9 = .ok (.iconst 1, 1) := by decide +kernel
theorem dX6_isSortPair_10 : decode cX6_isSortPair 10 = .ok (.goto 4, 3) := by decide +kernel
theorem dX6_isSortPair_13 : decode cX6_isSortPair 13 = .ok (.iconst 0, 1) := by decide +kernel
theorem dX6_isSortPair_14 : decode cX6_isSortPair 14 = .ok (.ireturn, 1) := by decide +kernel
theorem dX6_letCome_0 : decode cX6_letCome 0 = .ok (.aload_n 0, 1) := by decide +kernel
theorem dX6_letCome_1 : decode cX6_letCome 1 = .ok (.getfield 20, 3) := by decide +kernel
theorem dX6_letCome_4 : decode cX6_letCome 4 = .ok (.aload_n 0, 1) := by decide +kernel
theorem dX6_letCome_5 : decode cX6_letCome 5 = .ok (.getfield 17, 3) := by decide +kernel
theorem dX6_letCome_8 : decode cX6_letCome 8 = .ok (.arraylength, 1) := by decide +kernel
theorem dX6_letCome_9 : decode cX6_letCome 9 = .ok (.if_icmp .ge 33, 3) := by decide +kernel
theorem dX6_letCome_12 : decode cX6_letCome 12 = .ok (.aload_n 0, 1) := by decide +kernel
theorem dX6_letCome_13 : decode cX6_letCome 13 = .ok (.getfield 17, 3) := by decide +kernel
theorem dX6_letCome_16 : decode cX6_letCome 16 = .ok (.aload_n 0, 1) := by decide +kernel
theorem dX6_letCome_17 : decode cX6_letCome 17 = .ok (.getfield 20, 3) := by decide +kernel
theorem dX6_letCome_20 : decode cX6_letCome 20 = .ok (.iload_n 1, 1) := by decide +kernel
theorem dX6_letCome_21 : decode cX6_letCome 21 = .ok (.iastore, 1) := by decide +kernel
theorem dX6_letCome_22 : decode cX6_letCome 22 = .ok (.aload_n 0, 1) := by decide +kernel
theorem dX6_letCome_23 : decode cX6_letCome 23 = .ok (.dup, 1) := by decide +kernel
theorem dX6_letCome_24 : decode cX6_letCome 24 = .ok (.getfield 20, 3) := by decide +kernel
theorem dX6_letCome_27 : decode cX6_letCome 27 = .ok (.iconst 1, 1) := by decide +kernel
theorem dX6_letCome_28 : decode cX6_letCome 28 = .ok (.iadd, 1) := by decide +kernel
theorem dX6_letCome_29 : decode cX6_letCome 29 = .ok (.putfield 20, 3) := by decide +kernel
theorem dX6_letCome_32 : decode cX6_letCome 32 = .ok (.aload_n 0, 1) := by decide +kernel
theorem dX6_letCome_33 : decode cX6_letCome 33 = .ok (.dup, 1) := by decide +kernel
theorem dX6_letCome_34 : decode cX6_letCome 34 = .ok (.getfield 48, 3) := by decide +kernel
theorem dX6_letCome_37 : decode cX6_letCome 37 = .ok (.iconst 1, 1) := by decide +kernel
theorem dX6_letCome_38 : decode cX6_letCome 38 = .ok (.iadd, 1) := by decide +kernel
theorem dX6_letCome_39 : decode cX6_letCome 39 = .ok (.putfield 48, 3) := by decide +kernel
theorem dX6_letCome_42 : decode cX6_letCome 42 = .ok (.return_, 1) := by decide +kernel
theorem dX6_readAgain_0 : decode cX6_readAgain 0 = .ok (.iconst 0, 1) := by decide +kernel
theorem dX6_readAgain_1 : decode cX6_readAgain 1 = .ok (.istore_n 1, 1) := by decide +kernel
theorem dX6_readAgain_2 : decode cX6_readAgain 2 = .ok (.iload_n 1, 1) := by decide +kernel
theorem dX6_readAgain_3 : decode cX6_readAgain 3 = .ok (.aload_n 0, 1) := by decide +kernel
theorem dX6_readAgain_4 : decode cX6_readAgain 4 = .ok (.getfield 42, 3) := by decide +kernel
theorem dX6_readAgain_7 : decode cX6_readAgain 7 = .ok (.if_icmp .ge 26, 3) := by decide +kernel
theorem dX6_readAgain_10 : decode cX6_readAgain 10 = .ok (.aload_n 0, 1) := by decide +kernel
theorem dX6_readAgain_11 : decode cX6_readAgain 11 = .ok (.getfield 34, 3) := by decide +kernel
theorem dX6_readAgain_14 : decode cX6_readAgain 14 = .ok (.iload_n 1, 1) := by decide +kernel
theorem dX6_readAgain_15 : decode cX6_readAgain 15 = .ok (.aaload, 1) := by decide +kernel
theorem dX6_readAgain_16 : decode cX6_readAgain 16 = .ok (.aload_n 0, 1) := by decide +kernel
theorem dX6_readAgain_17 : decode cX6_readAgain 17 = .ok (.getfield 17, 3) := by decide +kernel
theorem dX6_readAgain_20 : decode cX6_readAgain 20 = .ok (.aload_n 0, 1) := by decide +kernel
theorem dX6_readAgain_21 : decode cX6_readAgain 21 = .ok (.getfield 20, 3) := by decide +kernel
theorem dX6_readAgain_24 : decode cX6_readAgain 24 = .ok (.invokevirtual 86, 3) := by decide +kernel
theorem dX6_readAgain_27 : decode cX6_readAgain 27 = .ok (.iinc 1 1, 3) := by decide +kernel
theorem dX6_readAgain_30 : decode cX6_readAgain 30 = .ok (.goto (-28), 3) := by decide +kernel
theorem dX6_readAgain_33 : decode cX6_readAgain 33 = .ok (.return_, 1) := by decide +kernel
theorem dX6_aliveCodes_0 : decode cX6_aliveCodes 0 = .ok (.iconst 0, 1) := by decide +kernel
theorem dX6_aliveCodes_1 : decode cX6_aliveCodes 1 = .ok (.istore_n 1, 1) := by decide +kernel
theorem dX6_aliveCodes_2 : decode cX6_aliveCodes 2 = .ok (.iconst 0, 1) := by decide +kernel
theorem dX6_aliveCodes_3 : decode cX6_aliveCodes 3 = .ok (.istore_n 2, 1) := by decide +kernel
theorem dX6_aliveCodes_4 : decode cX6_aliveCodes 4 = .ok (.iload_n 2, 1) := by decide +kernel
theorem dX6_aliveCodes_5 : decode cX6_aliveCodes 5 = .ok (.aload_n 0, 1) := by decide +kernel
theorem dX6_aliveCodes_6 : decode cX6_aliveCodes 6 = .ok (.getfield 42, 3) := by decide +kernel
theorem dX6_aliveCodes_9 : decode cX6_aliveCodes 9 = .ok (.if_icmp .ge 24, 3) := by decide +kernel
theorem dX6_aliveCodes_12 : decode cX6_aliveCodes 12 = .ok (.aload_n 0, 1) := by decide +kernel
theorem dX6_aliveCodes_13 : decode cX6_aliveCodes 13 = .ok (.getfield 34, 3) := by decide +kernel
theorem dX6_aliveCodes_16 : decode cX6_aliveCodes 16 = .ok (.iload_n 2, 1) := by decide +kernel
theorem dX6_aliveCodes_17 : decode cX6_aliveCodes 17 = .ok (.aaload, 1) := by decide +kernel
theorem dX6_aliveCodes_18 : decode cX6_aliveCodes 18 = .ok (.invokevirtual 114, 3) := by decide +kernel
theorem dX6_aliveCodes_21 : decode cX6_aliveCodes 21 = .ok (.ifCond .eq 6, 3) := by decide +kernel
theorem dX6_aliveCodes_24 : decode cX6_aliveCodes 24 = .ok (.iinc 1 1, 3) := by decide +kernel
theorem dX6_aliveCodes_27 : decode cX6_aliveCodes 27 = .ok (.iinc 2 1, 3) := by decide +kernel
theorem dX6_aliveCodes_30 : decode cX6_aliveCodes 30 = .ok (.goto (-26), 3) := by decide +kernel
theorem dX6_aliveCodes_33 : decode cX6_aliveCodes 33 = .ok (.iload_n 1, 1) := by decide +kernel
theorem dX6_aliveCodes_34 : decode cX6_aliveCodes 34 = .ok (.ireturn, 1) := by decide +kernel
theorem dX6_validCodes_0 : decode cX6_validCodes 0 = .ok (.iconst 0, 1) := by decide +kernel
theorem dX6_validCodes_1 : decode cX6_validCodes 1 = .ok (.istore_n 1, 1) := by decide +kernel
theorem dX6_validCodes_2 : decode cX6_validCodes 2 = .ok (.iconst 0, 1) := by decide +kernel
theorem dX6_validCodes_3 : decode cX6_validCodes 3 = .ok (.istore_n 2, 1) := by decide +kernel
theorem dX6_validCodes_4 : decode cX6_validCodes 4 = .ok (.iload_n 2, 1) := by decide +kernel
theorem dX6_validCodes_5 : decode cX6_validCodes 5 = .ok (.aload_n 0, 1) := by decide +kernel
theorem dX6_validCodes_6 : decode cX6_validCodes 6 = .ok (.getfield 42, 3) := by decide +kernel
theorem dX6_validCodes_9 : decode cX6_validCodes 9 = .ok (.if_icmp .ge 24, 3) := by decide +kernel
theorem dX6_validCodes_12 : decode cX6_validCodes 12 = .ok (.aload_n 0, 1) := by decide +kernel
theorem dX6_validCodes_13 : decode cX6_validCodes 13 = .ok (.getfield 34, 3) := by decide +kernel
theorem dX6_validCodes_16 : decode cX6_validCodes 16 = .ok (.iload_n 2, 1) := by decide +kernel
theorem dX6_validCodes_17 : decode cX6_validCodes 17 = .ok (.aaload, 1) := by decide +kernel
theorem dX6_validCodes_18 : decode cX6_validCodes 18 = .ok (.invokevirtual 118, 3) := by decide +kernel
theorem dX6_validCodes_21 : decode cX6_validCodes 21 = .ok (.ifCond .eq 6, 3) := by decide +kernel
theorem dX6_validCodes_24 : decode cX6_validCodes 24 = .ok (.iinc 1 1, 3) := by decide +kernel
theorem dX6_validCodes_27 : decode cX6_validCodes 27 = .ok (.iinc 2 1, 3) := by decide +kernel
theorem dX6_validCodes_30 : decode cX6_validCodes 30 = .ok (.goto (-26), 3) := by decide +kernel
theorem dX6_validCodes_33 : decode cX6_validCodes 33 = .ok (.iload_n 1, 1) := by decide +kernel
theorem dX6_validCodes_34 : decode cX6_validCodes 34 = .ok (.ireturn, 1) := by decide +kernel
theorem dX6_placeInRanking_0 : decode cX6_placeInRanking 0 = .ok (.iconst 0, 1) := by decide +kernel
theorem dX6_placeInRanking_1 : decode cX6_placeInRanking 1 = .ok (.istore_n 2, 1) := by decide +kernel
theorem dX6_placeInRanking_2 : decode cX6_placeInRanking 2 = .ok (.iconst 0, 1) := by decide +kernel
theorem dX6_placeInRanking_3 : decode cX6_placeInRanking 3 = .ok (.istore_n 3, 1) := by decide +kernel
theorem dX6_placeInRanking_4 : decode cX6_placeInRanking 4 = .ok (.iload_n 3, 1) := by decide +kernel
theorem dX6_placeInRanking_5 : decode cX6_placeInRanking 5 = .ok (.aload_n 0, 1) := by decide +kernel
theorem dX6_placeInRanking_6 : decode cX6_placeInRanking 6 = .ok (.getfield 42, 3) := by decide +kernel
theorem dX6_placeInRanking_9 : decode cX6_placeInRanking 9 = .ok (.if_icmp .ge 21, 3) := by decide +kernel
theorem dX6_placeInRanking_12 : decode cX6_placeInRanking 12 = .ok (.aload_n 0, 1) := by decide +kernel
theorem dX6_placeInRanking_13 : decode cX6_placeInRanking 13 = .ok (.iload_n 3, 1) := by decide +kernel
theorem dX6_placeInRanking_14 : decode cX6_placeInRanking 14 = .ok (.iload_n 1, 1) := by decide +kernel
theorem dX6_placeInRanking_15 : decode cX6_placeInRanking 15 = .ok (.invokevirtual 218, 3) := by decide +kernel
theorem dX6_placeInRanking_18 : decode cX6_placeInRanking 18 = .ok (.ifCond .eq 6, 3) := by decide +kernel
theorem dX6_placeInRanking_21 : decode cX6_placeInRanking 21 = .ok (.iinc 2 1, 3) := by decide +kernel
theorem dX6_placeInRanking_24 : decode cX6_placeInRanking 24 = .ok (.iinc 3 1, 3) := by decide +kernel
theorem dX6_placeInRanking_27 : decode cX6_placeInRanking 27 = .ok (.goto (-23), 3) := by decide +kernel
theorem dX6_placeInRanking_30 : decode cX6_placeInRanking 30 = .ok (.iload_n 2, 1) := by decide +kernel
theorem dX6_placeInRanking_31 : decode cX6_placeInRanking 31 = .ok (.ireturn, 1) := by decide +kernel
theorem dX6_isAhead_0 : decode cX6_isAhead 0 = .ok (.aload_n 0, 1) := by decide +kernel
theorem dX6_isAhead_1 : decode cX6_isAhead 1 = .ok (.getfield 34, 3) := by decide +kernel
theorem dX6_isAhead_4 : decode cX6_isAhead 4 = .ok (.iload_n 1, 1) := by decide +kernel
theorem dX6_isAhead_5 : decode cX6_isAhead 5 = .ok (.aaload, 1) := by decide +kernel
theorem dX6_isAhead_6 : decode cX6_isAhead 6 = .ok (.astore_n 3, 1) := by decide +kernel
theorem dX6_isAhead_7 : decode cX6_isAhead 7 = .ok (.aload_n 0, 1) := by decide +kernel
theorem dX6_isAhead_8 : decode cX6_isAhead 8 = .ok (.getfield 34, 3) := by decide +kernel
theorem dX6_isAhead_11 : decode cX6_isAhead 11 = .ok (.iload_n 2, 1) := by decide +kernel
theorem dX6_isAhead_12 : decode cX6_isAhead 12 = .ok (.aaload, 1) := by decide +kernel
theorem dX6_isAhead_13 : decode cX6_isAhead 13 = .ok (.astore 4, 2) := by decide +kernel
theorem dX6_isAhead_15 : decode cX6_isAhead 15 = .ok (.aload_n 3, 1) := by decide +kernel
theorem dX6_isAhead_16 : decode cX6_isAhead 16 = .ok (.invokevirtual 222, 3) := by decide +kernel
theorem dX6_isAhead_19 : decode cX6_isAhead 19 = .ok (.aload 4, 2) := by decide +kernel
theorem dX6_isAhead_21 : decode cX6_isAhead 21 = .ok (.invokevirtual 222, 3) := by decide +kernel
theorem dX6_isAhead_24 : decode cX6_isAhead 24 = .ok (.if_icmp .eq 21, 3) := by decide +kernel
theorem dX6_isAhead_27 : decode cX6_isAhead 27 = .ok (.aload_n 3, 1) := by decide +kernel
theorem dX6_isAhead_28 : decode cX6_isAhead 28 = .ok (.invokevirtual 222, 3) := by decide +kernel
theorem dX6_isAhead_31 : decode cX6_isAhead 31 = .ok (.aload 4, 2) := by decide +kernel
theorem dX6_isAhead_33 : decode cX6_isAhead 33 = .ok (.invokevirtual 222, 3) := by decide +kernel
theorem dX6_isAhead_36 : decode cX6_isAhead 36 = .ok (.if_icmp .ge 7, 3) := by decide +kernel
theorem dX6_isAhead_39 : decode cX6_isAhead 39 = .ok (.iconst 1, 1) := by decide +kernel
theorem dX6_isAhead_40 : decode cX6_isAhead 40 = .ok (.goto 4, 3) := by decide +kernel
theorem dX6_isAhead_43 : decode cX6_isAhead 43 = .ok (.iconst 0, 1) := by decide +kernel
theorem dX6_isAhead_44 : decode cX6_isAhead 44 = .ok (.ireturn, 1) := by decide +kernel
theorem dX6_isAhead_45 : decode cX6_isAhead 45 = .ok (.aload_n 3, 1) := by decide +kernel
theorem dX6_isAhead_46 : decode cX6_isAhead 46 = .ok (.invokevirtual 124, 3) := by decide +kernel
theorem dX6_isAhead_49 : decode cX6_isAhead 49 = .ok (.aload 4, 2) := by decide +kernel
theorem dX6_isAhead_51 : decode cX6_isAhead 51 = .ok (.invokevirtual 124, 3) := by decide +kernel
theorem dX6_isAhead_54 : decode cX6_isAhead 54 = .ok (.if_icmp .eq 21, 3) := by decide +kernel
theorem dX6_isAhead_57 : decode cX6_isAhead 57 = .ok (.aload_n 3, 1) := by decide +kernel
theorem dX6_isAhead_58 : decode cX6_isAhead 58 = .ok (.invokevirtual 124, 3) := by decide +kernel
theorem dX6_isAhead_61 : decode cX6_isAhead 61 = .ok (.aload 4, 2) := by decide +kernel
theorem dX6_isAhead_63 : decode cX6_isAhead 63 = .ok (.invokevirtual 124, 3) := by decide +kernel
theorem dX6_isAhead_66 : decode cX6_isAhead 66 = .ok (.if_icmp .le 7, 3) := by decide +kernel
theorem dX6_isAhead_69 : decode cX6_isAhead 69 = .ok (.iconst 1, 1) := by decide +kernel
theorem dX6_isAhead_70 : decode cX6_isAhead 70 = .ok (.goto 4, 3) := by decide +kernel
theorem dX6_isAhead_73 : decode cX6_isAhead 73 = .ok (.iconst 0, 1) := by decide +kernel
theorem dX6_isAhead_74 : decode cX6_isAhead 74 = .ok (.ireturn, 1) := by decide +kernel
theorem dX6_isAhead_75 : decode cX6_isAhead 75 = .ok (.iload_n 1, 1) := by decide +kernel
theorem dX6_isAhead_76 : decode cX6_isAhead 76 = .ok (.iload_n 2, 1) := by decide +kernel
theorem dX6_isAhead_77 : decode cX6_isAhead 77 = .ok (.if_icmp .ge 7, 3) := by decide +kernel
theorem dX6_isAhead_80 : decode cX6_isAhead 80 = .ok (.iconst 1, 1) := by decide +kernel
theorem dX6_isAhead_81 : decode cX6_isAhead 81 = .ok (.goto 4, 3) := by decide +kernel
theorem dX6_isAhead_84 : decode cX6_isAhead 84 = .ok (.iconst 0, 1) := by decide +kernel
theorem dX6_isAhead_85 : decode cX6_isAhead 85 = .ok (.ireturn, 1) := by decide +kernel
theorem dX6_firstSure_0 : decode cX6_firstSure 0 = .ok (.aload_n 0, 1) := by decide +kernel
theorem dX6_firstSure_1 : decode cX6_firstSure 1 = .ok (.getfield 54, 3) := by decide +kernel
theorem dX6_firstSure_4 : decode cX6_firstSure 4 = .ok (.aload_n 0, 1) := by decide +kernel
theorem dX6_firstSure_5 : decode cX6_firstSure 5 = .ok (.getfield 34, 3) := by decide +kernel
theorem dX6_firstSure_8 : decode cX6_firstSure 8 = .ok (.iload_n 1, 1) := by decide +kernel
theorem dX6_firstSure_9 : decode cX6_firstSure 9 = .ok (.aaload, 1) := by decide +kernel
theorem dX6_firstSure_10 : decode cX6_firstSure 10 = .ok (.aload_n 0, 1) := by decide +kernel
theorem dX6_firstSure_11 : decode cX6_firstSure 11 = .ok (.getfield 23, 3) := by decide +kernel
theorem dX6_firstSure_14 : decode cX6_firstSure 14 = .ok (.invokevirtual 225, 3) := by decide +kernel
theorem dX6_firstSure_17 : decode cX6_firstSure 17 = .ok (.istore_n 2, 1) := by decide +kernel
theorem dX6_firstSure_18 : decode cX6_firstSure 18 = .ok (.iload_n 2, 1) := by decide +kernel
theorem dX6_firstSure_19 : decode cX6_firstSure 19 = .ok (.iconst (-1), 1) := by decide +kernel
theorem dX6_firstSure_20 : decode cX6_firstSure 20 = .ok (.if_icmp .ne 5, 3) := by decide +kernel
theorem dX6_firstSure_23 : decode cX6_firstSure 23 = .ok (.iconst (-1), 1) := by decide +kernel
theorem dX6_firstSure_24 : decode cX6_firstSure 24 = .ok (.ireturn, 1) := by decide +kernel
theorem dX6_firstSure_25 : decode cX6_firstSure 25 = .ok (.iconst 0, 1) := by decide +kernel
theorem dX6_firstSure_26 : decode cX6_firstSure 26 = .ok (.istore_n 3, 1) := by decide +kernel
theorem dX6_firstSure_27 : decode cX6_firstSure 27 = .ok (.iconst 0, 1) := by decide +kernel
theorem dX6_firstSure_28 : decode cX6_firstSure 28 = .ok (.istore 4, 2) := by decide +kernel
theorem dX6_firstSure_30 : decode cX6_firstSure 30 = .ok (.iload 4, 2) := by decide +kernel
theorem dX6_firstSure_32 : decode cX6_firstSure 32 = .ok (.aload_n 0, 1) := by decide +kernel
theorem dX6_firstSure_33 : decode cX6_firstSure 33 = .ok (.getfield 42, 3) := by decide +kernel
theorem dX6_firstSure_36 : decode cX6_firstSure 36 = .ok (.if_icmp .ge 66, 3) := by decide +kernel
theorem dX6_firstSure_39 : decode cX6_firstSure 39 = .ok (.iload_n 3, 1) := by decide +kernel
theorem dX6_firstSure_40 : decode cX6_firstSure 40 = .ok (.iload_n 2, 1) := by decide +kernel
theorem dX6_firstSure_41 : decode cX6_firstSure 41 = .ok (.if_icmp .gt 61, 3) := by decide +kernel
theorem dX6_firstSure_44 : decode cX6_firstSure 44 = .ok (.iload 4, 2) := by decide +kernel
theorem dX6_firstSure_46 : decode cX6_firstSure 46 = .ok (.iload_n 1, 1) := by decide +kernel
theorem dX6_firstSure_47 : decode cX6_firstSure 47 = .ok (.if_icmp .eq 49, 3) := by decide +kernel
theorem dX6_firstSure_50 : decode cX6_firstSure 50 = .ok (.aload_n 0, 1) := by decide +kernel
theorem dX6_firstSure_51 : decode cX6_firstSure 51 = .ok (.getfield 54, 3) := by decide +kernel
theorem dX6_firstSure_54 : decode cX6_firstSure 54 = .ok (.aload_n 0, 1) := by decide +kernel
theorem dX6_firstSure_55 : decode cX6_firstSure 55 = .ok (.getfield 34, 3) := by decide +kernel
theorem dX6_firstSure_58 : decode cX6_firstSure 58 = .ok (.iload_n 1, 1) := by decide +kernel
theorem dX6_firstSure_59 : decode cX6_firstSure 59 = .ok (.aaload, 1) := by decide +kernel
theorem dX6_firstSure_60 : decode cX6_firstSure 60 = .ok (.aload_n 0, 1) := by decide +kernel
theorem dX6_firstSure_61 : decode cX6_firstSure 61 = .ok (.getfield 34, 3) := by decide +kernel
theorem dX6_firstSure_64 : decode cX6_firstSure 64 = .ok (.iload 4, 2) := by decide +kernel
theorem dX6_firstSure_66 : decode cX6_firstSure 66 = .ok (.aaload, 1) := by decide +kernel
theorem dX6_firstSure_67 : decode cX6_firstSure 67 = .ok (.aload_n 0, 1) := by decide +kernel
theorem dX6_firstSure_68 : decode cX6_firstSure 68 = .ok (.getfield 23, 3) := by decide +kernel
theorem dX6_firstSure_71 : decode cX6_firstSure 71 = .ok (.iload 4, 2) := by decide +kernel
theorem dX6_firstSure_73 : decode cX6_firstSure 73 = .ok (.iload_n 1, 1) := by decide +kernel
theorem dX6_firstSure_74 : decode cX6_firstSure 74 = .ok (.if_icmp .ge 7, 3) := by decide +kernel
theorem dX6_firstSure_77 : decode cX6_firstSure 77 = .ok (.iconst 1, 1) := by decide +kernel
theorem dX6_firstSure_78 : decode cX6_firstSure 78 = .ok (.goto 4, 3) := by decide +kernel
theorem dX6_firstSure_81 : decode cX6_firstSure 81 = .ok (.iconst 0, 1) := by decide +kernel
theorem dX6_firstSure_82 : decode cX6_firstSure 82 = .ok (.invokevirtual 229, 3) := by decide +kernel
theorem dX6_firstSure_85 : decode cX6_firstSure 85 = .ok (.istore 5, 2) := by decide +kernel
theorem dX6_firstSure_87 : decode cX6_firstSure 87 = .ok (.iload_n 3, 1) := by decide +kernel
theorem dX6_firstSure_88 : decode cX6_firstSure 88 = .ok (.iload 5, 2) := by decide +kernel
theorem dX6_firstSure_90 : decode cX6_firstSure 90 = .ok (.iconst 1, 1) := by decide +kernel
theorem dX6_firstSure_91 : decode cX6_firstSure 91 = .ok (.iadd, 1) := by decide +kernel
theorem dX6_firstSure_92 : decode cX6_firstSure 92 = .ok (.invokestatic 233, 3) := by decide +kernel
theorem dX6_firstSure_95 : decode cX6_firstSure 95 = .ok (.istore_n 3, 1) := by decide +kernel
theorem dX6_firstSure_96 : decode cX6_firstSure 96 = .ok (.iinc 4 1, 3) := by decide +kernel
theorem dX6_firstSure_99 : decode cX6_firstSure 99 = .ok (.goto (-69), 3) := by decide +kernel
theorem dX6_firstSure_102 : decode cX6_firstSure 102 = .ok (.iload_n 3, 1) := by decide +kernel
theorem dX6_firstSure_103 : decode cX6_firstSure 103 = .ok (.iload_n 2, 1) := by decide +kernel
theorem dX6_firstSure_104 : decode cX6_firstSure 104 = .ok (.if_icmp .gt 7, 3) := by decide +kernel
theorem dX6_firstSure_107 : decode cX6_firstSure 107 = .ok (.iload_n 3, 1) := by decide +kernel
theorem dX6_firstSure_108 : decode cX6_firstSure 108 = .ok (.goto 4, 3) := by decide +kernel
theorem dX6_firstSure_111 : decode cX6_firstSure 111 = .ok (.iconst (-1), 1) := by decide +kernel
theorem dX6_firstSure_112 : decode cX6_firstSure 112 = .ok (.ireturn, 1) := by decide +kernel
theorem dX7_init_0 : decode cX7_init 0 = .ok (.aload_n 0, 1) := by decide +kernel
theorem dX7_init_1 : decode cX7_init 1 = .ok (.invokespecial 1, 3) := by decide +kernel
theorem dX7_init_4 : decode cX7_init 4 = .ok (.aload_n 0, 1) := by decide +kernel
theorem dX7_init_5 : decode cX7_init 5 = .ok (.iconst 4, 1) := by decide +kernel
theorem dX7_init_6 : decode cX7_init 6 = .ok (.newarray .int, 2) := by decide +kernel
theorem dX7_init_8 : decode cX7_init 8 = .ok (.putfield 7, 3) := by decide +kernel
theorem dX7_init_11 : decode cX7_init 11 = .ok (.aload_n 0, 1) := by decide +kernel
theorem dX7_init_12 : decode cX7_init 12 = .ok (.iconst 4, 1) := by decide +kernel
theorem dX7_init_13 : decode cX7_init 13 = .ok (.newarray .int, 2) := by decide +kernel
theorem dX7_init_15 : decode cX7_init 15 = .ok (.putfield 13, 3) := by decide +kernel
theorem dX7_init_18 : decode cX7_init 18 = .ok (.aload_n 0, 1) := by decide +kernel
theorem dX7_init_19 : decode cX7_init 19 = .ok (.bipush 64, 2) := by decide +kernel
theorem dX7_init_21 : decode cX7_init 21 = .ok (.newarray .int, 2) := by decide +kernel
theorem dX7_init_23 : decode cX7_init 23 = .ok (.putfield 16, 3) := by decide +kernel
theorem dX7_init_26 : decode cX7_init 26 = .ok (.aload_n 0, 1) := by decide +kernel
theorem dX7_init_27 : decode cX7_init 27 = .ok (.bipush 16, 2) := by decide +kernel
theorem dX7_init_29 : decode cX7_init 29 = .ok (.newarray .int, 2) := by decide +kernel
theorem dX7_init_31 : decode cX7_init 31 = .ok (.putfield 19, 3) := by decide +kernel
theorem dX7_init_34 : decode cX7_init 34 = .ok (.aload_n 0, 1) := by decide +kernel
theorem dX7_init_35 : decode cX7_init 35 = .ok (.bipush 40, 2) := by decide +kernel
theorem dX7_init_37 : decode cX7_init 37 = .ok (.putfield 22, 3) := by decide +kernel
theorem dX7_init_40 : decode cX7_init 40 = .ok (.aload_n 0, 1) := by decide +kernel
theorem dX7_init_41 : decode cX7_init 41 = .ok (.bipush 40, 2) := by decide +kernel
theorem dX7_init_43 : decode cX7_init 43 = .ok (.newarray .int, 2) := by decide +kernel
theorem dX7_init_45 : decode cX7_init 45 = .ok (.putfield 26, 3) := by decide +kernel
theorem dX7_init_48 : decode cX7_init 48 = .ok (.aload_n 0, 1) := by decide +kernel
theorem dX7_init_49 : decode cX7_init 49 = .ok (.bipush 40, 2) := by decide +kernel
theorem dX7_init_51 : decode cX7_init 51 = .ok (.newarray .int, 2) := by decide +kernel
theorem dX7_init_53 : decode cX7_init 53 = .ok (.putfield 29, 3) := by decide +kernel
theorem dX7_init_56 : decode cX7_init 56 = .ok (.aload_n 0, 1) := by decide +kernel
theorem dX7_init_57 : decode cX7_init 57 = .ok (.iconst 4, 1) := by decide +kernel
theorem dX7_init_58 : decode cX7_init 58 = .ok (.newarray .int, 2) := by decide +kernel
theorem dX7_init_60 : decode cX7_init 60 = .ok (.putfield 32, 3) := by decide +kernel
theorem dX7_init_63 : decode cX7_init 63 = .ok (.aload_n 0, 1) := by decide +kernel
theorem dX7_init_64 : decode cX7_init 64 = .ok (.sipush 225, 3) := by decide +kernel
theorem dX7_init_67 : decode cX7_init 67 = .ok (.newarray .int, 2) := by decide +kernel
theorem dX7_init_69 : decode cX7_init 69 = .ok (.putfield 35, 3) := by decide +kernel
theorem dX7_init_72 : decode cX7_init 72 = .ok (.aload_n 0, 1) := by decide +kernel
theorem dX7_init_73 : decode cX7_init 73 = .ok (.sipush 225, 3) := by decide +kernel
theorem dX7_init_76 : decode cX7_init 76 = .ok (.newarray .int, 2) := by decide +kernel
theorem dX7_init_78 : decode cX7_init 78 = .ok (.putfield 38, 3) := by decide +kernel
theorem dX7_init_81 : decode cX7_init 81 = .ok (.aload_n 0, 1) := by decide +kernel
theorem dX7_init_82 : decode cX7_init 82 = .ok (.bipush 41, 2) := by decide +kernel
theorem dX7_init_84 : decode cX7_init 84 = .ok (.newarray .boolean, 2) := by decide +kernel
theorem dX7_init_86 : decode cX7_init 86 = .ok (.putfield 41, 3) := by decide +kernel
theorem dX7_init_89 : decode cX7_init 89 = .ok (.aload_n 0, 1) := by decide +kernel
theorem dX7_init_90 : decode cX7_init 90 = .ok (.iconst 5, 1) := by decide +kernel
theorem dX7_init_91 : decode cX7_init 91 = .ok (.newarray .boolean, 2) := by decide +kernel
theorem dX7_init_93 : decode cX7_init 93 = .ok (.putfield 45, 3) := by decide +kernel
theorem dX7_init_96 : decode cX7_init 96 = .ok (.aload_n 0, 1) := by decide +kernel
theorem dX7_init_97 : decode cX7_init 97 = .ok (.iconst 5, 1) := by decide +kernel
theorem dX7_init_98 : decode cX7_init 98 = .ok (.newarray .boolean, 2) := by decide +kernel
theorem dX7_init_100 : decode cX7_init 100 = .ok (.putfield 48, 3) := by decide +kernel
theorem dX7_init_103 : decode cX7_init 103 = .ok (.aload_n 0, 1) := by decide +kernel
theorem dX7_init_104 : decode cX7_init 104 = .ok (.iconst 5, 1) := by decide +kernel
theorem dX7_init_105 : decode cX7_init 105 = .ok (.newarray .int, 2) := by decide +kernel
theorem dX7_init_107 : decode cX7_init 107 = .ok (.putfield 51, 3) := by decide +kernel
theorem dX7_init_110 : decode cX7_init 110 = .ok (.aload_n 0, 1) := by decide +kernel
theorem dX7_init_111 : decode cX7_init 111 = .ok (.iconst 5, 1) := by decide +kernel
theorem dX7_init_112 : decode cX7_init 112 = .ok (.newarray .int, 2) := by decide +kernel
theorem dX7_init_114 : decode cX7_init 114 = .ok (.putfield 54, 3) := by decide +kernel
theorem dX7_init_117 : decode cX7_init 117 = .ok (.aload_n 0, 1) := by decide +kernel
theorem dX7_init_118 : decode cX7_init 118 = .ok (.bipush 31, 2) := by decide +kernel
theorem dX7_init_120 : decode cX7_init 120 = .ok (.newarray .int, 2) := by decide +kernel
theorem dX7_init_122 : decode cX7_init 122 = .ok (.putfield 57, 3) := by decide +kernel
theorem dX7_init_125 : decode cX7_init 125 = .ok (.aload_n 0, 1) := by decide +kernel
theorem dX7_init_126 : decode cX7_init 126 = .ok (.bipush 41, 2) := by decide +kernel
theorem dX7_init_128 : decode cX7_init 128 = .ok (.newarray .int, 2) := by decide +kernel
theorem dX7_init_130 : decode cX7_init 130 = .ok (.putfield 60, 3) := by decide +kernel
theorem dX7_init_133 : decode cX7_init 133 = .ok (.aload_n 0, 1) := by decide +kernel
theorem dX7_init_134 : decode cX7_init 134 = .ok (.bipush 41, 2) := by decide +kernel
theorem dX7_init_136 : decode cX7_init 136 = .ok (.newarray .int, 2) := by decide +kernel
theorem dX7_init_138 : decode cX7_init 138 = .ok (.putfield 63, 3) := by decide +kernel
theorem dX7_init_141 : decode cX7_init 141 = .ok (.aload_n 0, 1) := by decide +kernel
theorem dX7_init_142 : decode cX7_init 142 = .ok (.bipush 41, 2) := by decide +kernel
theorem dX7_init_144 : decode cX7_init 144 = .ok (.newarray .int, 2) := by decide +kernel
theorem dX7_init_146 : decode cX7_init 146 = .ok (.putfield 66, 3) := by decide +kernel
theorem dX7_init_149 : decode cX7_init 149 = .ok (.aload_n 0, 1) := by decide +kernel
theorem dX7_init_150 : decode cX7_init 150 = .ok (.bipush 41, 2) := by decide +kernel
theorem dX7_init_152 : decode cX7_init 152 = .ok (.newarray .int, 2) := by decide +kernel
theorem dX7_init_154 : decode cX7_init 154 = .ok (.putfield 69, 3) := by decide +kernel
theorem dX7_init_157 : decode cX7_init 157 = .ok (.aload_n 0, 1) := by decide +kernel
theorem dX7_init_158 : decode cX7_init 158 = .ok (.bipush 41, 2) := by decide +kernel
theorem dX7_init_160 : decode cX7_init 160 = .ok (.newarray .int, 2) := by decide +kernel
theorem dX7_init_162 : decode cX7_init 162 = .ok (.putfield 72, 3) := by decide +kernel
theorem dX7_init_165 : decode cX7_init 165 = .ok (.return_, 1) := by decide +kernel
theorem dX7_within_0 : decode cX7_within 0 = .ok (.iload_n 0, 1) := by decide +kernel
theorem dX7_within_1 : decode cX7_within 1 = .ok (.iload_n 1, 1) := by decide +kernel
theorem dX7_within_2 : decode cX7_within 2 = .ok (.if_icmp .lt 12, 3) := by decide +kernel
theorem dX7_within_5 : decode cX7_within 5 = .ok (.iload_n 0, 1) := by decide +kernel
theorem dX7_within_6 : decode cX7_within 6 = .ok (.iload_n 2, 1) := by decide +kernel
theorem dX7_within_7 : decode cX7_within 7 = .ok (.if_icmp .gt 7, 3) := by decide +kernel
theorem dX7_within_10 : decode cX7_within 10 = .ok (.iconst 1, 1) := by decide +kernel
theorem dX7_within_11 : decode cX7_within 11 = .ok (.goto 4, 3) := by decide +kernel
theorem dX7_within_14 : decode cX7_within 14 = .ok (.iconst 0, 1) := by decide +kernel
theorem dX7_within_15 : decode cX7_within 15 = .ok (.ireturn, 1) := by decide +kernel
theorem dX7_letter_0 : decode cX7_letter 0 = .ok (.iload_n 1, 1) := by decide +kernel
theorem dX7_letter_1 : decode cX7_letter 1 = .ok (.bipush 32, 2) := by decide +kernel
theorem dX7_letter_3 : decode cX7_letter 3 = .ok (.bipush 126, 2) := by decide +kernel
theorem dX7_letter_5 : decode cX7_letter 5 = .ok (.invokestatic 75, 3) := by decide +kernel
theorem dX7_letter_8 : decode cX7_letter 8 = .ok (.ifCond .ne 6, 3) := by decide +kernel
theorem dX7_letter_11 : decode cX7_letter 11 = .ok (.bipush (-102), 2) := by decide +kernel
theorem dX7_letter_13 : decode cX7_letter 13 = .ok (.ireturn, 1) := by decide +kernel
theorem dX7_letter_14 : decode cX7_letter 14 = .ok (.aload_n 0, 1) := by decide +kernel
theorem dX7_letter_15 : decode cX7_letter 15 = .ok (.getfield 79, 3) := by decide +kernel
theorem dX7_letter_18 : decode cX7_letter 18 = .ok (.bipush 40, 2) := by decide +kernel
theorem dX7_letter_20 : decode cX7_letter 20 = .ok (.if_icmp .ne 6, 3) := by decide +kernel
theorem dX7_letter_23 : decode cX7_letter 23 = .ok (.bipush (-104), 2) := by decide +kernel
theorem dX7_letter_25 : decode cX7_letter 25 = .ok (.ireturn, 1) := by decide +kernel
theorem dX7_letter_26 : decode cX7_letter 26 = .ok (.aload_n 0, 1) := by decide +kernel
theorem dX7_letter_27 : decode cX7_letter 27 = .ok (.getfield 29, 3) := by decide +kernel
theorem dX7_letter_30 : decode cX7_letter 30 = .ok (.aload_n 0, 1) := by decide +kernel
theorem dX7_letter_31 : decode cX7_letter 31 = .ok (.getfield 79, 3) := by decide +kernel
theorem dX7_letter_34 : decode cX7_letter 34 = .ok (.iload_n 1, 1) := by decide +kernel
theorem dX7_letter_35 : decode cX7_letter 35 = .ok (.iastore, 1) := by decide +kernel
theorem dX7_letter_36 : decode cX7_letter 36 = .ok (.aload_n 0, 1) := by decide +kernel
theorem dX7_letter_37 : decode cX7_letter 37 = .ok (.dup, 1) := by decide +kernel
theorem dX7_letter_38 : decode cX7_letter 38 = .ok (.getfield 79, 3) := by decide +kernel
theorem dX7_letter_41 : decode cX7_letter 41 = .ok (.iconst 1, 1) := by decide +kernel
theorem dX7_letter_42 : decode cX7_letter 42 = .ok (.iadd, 1) := by decide +kernel
theorem dX7_letter_43 : decode cX7_letter 43 = .ok (.putfield 79, 3) := by decide +kernel
theorem dX7_letter_46 : decode cX7_letter 46 = .ok (.aload_n 0, 1) := by decide +kernel
theorem dX7_letter_47 : decode cX7_letter 47 = .ok (.getfield 79, 3) := by decide +kernel
theorem dX7_letter_50 : decode cX7_letter 50 = .ok (.ireturn, 1) := by decide +kernel
theorem dX7_blank_0 : decode cX7_blank 0 = .ok (.aload_n 0, 1) := by decide +kernel
theorem dX7_blank_1 : decode cX7_blank 1 = .ok (.getfield 79, 3) := by decide +kernel
theorem dX7_blank_4 : decode cX7_blank 4 = .ok (.istore_n 1, 1) := by decide +kernel
theorem dX7_blank_5 : decode cX7_blank 5 = .ok (.aload_n 0, 1) := by decide +kernel
theorem dX7_blank_6 : decode cX7_blank 6 = .ok (.iconst 0, 1) := by decide +kernel
theorem dX7_blank_7 : decode cX7_blank 7 = .ok (.putfield 79, 3) := by decide +kernel
theorem dX7_blank_10 : decode cX7_blank 10 = .ok (.iload_n 1, 1) := by decide +kernel
theorem dX7_blank_11 : decode cX7_blank 11 = .ok (.ireturn, 1) := by decide +kernel
theorem dX7_kindBy_0 : decode cX7_kindBy 0 = .ok (.iload_n 0, 1) := by decide +kernel
theorem dX7_kindBy_1 : decode cX7_kindBy 1 = .ok (.lookupswitch 51 #[(99, 47), (102, 43), (112, 45), (116, 49)], 43) := by decide +kernel
theorem dX7_kindBy_44 : decode cX7_kindBy 44 = .ok (.iconst 0, 1) := by decide +kernel
theorem dX7_kindBy_45 : decode cX7_kindBy 45 = .ok (.ireturn, 1) := by decide +kernel
theorem dX7_kindBy_46 : decode cX7_kindBy 46 = .ok (.iconst 1, 1) := by decide +kernel
theorem dX7_kindBy_47 : decode cX7_kindBy 47 = .ok (.ireturn, 1) := by decide +kernel
theorem dX7_kindBy_48 : decode cX7_kindBy 48 = .ok (.iconst 2, 1) := by decide +kernel
theorem dX7_kindBy_49 : decode cX7_kindBy 49 = .ok (.ireturn, 1) := by decide +kernel
theorem dX7_kindBy_50 : decode cX7_kindBy 50 = .ok (.iconst 3, 1) := by decide +kernel
theorem dX7_kindBy_51 : decode cX7_kindBy 51 = .ok (.ireturn, 1) := by decide +kernel
theorem dX7_kindBy_52 : decode cX7_kindBy 52 = .ok (.iconst (-1), 1) := by decide +kernel
theorem dX7_kindBy_53 : decode cX7_kindBy 53 = .ok (.ireturn, 1) := by decide +kernel
theorem dX7_markBy_0 : decode cX7_markBy 0 = .ok (.iload_n 1, 1) := by decide +kernel
theorem dX7_markBy_1 : decode cX7_markBy 1 = .ok (.lookupswitch 109 #[(33, 79), (43, 97), (97, 75), (98, 77), (99, 81), (100, 81), (101, 81), (102, 81)], 75) := by decide +kernel
theorem dX7_markBy_76 : decode cX7_markBy 76 = .ok (.iconst 0, 1) := by decide +kernel
theorem dX7_markBy_77 : decode cX7_markBy 77 = .ok (.ireturn, 1) := by decide +kernel
theorem dX7_markBy_78 : decode cX7_markBy 78 = .ok (.iconst 1, 1) := by decide +kernel
theorem dX7_markBy_79 : decode cX7_markBy 79 = .ok (.ireturn, 1) := by decide +kernel
theorem dX7_markBy_80 : decode cX7_markBy 80 = .ok (.iconst 2, 1) := by decide +kernel
theorem dX7_markBy_81 : decode cX7_markBy 81 = .ok (.ireturn, 1) := by decide +kernel
theorem dX7_markBy_82 : decode cX7_markBy 82 = .ok (.iload_n 0, 1) := by decide +kernel
theorem dX7_markBy_83 : decode cX7_markBy 83 = .ok (.iconst 2, 1) := by decide +kernel
theorem dX7_markBy_84 : decode cX7_markBy 84 = .ok (.if_icmp .ne 12, 3) := by decide +kernel
theorem dX7_markBy_87 : decode cX7_markBy 87 = .ok (.iconst 3, 1) := by decide +kernel
theorem dX7_markBy_88 : decode cX7_markBy 88 = .ok (.iload_n 1, 1) := by decide +kernel
theorem dX7_markBy_89 : decode cX7_markBy 89 = .ok (.iadd, 1) := by decide +kernel
theorem dX7_markBy_90 : decode cX7_markBy 90 = .ok (.bipush 99, 2) := by decide +kernel
theorem dX7_markBy_92 : decode cX7_markBy 92 = .ok (.isub, 1) := by decide +kernel
theorem dX7_markBy_93 : decode cX7_markBy 93 = .ok (.goto 4, 3) := by decide +kernel
theorem dX7_markBy_96 : decode cX7_markBy 96 = .ok (.iconst (-1), 1) := by decide +kernel
theorem dX7_markBy_97 : decode cX7_markBy 97 = .ok (.ireturn, 1) := by decide +kernel
theorem dX7_markBy_98 : decode cX7_markBy 98 = .ok (.iload_n 0, 1) := by decide +kernel
theorem dX7_markBy_99 : decode cX7_markBy 99 = .ok (.iconst 2, 1) := by decide +kernel
theorem dX7_markBy_100 : decode cX7_markBy 100 = .ok (.if_icmp .ne 8, 3) := by decide +kernel
theorem dX7_markBy_103 : decode cX7_markBy 103 = .ok (.bipush 7, 2) := by decide +kernel
theorem dX7_markBy_105 : decode cX7_markBy 105 = .ok (.goto 4, 3) := by decide +kernel
theorem dX7_markBy_108 : decode cX7_markBy 108 = .ok (.iconst (-1), 1) := by decide +kernel
theorem dX7_markBy_109 : decode cX7_markBy 109 = .ok (.ireturn, 1) := by decide +kernel
theorem dX7_markBy_110 : decode cX7_markBy 110 = .ok (.iconst (-1), 1) := by decide +kernel
theorem dX7_markBy_111 : decode cX7_markBy 111 = .ok (.ireturn, 1) := by decide +kernel
theorem dX7_markLetter_0 : decode cX7_markLetter 0 = .ok (.iload_n 0, 1) := by decide +kernel
theorem dX7_markLetter_1 : decode cX7_markLetter 1 = .ok (.tableswitch 59 0 7 #[47, 50, 53, 59, 59, 59, 59, 56], 47) := by decide +kernel
theorem dX7_markLetter_48 : decode cX7_markLetter 48 = .ok (.bipush 97, 2) := by decide +kernel
theorem dX7_markLetter_50 : decode cX7_markLetter 50 = .ok (.ireturn, 1) := by decide +kernel
theorem dX7_markLetter_51 : decode cX7_markLetter 51 = .ok (.bipush 98, 2) := by decide +kernel
theorem dX7_markLetter_53 : decode cX7_markLetter 53 = .ok (.ireturn, 1) := by decide +kernel
theorem dX7_markLetter_54 : decode cX7_markLetter 54 = .ok (.bipush 33, 2) := by decide +kernel
theorem dX7_markLetter_56 : decode cX7_markLetter 56 = .ok (.ireturn, 1) := by decide +kernel
end
section
theorem dX7_markLetter_57 : decode cX7_markLetter 57 = .ok (.bipush 43, 2) := by decide +kernel
theorem dX7_markLetter_59 : decode cX7_markLetter 59 = .ok (.ireturn, 1) := by decide +kernel
theorem dX7_markLetter_60 : decode cX7_markLetter 60 = .ok (.bipush 99, 2) := by decide +kernel
theorem dX7_markLetter_62 : decode cX7_markLetter 62 = .ok (.iload_n 0, 1) := by decide +kernel
theorem dX7_markLetter_63 : decode cX7_markLetter 63 = .ok (.iadd, 1) := by decide +kernel
theorem dX7_markLetter_64 : decode cX7_markLetter 64 = .ok (.iconst 3, 1) := by decide +kernel
theorem dX7_markLetter_65 : decode cX7_markLetter 65 = .ok (.isub, 1) := by decide +kernel
theorem dX7_markLetter_66 : decode cX7_markLetter 66 = .ok (.ireturn, 1) := by decide +kernel
theorem dX7_digitsOf_0 : decode cX7_digitsOf 0 = .ok (.iload_n 0, 1) := by decide +kernel
theorem dX7_digitsOf_1 : decode cX7_digitsOf 1 = .ok (.iconst 1, 1) := by decide +kernel
theorem dX7_digitsOf_2 : decode cX7_digitsOf 2 = .ok (.if_icmp .eq 8, 3) := by decide +kernel
theorem dX7_digitsOf_5 : decode cX7_digitsOf 5 = .ok (.iload_n 0, 1) := by decide +kernel
theorem dX7_digitsOf_6 : decode cX7_digitsOf 6 = .ok (.iconst 3, 1) := by decide +kernel
theorem dX7_digitsOf_7 : decode cX7_digitsOf 7 = .ok (.if_icmp .ne 7, 3) := by decide +kernel
theorem dX7_digitsOf_10 : decode cX7_digitsOf 10 = .ok (.iconst 1, 1) := by decide +kernel
theorem dX7_digitsOf_11 : decode cX7_digitsOf 11 = .ok (.goto 4, 3) := by decide +kernel
theorem dX7_digitsOf_14 : decode cX7_digitsOf 14 = .ok (.iconst 0, 1) := by decide +kernel
theorem dX7_digitsOf_15 : decode cX7_digitsOf 15 = .ok (.ireturn, 1) := by decide +kernel
theorem dX7_marksOf_0 : decode cX7_marksOf 0 = .ok (.iload_n 0, 1) := by decide +kernel
theorem dX7_marksOf_1 : decode cX7_marksOf 1 = .ok (.iconst 3, 1) := by decide +kernel
theorem dX7_marksOf_2 : decode cX7_marksOf 2 = .ok (.if_icmp .ne 8, 3) := by decide +kernel
theorem dX7_marksOf_5 : decode cX7_marksOf 5 = .ok (.bipush 16, 2) := by decide +kernel
theorem dX7_marksOf_7 : decode cX7_marksOf 7 = .ok (.goto 5, 3) := by decide +kernel
theorem dX7_marksOf_10 : decode cX7_marksOf 10 = .ok (.bipush 8, 2) := by decide +kernel
theorem dX7_marksOf_12 : decode cX7_marksOf 12 = .ok (.ireturn, 1) := by decide +kernel
theorem dX7_lettersOf_0 : decode cX7_lettersOf 0 = .ok (.iconst 1, 1) := by decide +kernel
theorem dX7_lettersOf_1 : decode cX7_lettersOf 1 = .ok (.iload_n 0, 1) := by decide +kernel
theorem dX7_lettersOf_2 : decode cX7_lettersOf 2 = .ok (.invokestatic 82, 3) := by decide +kernel
theorem dX7_lettersOf_5 : decode cX7_lettersOf 5 = .ok (.iadd, 1) := by decide +kernel
theorem dX7_lettersOf_6 : decode cX7_lettersOf 6 = .ok (.iload_n 0, 1) := by decide +kernel
theorem dX7_lettersOf_7 : decode cX7_lettersOf 7 = .ok (.invokestatic 86, 3) := by decide +kernel
theorem dX7_lettersOf_10 : decode cX7_lettersOf 10 = .ok (.iadd, 1) := by decide +kernel
theorem dX7_lettersOf_11 : decode cX7_lettersOf 11 = .ok (.iconst 4, 1) := by decide +kernel
theorem dX7_lettersOf_12 : decode cX7_lettersOf 12 = .ok (.iadd, 1) := by decide +kernel
theorem dX7_lettersOf_13 : decode cX7_lettersOf 13 = .ok (.ireturn, 1) := by decide +kernel
theorem dX7_fitsAt_0 : decode cX7_fitsAt 0 = .ok (.iload_n 1, 1) := by decide +kernel
theorem dX7_fitsAt_1 : decode cX7_fitsAt 1 = .ok (.ifCond .ne 25, 3) := by decide +kernel
theorem dX7_fitsAt_4 : decode cX7_fitsAt 4 = .ok (.aload_n 0, 1) := by decide +kernel
theorem dX7_fitsAt_5 : decode cX7_fitsAt 5 = .ok (.iload_n 2, 1) := by decide +kernel
theorem dX7_fitsAt_6 : decode cX7_fitsAt 6 = .ok (.invokestatic 89, 3) := by decide +kernel
theorem dX7_fitsAt_9 : decode cX7_fitsAt 9 = .ok (.putfield 92, 3) := by decide +kernel
theorem dX7_fitsAt_12 : decode cX7_fitsAt 12 = .ok (.aload_n 0, 1) := by decide +kernel
theorem dX7_fitsAt_13 : decode cX7_fitsAt 13 = .ok (.getfield 92, 3) := by decide +kernel
theorem dX7_fitsAt_16 : decode cX7_fitsAt 16 = .ok (.iconst (-1), 1) := by decide +kernel
theorem dX7_fitsAt_17 : decode cX7_fitsAt 17 = .ok (.if_icmp .eq 7, 3) := by decide +kernel
theorem dX7_fitsAt_20 : decode cX7_fitsAt 20 = .ok (.iconst 1, 1) := by decide +kernel
theorem dX7_fitsAt_21 : decode cX7_fitsAt 21 = .ok (.goto 4, 3) := by decide +kernel
theorem dX7_fitsAt_24 : decode cX7_fitsAt 24 = .ok (.iconst 0, 1) := by decide +kernel
theorem dX7_fitsAt_25 : decode cX7_fitsAt 25 = .ok (.ireturn, 1) := by decide +kernel
theorem dX7_fitsAt_26 : decode cX7_fitsAt 26 = .ok (.iload_n 1, 1) := by decide +kernel
theorem dX7_fitsAt_27 : decode cX7_fitsAt 27 = .ok (.iconst 1, 1) := by decide +kernel
theorem dX7_fitsAt_28 : decode cX7_fitsAt 28 = .ok (.isub, 1) := by decide +kernel
theorem dX7_fitsAt_29 : decode cX7_fitsAt 29 = .ok (.aload_n 0, 1) := by decide +kernel
theorem dX7_fitsAt_30 : decode cX7_fitsAt 30 = .ok (.getfield 92, 3) := by decide +kernel
theorem dX7_fitsAt_33 : decode cX7_fitsAt 33 = .ok (.invokestatic 82, 3) := by decide +kernel
theorem dX7_fitsAt_36 : decode cX7_fitsAt 36 = .ok (.isub, 1) := by decide +kernel
theorem dX7_fitsAt_37 : decode cX7_fitsAt 37 = .ok (.istore_n 3, 1) := by decide +kernel
theorem dX7_fitsAt_38 : decode cX7_fitsAt 38 = .ok (.iload_n 3, 1) := by decide +kernel
theorem dX7_fitsAt_39 : decode cX7_fitsAt 39 = .ok (.ifCond .ge 25, 3) := by decide +kernel
theorem dX7_fitsAt_42 : decode cX7_fitsAt 42 = .ok (.iload_n 2, 1) := by decide +kernel
theorem dX7_fitsAt_43 : decode cX7_fitsAt 43 = .ok (.aload_n 0, 1) := by decide +kernel
theorem dX7_fitsAt_44 : decode cX7_fitsAt 44 = .ok (.getfield 92, 3) := by decide +kernel
theorem dX7_fitsAt_47 : decode cX7_fitsAt 47 = .ok (.iconst 1, 1) := by decide +kernel
theorem dX7_fitsAt_48 : decode cX7_fitsAt 48 = .ok (.if_icmp .ne 8, 3) := by decide +kernel
theorem dX7_fitsAt_51 : decode cX7_fitsAt 51 = .ok (.bipush 49, 2) := by decide +kernel
theorem dX7_fitsAt_53 : decode cX7_fitsAt 53 = .ok (.goto 5, 3) := by decide +kernel
theorem dX7_fitsAt_56 : decode cX7_fitsAt 56 = .ok (.bipush 48, 2) := by decide +kernel
theorem dX7_fitsAt_58 : decode cX7_fitsAt 58 = .ok (.bipush 55, 2) := by decide +kernel
theorem dX7_fitsAt_60 : decode cX7_fitsAt 60 = .ok (.invokestatic 75, 3) := by decide +kernel
theorem dX7_fitsAt_63 : decode cX7_fitsAt 63 = .ok (.ireturn, 1) := by decide +kernel
theorem dX7_fitsAt_64 : decode cX7_fitsAt 64 = .ok (.iload_n 3, 1) := by decide +kernel
theorem dX7_fitsAt_65 : decode cX7_fitsAt 65 = .ok (.aload_n 0, 1) := by decide +kernel
theorem dX7_fitsAt_66 : decode cX7_fitsAt 66 = .ok (.getfield 92, 3) := by decide +kernel
theorem dX7_fitsAt_69 : decode cX7_fitsAt 69 = .ok (.invokestatic 86, 3) := by decide +kernel
theorem dX7_fitsAt_72 : decode cX7_fitsAt 72 = .ok (.if_icmp .ge 21, 3) := by decide +kernel
theorem dX7_fitsAt_75 : decode cX7_fitsAt 75 = .ok (.aload_n 0, 1) := by decide +kernel
theorem dX7_fitsAt_76 : decode cX7_fitsAt 76 = .ok (.getfield 92, 3) := by decide +kernel
theorem dX7_fitsAt_79 : decode cX7_fitsAt 79 = .ok (.iload_n 2, 1) := by decide +kernel
theorem dX7_fitsAt_80 : decode cX7_fitsAt 80 = .ok (.invokestatic 95, 3) := by decide +kernel
theorem dX7_fitsAt_83 : decode cX7_fitsAt 83 = .ok (.iconst (-1), 1) := by decide +kernel
theorem dX7_fitsAt_84 : decode cX7_fitsAt 84 = .ok (.if_icmp .eq 7, 3) := by decide +kernel
theorem dX7_fitsAt_87 : decode cX7_fitsAt 87 = .ok (.iconst 1, 1) := by decide +kernel
theorem dX7_fitsAt_88 : decode cX7_fitsAt 88 = .ok (.goto 4, 3) := by decide +kernel
theorem dX7_fitsAt_91 : decode cX7_fitsAt 91 = .ok (.iconst 0, 1) := by decide +kernel
theorem dX7_fitsAt_92 : decode cX7_fitsAt 92 = .ok (.ireturn, 1) := by decide +kernel
theorem dX7_fitsAt_93 : decode cX7_fitsAt 93 = .ok (.iload_n 3, 1) := by decide +kernel
theorem dX7_fitsAt_94 : decode cX7_fitsAt 94 = .ok (.aload_n 0, 1) := by decide +kernel
theorem dX7_fitsAt_95 : decode cX7_fitsAt 95 = .ok (.getfield 92, 3) := by decide +kernel
theorem dX7_fitsAt_98 : decode cX7_fitsAt 98 = .ok (.invokestatic 86, 3) := by decide +kernel
theorem dX7_fitsAt_101 : decode cX7_fitsAt 101 = .ok (.iconst 4, 1) := by decide +kernel
theorem dX7_fitsAt_102 : decode cX7_fitsAt 102 = .ok (.iadd, 1) := by decide +kernel
theorem dX7_fitsAt_103 : decode cX7_fitsAt 103 = .ok (.if_icmp .ge 18, 3) := by decide +kernel
theorem dX7_fitsAt_106 : decode cX7_fitsAt 106 = .ok (.iload_n 2, 1) := by decide +kernel
theorem dX7_fitsAt_107 : decode cX7_fitsAt 107 = .ok (.bipush 48, 2) := by decide +kernel
theorem dX7_fitsAt_109 : decode cX7_fitsAt 109 = .ok (.bipush 57, 2) := by decide +kernel
theorem dX7_fitsAt_111 : decode cX7_fitsAt 111 = .ok (.invokestatic 75, 3) := by decide +kernel
theorem dX7_fitsAt_114 : decode cX7_fitsAt 114 = .ok (.ifCond .eq 7, 3) := by decide +kernel
theorem dX7_fitsAt_117 : decode cX7_fitsAt 117 = .ok (.iconst 1, 1) := by decide +kernel
theorem dX7_fitsAt_118 : decode cX7_fitsAt 118 = .ok (.goto 4, 3) := by decide +kernel
theorem dX7_fitsAt_121 : decode cX7_fitsAt 121 = .ok (.iconst 0, 1) := by decide +kernel
theorem dX7_fitsAt_122 : decode cX7_fitsAt 122 = .ok (.ireturn, 1) := by decide +kernel
theorem dX7_read_0 : decode cX7_read 0 = .ok (.iconst 0, 1) := by decide +kernel
theorem dX7_read_1 : decode cX7_read 1 = .ok (.istore_n 1, 1) := by decide +kernel
theorem dX7_read_2 : decode cX7_read 2 = .ok (.iload_n 1, 1) := by decide +kernel
theorem dX7_read_3 : decode cX7_read 3 = .ok (.aload_n 0, 1) := by decide +kernel
theorem dX7_read_4 : decode cX7_read 4 = .ok (.getfield 79, 3) := by decide +kernel
theorem dX7_read_7 : decode cX7_read 7 = .ok (.if_icmp .ge 23, 3) := by decide +kernel
theorem dX7_read_10 : decode cX7_read 10 = .ok (.aload_n 0, 1) := by decide +kernel
theorem dX7_read_11 : decode cX7_read 11 = .ok (.iload_n 1, 1) := by decide +kernel
theorem dX7_read_12 : decode cX7_read 12 = .ok (.aload_n 0, 1) := by decide +kernel
theorem dX7_read_13 : decode cX7_read 13 = .ok (.getfield 29, 3) := by decide +kernel
theorem dX7_read_16 : decode cX7_read 16 = .ok (.iload_n 1, 1) := by decide +kernel
theorem dX7_read_17 : decode cX7_read 17 = .ok (.iaload, 1) := by decide +kernel
theorem dX7_read_18 : decode cX7_read 18 = .ok (.invokevirtual 99, 3) := by decide +kernel
theorem dX7_read_21 : decode cX7_read 21 = .ok (.ifCond .eq 9, 3) := by decide +kernel
theorem dX7_read_24 : decode cX7_read 24 = .ok (.iinc 1 1, 3) := by decide +kernel
theorem dX7_read_27 : decode cX7_read 27 = .ok (.goto (-25), 3) := by decide +kernel
theorem dX7_read_30 : decode cX7_read 30 = .ok (.iload_n 1, 1) := by decide +kernel
theorem dX7_read_31 : decode cX7_read 31 = .ok (.ireturn, 1) := by decide +kernel
theorem dX7_fault_0 : decode cX7_fault 0 = .ok (.aload_n 0, 1) := by decide +kernel
theorem dX7_fault_1 : decode cX7_fault 1 = .ok (.invokevirtual 103, 3) := by decide +kernel
theorem dX7_fault_4 : decode cX7_fault 4 = .ok (.ireturn, 1) := by decide +kernel
theorem dX7_layCode_0 : decode cX7_layCode 0 = .ok (.iconst 1, 1) := by decide +kernel
theorem dX7_layCode_1 : decode cX7_layCode 1 = .ok (.aload_n 0, 1) := by decide +kernel
theorem dX7_layCode_2 : decode cX7_layCode 2 = .ok (.getfield 92, 3) := by decide +kernel
theorem dX7_layCode_5 : decode cX7_layCode 5 = .ok (.invokestatic 82, 3) := by decide +kernel
theorem dX7_layCode_8 : decode cX7_layCode 8 = .ok (.iadd, 1) := by decide +kernel
theorem dX7_layCode_9 : decode cX7_layCode 9 = .ok (.istore_n 2, 1) := by decide +kernel
theorem dX7_layCode_10 : decode cX7_layCode 10 = .ok (.aload_n 0, 1) := by decide +kernel
theorem dX7_layCode_11 : decode cX7_layCode 11 = .ok (.getfield 7, 3) := by decide +kernel
theorem dX7_layCode_14 : decode cX7_layCode 14 = .ok (.iload_n 1, 1) := by decide +kernel
theorem dX7_layCode_15 : decode cX7_layCode 15 = .ok (.aload_n 0, 1) := by decide +kernel
theorem dX7_layCode_16 : decode cX7_layCode 16 = .ok (.getfield 92, 3) := by decide +kernel
theorem dX7_layCode_19 : decode cX7_layCode 19 = .ok (.iastore, 1) := by decide +kernel
theorem dX7_layCode_20 : decode cX7_layCode 20 = .ok (.aload_n 0, 1) := by decide +kernel
theorem dX7_layCode_21 : decode cX7_layCode 21 = .ok (.getfield 13, 3) := by decide +kernel
theorem dX7_layCode_24 : decode cX7_layCode 24 = .ok (.iload_n 1, 1) := by decide +kernel
theorem dX7_layCode_25 : decode cX7_layCode 25 = .ok (.iload_n 2, 1) := by decide +kernel
theorem dX7_layCode_26 : decode cX7_layCode 26 = .ok (.iconst 2, 1) := by decide +kernel
theorem dX7_layCode_27 : decode cX7_layCode 27 = .ok (.if_icmp .ne 15, 3) := by decide +kernel
theorem dX7_layCode_30 : decode cX7_layCode 30 = .ok (.aload_n 0, 1) := by decide +kernel
theorem dX7_layCode_31 : decode cX7_layCode 31 = .ok (.getfield 29, 3) := by decide +kernel
theorem dX7_layCode_34 : decode cX7_layCode 34 = .ok (.iconst 1, 1) := by decide +kernel
theorem dX7_layCode_35 : decode cX7_layCode 35 = .ok (.iaload, 1) := by decide +kernel
theorem dX7_layCode_36 : decode cX7_layCode 36 = .ok (.bipush 48, 2) := by decide +kernel
theorem dX7_layCode_38 : decode cX7_layCode 38 = .ok (.isub, 1) := by decide +kernel
theorem dX7_layCode_39 : decode cX7_layCode 39 = .ok (.goto 4, 3) := by decide +kernel
theorem dX7_layCode_42 : decode cX7_layCode 42 = .ok (.iconst 0, 1) := by decide +kernel
theorem dX7_layCode_43 : decode cX7_layCode 43 = .ok (.iastore, 1) := by decide +kernel
theorem dX7_layCode_44 : decode cX7_layCode 44 = .ok (.iconst 0, 1) := by decide +kernel
theorem dX7_layCode_45 : decode cX7_layCode 45 = .ok (.istore_n 3, 1) := by decide +kernel
theorem dX7_layCode_46 : decode cX7_layCode 46 = .ok (.iload_n 3, 1) := by decide +kernel
theorem dX7_layCode_47 : decode cX7_layCode 47 = .ok (.bipush 16, 2) := by decide +kernel
theorem dX7_layCode_49 : decode cX7_layCode 49 = .ok (.if_icmp .ge 50, 3) := by decide +kernel
theorem dX7_layCode_52 : decode cX7_layCode 52 = .ok (.aload_n 0, 1) := by decide +kernel
theorem dX7_layCode_53 : decode cX7_layCode 53 = .ok (.getfield 16, 3) := by decide +kernel
theorem dX7_layCode_56 : decode cX7_layCode 56 = .ok (.bipush 16, 2) := by decide +kernel
theorem dX7_layCode_58 : decode cX7_layCode 58 = .ok (.iload_n 1, 1) := by decide +kernel
theorem dX7_layCode_59 : decode cX7_layCode 59 = .ok (.imul, 1) := by decide +kernel
theorem dX7_layCode_60 : decode cX7_layCode 60 = .ok (.iload_n 3, 1) := by decide +kernel
theorem dX7_layCode_61 : decode cX7_layCode 61 = .ok (.iadd, 1) := by decide +kernel
theorem dX7_layCode_62 : decode cX7_layCode 62 = .ok (.iload_n 3, 1) := by decide +kernel
theorem dX7_layCode_63 : decode cX7_layCode 63 = .ok (.aload_n 0, 1) := by decide +kernel
theorem dX7_layCode_64 : decode cX7_layCode 64 = .ok (.getfield 92, 3) := by decide +kernel
theorem dX7_layCode_67 : decode cX7_layCode 67 = .ok (.invokestatic 86, 3) := by decide +kernel
theorem dX7_layCode_70 : decode cX7_layCode 70 = .ok (.if_icmp .ge 21, 3) := by decide +kernel
theorem dX7_layCode_73 : decode cX7_layCode 73 = .ok (.aload_n 0, 1) := by decide +kernel
theorem dX7_layCode_74 : decode cX7_layCode 74 = .ok (.getfield 92, 3) := by decide +kernel
theorem dX7_layCode_77 : decode cX7_layCode 77 = .ok (.aload_n 0, 1) := by decide +kernel
theorem dX7_layCode_78 : decode cX7_layCode 78 = .ok (.getfield 29, 3) := by decide +kernel
theorem dX7_layCode_81 : decode cX7_layCode 81 = .ok (.iload_n 2, 1) := by decide +kernel
theorem dX7_layCode_82 : decode cX7_layCode 82 = .ok (.iload_n 3, 1) := by decide +kernel
theorem dX7_layCode_83 : decode cX7_layCode 83 = .ok (.iadd, 1) := by decide +kernel
theorem dX7_layCode_84 : decode cX7_layCode 84 = .ok (.iaload, 1) := by decide +kernel
theorem dX7_layCode_85 : decode cX7_layCode 85 = .ok (.invokestatic 95, 3) := by decide +kernel
theorem dX7_layCode_88 : decode cX7_layCode 88 = .ok (.goto 4, 3) := by decide +kernel
theorem dX7_layCode_91 : decode cX7_layCode 91 = .ok (.iconst 0, 1) := by decide +kernel
theorem dX7_layCode_92 : decode cX7_layCode 92 = .ok (.iastore, 1) := by decide +kernel
theorem dX7_layCode_93 : decode cX7_layCode 93 = .ok (.iinc 3 1, 3) := by decide +kernel
theorem dX7_layCode_96 : decode cX7_layCode 96 = .ok (.goto (-50), 3) := by decide +kernel
theorem dX7_layCode_99 : decode cX7_layCode 99 = .ok (.iconst 0, 1) := by decide +kernel
theorem dX7_layCode_100 : decode cX7_layCode 100 = .ok (.istore_n 3, 1) := by decide +kernel
theorem dX7_layCode_101 : decode cX7_layCode 101 = .ok (.iload_n 3, 1) := by decide +kernel
theorem dX7_layCode_102 : decode cX7_layCode 102 = .ok (.iconst 4, 1) := by decide +kernel
theorem dX7_layCode_103 : decode cX7_layCode 103 = .ok (.if_icmp .ge 38, 3) := by decide +kernel
theorem dX7_layCode_106 : decode cX7_layCode 106 = .ok (.aload_n 0, 1) := by decide +kernel
theorem dX7_layCode_107 : decode cX7_layCode 107 = .ok (.getfield 19, 3) := by decide +kernel
theorem dX7_layCode_110 : decode cX7_layCode 110 = .ok (.iconst 4, 1) := by decide +kernel
theorem dX7_layCode_111 : decode cX7_layCode 111 = .ok (.iload_n 1, 1) := by decide +kernel
theorem dX7_layCode_112 : decode cX7_layCode 112 = .ok (.imul, 1) := by decide +kernel
theorem dX7_layCode_113 : decode cX7_layCode 113 = .ok (.iload_n 3, 1) := by decide +kernel
theorem dX7_layCode_114 : decode cX7_layCode 114 = .ok (.iadd, 1) := by decide +kernel
theorem dX7_layCode_115 : decode cX7_layCode 115 = .ok (.aload_n 0, 1) := by decide +kernel
theorem dX7_layCode_116 : decode cX7_layCode 116 = .ok (.getfield 29, 3) := by decide +kernel
theorem dX7_layCode_119 : decode cX7_layCode 119 = .ok (.iload_n 2, 1) := by decide +kernel
theorem dX7_layCode_120 : decode cX7_layCode 120 = .ok (.aload_n 0, 1) := by decide +kernel
theorem dX7_layCode_121 : decode cX7_layCode 121 = .ok (.getfield 92, 3) := by decide +kernel
theorem dX7_layCode_124 : decode cX7_layCode 124 = .ok (.invokestatic 86, 3) := by decide +kernel
theorem dX7_layCode_127 : decode cX7_layCode 127 = .ok (.iadd, 1) := by decide +kernel
theorem dX7_layCode_128 : decode cX7_layCode 128 = .ok (.iload_n 3, 1) := by decide +kernel
theorem dX7_layCode_129 : decode cX7_layCode 129 = .ok (.iadd, 1) := by decide +kernel
theorem dX7_layCode_130 : decode cX7_layCode 130 = .ok (.iaload, 1) := by decide +kernel
theorem dX7_layCode_131 : decode cX7_layCode 131 = .ok (.bipush 48, 2) := by decide +kernel
theorem dX7_layCode_133 : decode cX7_layCode 133 = .ok (.isub, 1) := by decide +kernel
theorem dX7_layCode_134 : decode cX7_layCode 134 = .ok (.iastore, 1) := by decide +kernel
theorem dX7_layCode_135 : decode cX7_layCode 135 = .ok (.iinc 3 1, 3) := by decide +kernel
theorem dX7_layCode_138 : decode cX7_layCode 138 = .ok (.goto (-37), 3) := by decide +kernel
theorem dX7_layCode_141 : decode cX7_layCode 141 = .ok (.return_, 1) := by decide +kernel
theorem dX7_code_0 : decode cX7_code 0 = .ok (.aload_n 0, 1) := by decide +kernel
theorem dX7_code_1 : decode cX7_code 1 = .ok (.invokevirtual 103, 3) := by decide +kernel
theorem dX7_code_4 : decode cX7_code 4 = .ok (.aload_n 0, 1) := by decide +kernel
theorem dX7_code_5 : decode cX7_code 5 = .ok (.getfield 79, 3) := by decide +kernel
theorem dX7_code_8 : decode cX7_code 8 = .ok (.if_icmp .lt 24, 3) := by decide +kernel
theorem dX7_code_11 : decode cX7_code 11 = .ok (.aload_n 0, 1) := by decide +kernel
theorem dX7_code_12 : decode cX7_code 12 = .ok (.getfield 79, 3) := by decide +kernel
theorem dX7_code_15 : decode cX7_code 15 = .ok (.ifCond .eq 17, 3) := by decide +kernel
theorem dX7_code_18 : decode cX7_code 18 = .ok (.aload_n 0, 1) := by decide +kernel
theorem dX7_code_19 : decode cX7_code 19 = .ok (.getfield 79, 3) := by decide +kernel
theorem dX7_code_22 : decode cX7_code 22 = .ok (.aload_n 0, 1) := by decide +kernel
theorem dX7_code_23 : decode cX7_code 23 = .ok (.getfield 92, 3) := by decide +kernel
theorem dX7_code_26 : decode cX7_code 26 = .ok (.invokestatic 107, 3) := by decide +kernel
theorem dX7_code_29 : decode cX7_code 29 = .ok (.if_icmp .ge 6, 3) := by decide +kernel
theorem dX7_code_32 : decode cX7_code 32 = .ok (.bipush (-103), 2) := by decide +kernel
theorem dX7_code_34 : decode cX7_code 34 = .ok (.ireturn, 1) := by decide +kernel
theorem dX7_code_35 : decode cX7_code 35 = .ok (.aload_n 0, 1) := by decide +kernel
theorem dX7_code_36 : decode cX7_code 36 = .ok (.getfield 110, 3) := by decide +kernel
theorem dX7_code_39 : decode cX7_code 39 = .ok (.iconst 4, 1) := by decide +kernel
theorem dX7_code_40 : decode cX7_code 40 = .ok (.if_icmp .ne 6, 3) := by decide +kernel
theorem dX7_code_43 : decode cX7_code 43 = .ok (.bipush (-104), 2) := by decide +kernel
theorem dX7_code_45 : decode cX7_code 45 = .ok (.ireturn, 1) := by decide +kernel
theorem dX7_code_46 : decode cX7_code 46 = .ok (.aload_n 0, 1) := by decide +kernel
theorem dX7_code_47 : decode cX7_code 47 = .ok (.aload_n 0, 1) := by decide +kernel
theorem dX7_code_48 : decode cX7_code 48 = .ok (.getfield 110, 3) := by decide +kernel
theorem dX7_code_51 : decode cX7_code 51 = .ok (.invokevirtual 113, 3) := by decide +kernel
theorem dX7_code_54 : decode cX7_code 54 = .ok (.aload_n 0, 1) := by decide +kernel
theorem dX7_code_55 : decode cX7_code 55 = .ok (.dup, 1) := by decide +kernel
theorem dX7_code_56 : decode cX7_code 56 = .ok (.getfield 110, 3) := by decide +kernel
theorem dX7_code_59 : decode cX7_code 59 = .ok (.iconst 1, 1) := by decide +kernel
theorem dX7_code_60 : decode cX7_code 60 = .ok (.iadd, 1) := by decide +kernel
theorem dX7_code_61 : decode cX7_code 61 = .ok (.putfield 110, 3) := by decide +kernel
theorem dX7_code_64 : decode cX7_code 64 = .ok (.aload_n 0, 1) := by decide +kernel
theorem dX7_code_65 : decode cX7_code 65 = .ok (.dup, 1) := by decide +kernel
theorem dX7_code_66 : decode cX7_code 66 = .ok (.getfield 117, 3) := by decide +kernel
theorem dX7_code_69 : decode cX7_code 69 = .ok (.iconst 1, 1) := by decide +kernel
theorem dX7_code_70 : decode cX7_code 70 = .ok (.iadd, 1) := by decide +kernel
theorem dX7_code_71 : decode cX7_code 71 = .ok (.putfield 117, 3) := by decide +kernel
theorem dX7_code_74 : decode cX7_code 74 = .ok (.aload_n 0, 1) := by decide +kernel
theorem dX7_code_75 : decode cX7_code 75 = .ok (.iconst 0, 1) := by decide +kernel
theorem dX7_code_76 : decode cX7_code 76 = .ok (.putfield 79, 3) := by decide +kernel
theorem dX7_code_79 : decode cX7_code 79 = .ok (.aload_n 0, 1) := by decide +kernel
theorem dX7_code_80 : decode cX7_code 80 = .ok (.getfield 110, 3) := by decide +kernel
theorem dX7_code_83 : decode cX7_code 83 = .ok (.iconst 1, 1) := by decide +kernel
theorem dX7_code_84 : decode cX7_code 84 = .ok (.isub, 1) := by decide +kernel
theorem dX7_code_85 : decode cX7_code 85 = .ok (.ireturn, 1) := by decide +kernel
theorem dX7_drop_0 : decode cX7_drop 0 = .ok (.aload_n 0, 1) := by decide +kernel
theorem dX7_drop_1 : decode cX7_drop 1 = .ok (.getfield 110, 3) := by decide +kernel
theorem dX7_drop_4 : decode cX7_drop 4 = .ok (.ifCond .ne 6, 3) := by decide +kernel
theorem dX7_drop_7 : decode cX7_drop 7 = .ok (.bipush (-103), 2) := by decide +kernel
theorem dX7_drop_9 : decode cX7_drop 9 = .ok (.ireturn, 1) := by decide +kernel
theorem dX7_drop_10 : decode cX7_drop 10 = .ok (.aload_n 0, 1) := by decide +kernel
theorem dX7_drop_11 : decode cX7_drop 11 = .ok (.dup, 1) := by decide +kernel
theorem dX7_drop_12 : decode cX7_drop 12 = .ok (.getfield 110, 3) := by decide +kernel
theorem dX7_drop_15 : decode cX7_drop 15 = .ok (.iconst 1, 1) := by decide +kernel
theorem dX7_drop_16 : decode cX7_drop 16 = .ok (.isub, 1) := by decide +kernel
theorem dX7_drop_17 : decode cX7_drop 17 = .ok (.putfield 110, 3) := by decide +kernel
theorem dX7_drop_20 : decode cX7_drop 20 = .ok (.aload_n 0, 1) := by decide +kernel
theorem dX7_drop_21 : decode cX7_drop 21 = .ok (.getfield 110, 3) := by decide +kernel
theorem dX7_drop_24 : decode cX7_drop 24 = .ok (.ireturn, 1) := by decide +kernel
theorem dX7_letterOf_0 : decode cX7_letterOf 0 = .ok (.iload_n 0, 1) := by decide +kernel
theorem dX7_letterOf_1 : decode cX7_letterOf 1 = .ok (.ifCond .ne 8, 3) := by decide +kernel
theorem dX7_letterOf_4 : decode cX7_letterOf 4 = .ok (.bipush 102, 2) := by decide +kernel
theorem dX7_letterOf_6 : decode cX7_letterOf 6 = .ok (.goto 25, 3) := by decide +kernel
theorem dX7_letterOf_9 : decode cX7_letterOf 9 = .ok (.iload_n 0, 1) := by decide +kernel
theorem dX7_letterOf_10 : decode cX7_letterOf 10 = .ok (.iconst 1, 1) := by decide +kernel
theorem dX7_letterOf_11 : decode cX7_letterOf 11 = .ok (.if_icmp .ne 8, 3) := by decide +kernel
theorem dX7_letterOf_14 : decode cX7_letterOf 14 = .ok (.bipush 112, 2) := by decide +kernel
theorem dX7_letterOf_16 : decode cX7_letterOf 16 = .ok (.goto 15, 3) := by decide +kernel
theorem dX7_letterOf_19 : decode cX7_letterOf 19 = .ok (.iload_n 0, 1) := by decide +kernel
theorem dX7_letterOf_20 : decode cX7_letterOf 20 = .ok (.iconst 2, 1) := by decide +kernel
theorem dX7_letterOf_21 : decode cX7_letterOf 21 = .ok (.if_icmp .ne 8, 3) := by decide +kernel
theorem dX7_letterOf_24 : decode cX7_letterOf 24 = .ok (.bipush 99, 2) := by decide +kernel
theorem dX7_letterOf_26 : decode cX7_letterOf 26 = .ok (.goto 5, 3) := by decide +kernel
theorem dX7_letterOf_29 : decode cX7_letterOf 29 = .ok (.bipush 116, 2) := by decide +kernel
theorem dX7_letterOf_31 : decode cX7_letterOf 31 = .ok (.ireturn, 1) := by decide +kernel
theorem dX7_inkNow_0 : decode cX7_inkNow 0 = .ok (.iload_n 2, 1) := by decide +kernel
theorem dX7_inkNow_1 : decode cX7_inkNow 1 = .ok (.ifCond .ne 13, 3) := by decide +kernel
theorem dX7_inkNow_4 : decode cX7_inkNow 4 = .ok (.aload_n 0, 1) := by decide +kernel
theorem dX7_inkNow_5 : decode cX7_inkNow 5 = .ok (.getfield 7, 3) := by decide +kernel
theorem dX7_inkNow_8 : decode cX7_inkNow 8 = .ok (.iload_n 1, 1) := by decide +kernel
theorem dX7_inkNow_9 : decode cX7_inkNow 9 = .ok (.iaload, 1) := by decide +kernel
theorem dX7_inkNow_10 : decode cX7_inkNow 10 = .ok (.invokestatic 120, 3) := by decide +kernel
theorem dX7_inkNow_13 : decode cX7_inkNow 13 = .ok (.ireturn, 1) := by decide +kernel
theorem dX7_inkNow_14 : decode cX7_inkNow 14 = .ok (.iload_n 2, 1) := by decide +kernel
theorem dX7_inkNow_15 : decode cX7_inkNow 15 = .ok (.iconst 1, 1) := by decide +kernel
theorem dX7_inkNow_16 : decode cX7_inkNow 16 = .ok (.isub, 1) := by decide +kernel
theorem dX7_inkNow_17 : decode cX7_inkNow 17 = .ok (.aload_n 0, 1) := by decide +kernel
theorem dX7_inkNow_18 : decode cX7_inkNow 18 = .ok (.getfield 7, 3) := by decide +kernel
theorem dX7_inkNow_21 : decode cX7_inkNow 21 = .ok (.iload_n 1, 1) := by decide +kernel
theorem dX7_inkNow_22 : decode cX7_inkNow 22 = .ok (.iaload, 1) := by decide +kernel
theorem dX7_inkNow_23 : decode cX7_inkNow 23 = .ok (.invokestatic 82, 3) := by decide +kernel
theorem dX7_inkNow_26 : decode cX7_inkNow 26 = .ok (.isub, 1) := by decide +kernel
theorem dX7_inkNow_27 : decode cX7_inkNow 27 = .ok (.istore_n 3, 1) := by decide +kernel
theorem dX7_inkNow_28 : decode cX7_inkNow 28 = .ok (.iload_n 3, 1) := by decide +kernel
theorem dX7_inkNow_29 : decode cX7_inkNow 29 = .ok (.ifCond .ge 13, 3) := by decide +kernel
theorem dX7_inkNow_32 : decode cX7_inkNow 32 = .ok (.bipush 48, 2) := by decide +kernel
theorem dX7_inkNow_34 : decode cX7_inkNow 34 = .ok (.aload_n 0, 1) := by decide +kernel
theorem dX7_inkNow_35 : decode cX7_inkNow 35 = .ok (.getfield 13, 3) := by decide +kernel
theorem dX7_inkNow_38 : decode cX7_inkNow 38 = .ok (.iload_n 1, 1) := by decide +kernel
theorem dX7_inkNow_39 : decode cX7_inkNow 39 = .ok (.iaload, 1) := by decide +kernel
theorem dX7_inkNow_40 : decode cX7_inkNow 40 = .ok (.iadd, 1) := by decide +kernel
theorem dX7_inkNow_41 : decode cX7_inkNow 41 = .ok (.ireturn, 1) := by decide +kernel
theorem dX7_inkNow_42 : decode cX7_inkNow 42 = .ok (.aload_n 0, 1) := by decide +kernel
theorem dX7_inkNow_43 : decode cX7_inkNow 43 = .ok (.getfield 7, 3) := by decide +kernel
theorem dX7_inkNow_46 : decode cX7_inkNow 46 = .ok (.iload_n 1, 1) := by decide +kernel
theorem dX7_inkNow_47 : decode cX7_inkNow 47 = .ok (.iaload, 1) := by decide +kernel
theorem dX7_inkNow_48 : decode cX7_inkNow 48 = .ok (.invokestatic 86, 3) := by decide +kernel
theorem dX7_inkNow_51 : decode cX7_inkNow 51 = .ok (.istore 4, 2) := by decide +kernel
theorem dX7_inkNow_53 : decode cX7_inkNow 53 = .ok (.iload_n 3, 1) := by decide +kernel
theorem dX7_inkNow_54 : decode cX7_inkNow 54 = .ok (.iload 4, 2) := by decide +kernel
theorem dX7_inkNow_56 : decode cX7_inkNow 56 = .ok (.if_icmp .ge 20, 3) := by decide +kernel
theorem dX7_inkNow_59 : decode cX7_inkNow 59 = .ok (.aload_n 0, 1) := by decide +kernel
theorem dX7_inkNow_60 : decode cX7_inkNow 60 = .ok (.getfield 16, 3) := by decide +kernel
theorem dX7_inkNow_63 : decode cX7_inkNow 63 = .ok (.bipush 16, 2) := by decide +kernel
theorem dX7_inkNow_65 : decode cX7_inkNow 65 = .ok (.iload_n 1, 1) := by decide +kernel
theorem dX7_inkNow_66 : decode cX7_inkNow 66 = .ok (.imul, 1) := by decide +kernel
theorem dX7_inkNow_67 : decode cX7_inkNow 67 = .ok (.iload_n 3, 1) := by decide +kernel
theorem dX7_inkNow_68 : decode cX7_inkNow 68 = .ok (.iadd, 1) := by decide +kernel
theorem dX7_inkNow_69 : decode cX7_inkNow 69 = .ok (.iaload, 1) := by decide +kernel
theorem dX7_inkNow_70 : decode cX7_inkNow 70 = .ok (.invokestatic 123, 3) := by decide +kernel
theorem dX7_inkNow_73 : decode cX7_inkNow 73 = .ok (.goto 19, 3) := by decide +kernel
theorem dX7_inkNow_76 : decode cX7_inkNow 76 = .ok (.bipush 48, 2) := by decide +kernel
theorem dX7_inkNow_78 : decode cX7_inkNow 78 = .ok (.aload_n 0, 1) := by decide +kernel
theorem dX7_inkNow_79 : decode cX7_inkNow 79 = .ok (.getfield 19, 3) := by decide +kernel
theorem dX7_inkNow_82 : decode cX7_inkNow 82 = .ok (.iconst 4, 1) := by decide +kernel
theorem dX7_inkNow_83 : decode cX7_inkNow 83 = .ok (.iload_n 1, 1) := by decide +kernel
theorem dX7_inkNow_84 : decode cX7_inkNow 84 = .ok (.imul, 1) := by decide +kernel
theorem dX7_inkNow_85 : decode cX7_inkNow 85 = .ok (.iload_n 3, 1) := by decide +kernel
theorem dX7_inkNow_86 : decode cX7_inkNow 86 = .ok (.iadd, 1) := by decide +kernel
theorem dX7_inkNow_87 : decode cX7_inkNow 87 = .ok (.iload 4, 2) := by decide +kernel
theorem dX7_inkNow_89 : decode cX7_inkNow 89 = .ok (.isub, 1) := by decide +kernel
theorem dX7_inkNow_90 : decode cX7_inkNow 90 = .ok (.iaload, 1) := by decide +kernel
theorem dX7_inkNow_91 : decode cX7_inkNow 91 = .ok (.iadd, 1) := by decide +kernel
theorem dX7_inkNow_92 : decode cX7_inkNow 92 = .ok (.ireturn, 1) := by decide +kernel
theorem dX7_isCode_0 : decode cX7_isCode 0 = .ok (.iload_n 1, 1) := by decide +kernel
theorem dX7_isCode_1 : decode cX7_isCode 1 = .ok (.iconst 0, 1) := by decide +kernel
theorem dX7_isCode_2 : decode cX7_isCode 2 = .ok (.aload_n 0, 1) := by decide +kernel
theorem dX7_isCode_3 : decode cX7_isCode 3 = .ok (.getfield 110, 3) := by decide +kernel
theorem dX7_isCode_6 : decode cX7_isCode 6 = .ok (.iconst 1, 1) := by decide +kernel
theorem dX7_isCode_7 : decode cX7_isCode 7 = .ok (.isub, 1) := by decide +kernel
theorem dX7_isCode_8 : decode cX7_isCode 8 = .ok (.invokestatic 75, 3) := by decide +kernel
theorem dX7_isCode_11 : decode cX7_isCode 11 = .ok (.ireturn, 1) := by decide +kernel
theorem dX7_ink_0 : decode cX7_ink 0 = .ok (.aload_n 0, 1) := by decide +kernel
theorem dX7_ink_1 : decode cX7_ink 1 = .ok (.iload_n 1, 1) := by decide +kernel
theorem dX7_ink_2 : decode cX7_ink 2 = .ok (.invokevirtual 126, 3) := by decide +kernel
theorem dX7_ink_5 : decode cX7_ink 5 = .ok (.ifCond .eq 31, 3) := by decide +kernel
theorem dX7_ink_8 : decode cX7_ink 8 = .ok (.iload_n 2, 1) := by decide +kernel
theorem dX7_ink_9 : decode cX7_ink 9 = .ok (.iconst 0, 1) := by decide +kernel
theorem dX7_ink_10 : decode cX7_ink 10 = .ok (.aload_n 0, 1) := by decide +kernel
theorem dX7_ink_11 : decode cX7_ink 11 = .ok (.getfield 7, 3) := by decide +kernel
theorem dX7_ink_14 : decode cX7_ink 14 = .ok (.iload_n 1, 1) := by decide +kernel
theorem dX7_ink_15 : decode cX7_ink 15 = .ok (.iaload, 1) := by decide +kernel
theorem dX7_ink_16 : decode cX7_ink 16 = .ok (.invokestatic 107, 3) := by decide +kernel
theorem dX7_ink_19 : decode cX7_ink 19 = .ok (.iconst 1, 1) := by decide +kernel
theorem dX7_ink_20 : decode cX7_ink 20 = .ok (.isub, 1) := by decide +kernel
theorem dX7_ink_21 : decode cX7_ink 21 = .ok (.invokestatic 75, 3) := by decide +kernel
theorem dX7_ink_24 : decode cX7_ink 24 = .ok (.ifCond .eq 12, 3) := by decide +kernel
theorem dX7_ink_27 : decode cX7_ink 27 = .ok (.aload_n 0, 1) := by decide +kernel
theorem dX7_ink_28 : decode cX7_ink 28 = .ok (.iload_n 1, 1) := by decide +kernel
theorem dX7_ink_29 : decode cX7_ink 29 = .ok (.iload_n 2, 1) := by decide +kernel
theorem dX7_ink_30 : decode cX7_ink 30 = .ok (.invokevirtual 130, 3) := by decide +kernel
theorem dX7_ink_33 : decode cX7_ink 33 = .ok (.goto 5, 3) := by decide +kernel
theorem dX7_ink_36 : decode cX7_ink 36 = .ok (.bipush (-101), 2) := by decide +kernel
theorem dX7_ink_38 : decode cX7_ink 38 = .ok (.ireturn, 1) := by decide +kernel
theorem dX7_open_0 : decode cX7_open 0 = .ok (.iload_n 1, 1) := by decide +kernel
theorem dX7_open_1 : decode cX7_open 1 = .ok (.iconst 1, 1) := by decide +kernel
theorem dX7_open_2 : decode cX7_open 2 = .ok (.bipush 40, 2) := by decide +kernel
theorem dX7_open_4 : decode cX7_open 4 = .ok (.invokestatic 75, 3) := by decide +kernel
theorem dX7_open_7 : decode cX7_open 7 = .ok (.ifCond .ne 6, 3) := by decide +kernel
theorem dX7_open_10 : decode cX7_open 10 = .ok (.bipush (-102), 2) := by decide +kernel
theorem dX7_open_12 : decode cX7_open 12 = .ok (.ireturn, 1) := by decide +kernel
theorem dX7_open_13 : decode cX7_open 13 = .ok (.aload_n 0, 1) := by decide +kernel
theorem dX7_open_14 : decode cX7_open 14 = .ok (.getfield 133, 3) := by decide +kernel
theorem dX7_open_17 : decode cX7_open 17 = .ok (.istore_n 2, 1) := by decide +kernel
theorem dX7_open_18 : decode cX7_open 18 = .ok (.aload_n 0, 1) := by decide +kernel
theorem dX7_open_19 : decode cX7_open 19 = .ok (.iload_n 1, 1) := by decide +kernel
theorem dX7_open_20 : decode cX7_open 20 = .ok (.putfield 22, 3) := by decide +kernel
theorem dX7_open_23 : decode cX7_open 23 = .ok (.aload_n 0, 1) := by decide +kernel
theorem dX7_open_24 : decode cX7_open 24 = .ok (.iconst 0, 1) := by decide +kernel
theorem dX7_open_25 : decode cX7_open 25 = .ok (.putfield 133, 3) := by decide +kernel
theorem dX7_open_28 : decode cX7_open 28 = .ok (.iload_n 2, 1) := by decide +kernel
theorem dX7_open_29 : decode cX7_open 29 = .ok (.ireturn, 1) := by decide +kernel
theorem dX7_comes_0 : decode cX7_comes 0 = .ok (.aload_n 0, 1) := by decide +kernel
theorem dX7_comes_1 : decode cX7_comes 1 = .ok (.getfield 26, 3) := by decide +kernel
theorem dX7_comes_4 : decode cX7_comes 4 = .ok (.aload_n 0, 1) := by decide +kernel
theorem dX7_comes_5 : decode cX7_comes 5 = .ok (.getfield 133, 3) := by decide +kernel
theorem dX7_comes_8 : decode cX7_comes 8 = .ok (.iload_n 1, 1) := by decide +kernel
theorem dX7_comes_9 : decode cX7_comes 9 = .ok (.iastore, 1) := by decide +kernel
theorem dX7_comes_10 : decode cX7_comes 10 = .ok (.aload_n 0, 1) := by decide +kernel
theorem dX7_comes_11 : decode cX7_comes 11 = .ok (.dup, 1) := by decide +kernel
theorem dX7_comes_12 : decode cX7_comes 12 = .ok (.getfield 133, 3) := by decide +kernel
theorem dX7_comes_15 : decode cX7_comes 15 = .ok (.iconst 1, 1) := by decide +kernel
theorem dX7_comes_16 : decode cX7_comes 16 = .ok (.iadd, 1) := by decide +kernel
theorem dX7_comes_17 : decode cX7_comes 17 = .ok (.putfield 133, 3) := by decide +kernel
theorem dX7_comes_20 : decode cX7_comes 20 = .ok (.aload_n 0, 1) := by decide +kernel
theorem dX7_comes_21 : decode cX7_comes 21 = .ok (.dup, 1) := by decide +kernel
theorem dX7_comes_22 : decode cX7_comes 22 = .ok (.getfield 136, 3) := by decide +kernel
theorem dX7_comes_25 : decode cX7_comes 25 = .ok (.iconst 1, 1) := by decide +kernel
theorem dX7_comes_26 : decode cX7_comes 26 = .ok (.iadd, 1) := by decide +kernel
theorem dX7_comes_27 : decode cX7_comes 27 = .ok (.putfield 136, 3) := by decide +kernel
theorem dX7_comes_30 : decode cX7_comes 30 = .ok (.return_, 1) := by decide +kernel
theorem dX7_feed_0 : decode cX7_feed 0 = .ok (.iload_n 1, 1) := by decide +kernel
theorem dX7_feed_1 : decode cX7_feed 1 = .ok (.iconst 0, 1) := by decide +kernel
theorem dX7_feed_2 : decode cX7_feed 2 = .ok (.bipush 7, 2) := by decide +kernel
theorem dX7_feed_4 : decode cX7_feed 4 = .ok (.invokestatic 75, 3) := by decide +kernel
theorem dX7_feed_7 : decode cX7_feed 7 = .ok (.ifCond .ne 6, 3) := by decide +kernel
theorem dX7_feed_10 : decode cX7_feed 10 = .ok (.bipush (-102), 2) := by decide +kernel
theorem dX7_feed_12 : decode cX7_feed 12 = .ok (.ireturn, 1) := by decide +kernel
theorem dX7_feed_13 : decode cX7_feed 13 = .ok (.aload_n 0, 1) := by decide +kernel
theorem dX7_feed_14 : decode cX7_feed 14 = .ok (.getfield 133, 3) := by decide +kernel
theorem dX7_feed_17 : decode cX7_feed 17 = .ok (.aload_n 0, 1) := by decide +kernel
theorem dX7_feed_18 : decode cX7_feed 18 = .ok (.getfield 22, 3) := by decide +kernel
theorem dX7_feed_21 : decode cX7_feed 21 = .ok (.if_icmp .ne 6, 3) := by decide +kernel
theorem dX7_feed_24 : decode cX7_feed 24 = .ok (.bipush (-104), 2) := by decide +kernel
theorem dX7_feed_26 : decode cX7_feed 26 = .ok (.ireturn, 1) := by decide +kernel
theorem dX7_feed_27 : decode cX7_feed 27 = .ok (.aload_n 0, 1) := by decide +kernel
theorem dX7_feed_28 : decode cX7_feed 28 = .ok (.iload_n 1, 1) := by decide +kernel
theorem dX7_feed_29 : decode cX7_feed 29 = .ok (.invokevirtual 139, 3) := by decide +kernel
theorem dX7_feed_32 : decode cX7_feed 32 = .ok (.aload_n 0, 1) := by decide +kernel
theorem dX7_feed_33 : decode cX7_feed 33 = .ok (.getfield 133, 3) := by decide +kernel
theorem dX7_feed_36 : decode cX7_feed 36 = .ok (.ireturn, 1) := by decide +kernel
theorem dX7_feeds_0 : decode cX7_feeds 0 = .ok (.iconst 1, 1) := by decide +kernel
theorem dX7_feeds_1 : decode cX7_feeds 1 = .ok (.istore_n 1, 1) := by decide +kernel
theorem dX7_feeds_2 : decode cX7_feeds 2 = .ok (.iconst 0, 1) := by decide +kernel
theorem dX7_feeds_3 : decode cX7_feeds 3 = .ok (.istore_n 2, 1) := by decide +kernel
theorem dX7_feeds_4 : decode cX7_feeds 4 = .ok (.iload_n 2, 1) := by decide +kernel
theorem dX7_feeds_5 : decode cX7_feeds 5 = .ok (.aload_n 0, 1) := by decide +kernel
theorem dX7_feeds_6 : decode cX7_feeds 6 = .ok (.getfield 79, 3) := by decide +kernel
theorem dX7_feeds_9 : decode cX7_feeds 9 = .ok (.if_icmp .ge 35, 3) := by decide +kernel
theorem dX7_feeds_12 : decode cX7_feeds 12 = .ok (.iload_n 1, 1) := by decide +kernel
theorem dX7_feeds_13 : decode cX7_feeds 13 = .ok (.ifCond .eq 23, 3) := by decide +kernel
theorem dX7_feeds_16 : decode cX7_feeds 16 = .ok (.aload_n 0, 1) := by decide +kernel
theorem dX7_feeds_17 : decode cX7_feeds 17 = .ok (.getfield 29, 3) := by decide +kernel
theorem dX7_feeds_20 : decode cX7_feeds 20 = .ok (.iload_n 2, 1) := by decide +kernel
theorem dX7_feeds_21 : decode cX7_feeds 21 = .ok (.iaload, 1) := by decide +kernel
theorem dX7_feeds_22 : decode cX7_feeds 22 = .ok (.bipush 48, 2) := by decide +kernel
theorem dX7_feeds_24 : decode cX7_feeds 24 = .ok (.bipush 55, 2) := by decide +kernel
theorem dX7_feeds_26 : decode cX7_feeds 26 = .ok (.invokestatic 75, 3) := by decide +kernel
theorem dX7_feeds_29 : decode cX7_feeds 29 = .ok (.ifCond .eq 7, 3) := by decide +kernel
theorem dX7_feeds_32 : decode cX7_feeds 32 = .ok (.iconst 1, 1) := by decide +kernel
theorem dX7_feeds_33 : decode cX7_feeds 33 = .ok (.goto 4, 3) := by decide +kernel
theorem dX7_feeds_36 : decode cX7_feeds 36 = .ok (.iconst 0, 1) := by decide +kernel
theorem dX7_feeds_37 : decode cX7_feeds 37 = .ok (.istore_n 1, 1) := by decide +kernel
theorem dX7_feeds_38 : decode cX7_feeds 38 = .ok (.iinc 2 1, 3) := by decide +kernel
theorem dX7_feeds_41 : decode cX7_feeds 41 = .ok (.goto (-37), 3) := by decide +kernel
theorem dX7_feeds_44 : decode cX7_feeds 44 = .ok (.iload_n 1, 1) := by decide +kernel
theorem dX7_feeds_45 : decode cX7_feeds 45 = .ok (.ifCond .ne 6, 3) := by decide +kernel
theorem dX7_feeds_48 : decode cX7_feeds 48 = .ok (.bipush (-103), 2) := by decide +kernel
theorem dX7_feeds_50 : decode cX7_feeds 50 = .ok (.ireturn, 1) := by decide +kernel
theorem dX7_feeds_51 : decode cX7_feeds 51 = .ok (.aload_n 0, 1) := by decide +kernel
theorem dX7_feeds_52 : decode cX7_feeds 52 = .ok (.getfield 133, 3) := by decide +kernel
theorem dX7_feeds_55 : decode cX7_feeds 55 = .ok (.aload_n 0, 1) := by decide +kernel
theorem dX7_feeds_56 : decode cX7_feeds 56 = .ok (.getfield 79, 3) := by decide +kernel
theorem dX7_feeds_59 : decode cX7_feeds 59 = .ok (.iadd, 1) := by decide +kernel
theorem dX7_feeds_60 : decode cX7_feeds 60 = .ok (.aload_n 0, 1) := by decide +kernel
theorem dX7_feeds_61 : decode cX7_feeds 61 = .ok (.getfield 22, 3) := by decide +kernel
theorem dX7_feeds_64 : decode cX7_feeds 64 = .ok (.if_icmp .le 6, 3) := by decide +kernel
theorem dX7_feeds_67 : decode cX7_feeds 67 = .ok (.bipush (-104), 2) := by decide +kernel
theorem dX7_feeds_69 : decode cX7_feeds 69 = .ok (.ireturn, 1) := by decide +kernel
theorem dX7_feeds_70 : decode cX7_feeds 70 = .ok (.iconst 0, 1) := by decide +kernel
theorem dX7_feeds_71 : decode cX7_feeds 71 = .ok (.istore_n 2, 1) := by decide +kernel
theorem dX7_feeds_72 : decode cX7_feeds 72 = .ok (.iload_n 2, 1) := by decide +kernel
theorem dX7_feeds_73 : decode cX7_feeds 73 = .ok (.aload_n 0, 1) := by decide +kernel
theorem dX7_feeds_74 : decode cX7_feeds 74 = .ok (.getfield 79, 3) := by decide +kernel
theorem dX7_feeds_77 : decode cX7_feeds 77 = .ok (.if_icmp .ge 22, 3) := by decide +kernel
theorem dX7_feeds_80 : decode cX7_feeds 80 = .ok (.aload_n 0, 1) := by decide +kernel
theorem dX7_feeds_81 : decode cX7_feeds 81 = .ok (.aload_n 0, 1) := by decide +kernel
theorem dX7_feeds_82 : decode cX7_feeds 82 = .ok (.getfield 29, 3) := by decide +kernel
theorem dX7_feeds_85 : decode cX7_feeds 85 = .ok (.iload_n 2, 1) := by decide +kernel
theorem dX7_feeds_86 : decode cX7_feeds 86 = .ok (.iaload, 1) := by decide +kernel
theorem dX7_feeds_87 : decode cX7_feeds 87 = .ok (.bipush 48, 2) := by decide +kernel
theorem dX7_feeds_89 : decode cX7_feeds 89 = .ok (.isub, 1) := by decide +kernel
theorem dX7_feeds_90 : decode cX7_feeds 90 = .ok (.invokevirtual 139, 3) := by decide +kernel
theorem dX7_feeds_93 : decode cX7_feeds 93 = .ok (.iinc 2 1, 3) := by decide +kernel
theorem dX7_feeds_96 : decode cX7_feeds 96 = .ok (.goto (-24), 3) := by decide +kernel
theorem dX7_feeds_99 : decode cX7_feeds 99 = .ok (.aload_n 0, 1) := by decide +kernel
theorem dX7_feeds_100 : decode cX7_feeds 100 = .ok (.iconst 0, 1) := by decide +kernel
theorem dX7_feeds_101 : decode cX7_feeds 101 = .ok (.putfield 79, 3) := by decide +kernel
theorem dX7_feeds_104 : decode cX7_feeds 104 = .ok (.aload_n 0, 1) := by decide +kernel
theorem dX7_feeds_105 : decode cX7_feeds 105 = .ok (.getfield 133, 3) := by decide +kernel
theorem dX7_feeds_108 : decode cX7_feeds 108 = .ok (.ireturn, 1) := by decide +kernel
theorem dX7_back_0 : decode cX7_back 0 = .ok (.aload_n 0, 1) := by decide +kernel
theorem dX7_back_1 : decode cX7_back 1 = .ok (.getfield 133, 3) := by decide +kernel
theorem dX7_back_4 : decode cX7_back 4 = .ok (.ifCond .ne 6, 3) := by decide +kernel
theorem dX7_back_7 : decode cX7_back 7 = .ok (.bipush (-103), 2) := by decide +kernel
theorem dX7_back_9 : decode cX7_back 9 = .ok (.ireturn, 1) := by decide +kernel
theorem dX7_back_10 : decode cX7_back 10 = .ok (.aload_n 0, 1) := by decide +kernel
theorem dX7_back_11 : decode cX7_back 11 = .ok (.dup, 1) := by decide +kernel
theorem dX7_back_12 : decode cX7_back 12 = .ok (.getfield 133, 3) := by decide +kernel
theorem dX7_back_15 : decode cX7_back 15 = .ok (.iconst 1, 1) := by decide +kernel
theorem dX7_back_16 : decode cX7_back 16 = .ok (.isub, 1) := by decide +kernel
theorem dX7_back_17 : decode cX7_back 17 = .ok (.putfield 133, 3) := by decide +kernel
theorem dX7_back_20 : decode cX7_back 20 = .ok (.aload_n 0, 1) := by decide +kernel
theorem dX7_back_21 : decode cX7_back 21 = .ok (.getfield 133, 3) := by decide +kernel
theorem dX7_back_24 : decode cX7_back 24 = .ok (.ireturn, 1) := by decide +kernel
theorem dX7_unit_0 : decode cX7_unit 0 = .ok (.iload_n 1, 1) := by decide +kernel
theorem dX7_unit_1 : decode cX7_unit 1 = .ok (.iconst 0, 1) := by decide +kernel
theorem dX7_unit_2 : decode cX7_unit 2 = .ok (.aload_n 0, 1) := by decide +kernel
theorem dX7_unit_3 : decode cX7_unit 3 = .ok (.getfield 133, 3) := by decide +kernel
theorem dX7_unit_6 : decode cX7_unit 6 = .ok (.iconst 1, 1) := by decide +kernel
theorem dX7_unit_7 : decode cX7_unit 7 = .ok (.isub, 1) := by decide +kernel
theorem dX7_unit_8 : decode cX7_unit 8 = .ok (.invokestatic 75, 3) := by decide +kernel
theorem dX7_unit_11 : decode cX7_unit 11 = .ok (.ifCond .eq 12, 3) := by decide +kernel
theorem dX7_unit_14 : decode cX7_unit 14 = .ok (.aload_n 0, 1) := by decide +kernel
theorem dX7_unit_15 : decode cX7_unit 15 = .ok (.getfield 26, 3) := by decide +kernel
theorem dX7_unit_18 : decode cX7_unit 18 = .ok (.iload_n 1, 1) := by decide +kernel
theorem dX7_unit_19 : decode cX7_unit 19 = .ok (.iaload, 1) := by decide +kernel
theorem dX7_unit_20 : decode cX7_unit 20 = .ok (.goto 5, 3) := by decide +kernel
theorem dX7_unit_23 : decode cX7_unit 23 = .ok (.bipush (-101), 2) := by decide +kernel
theorem dX7_unit_25 : decode cX7_unit 25 = .ok (.ireturn, 1) := by decide +kernel
theorem dX7_ends_0 : decode cX7_ends 0 = .ok (.aload_n 0, 1) := by decide +kernel
theorem dX7_ends_1 : decode cX7_ends 1 = .ok (.iload_n 1, 1) := by decide +kernel
theorem dX7_ends_2 : decode cX7_ends 2 = .ok (.iconst 2, 1) := by decide +kernel
theorem dX7_ends_3 : decode cX7_ends 3 = .ok (.if_icmp .ne 7, 3) := by decide +kernel
theorem dX7_ends_6 : decode cX7_ends 6 = .ok (.iconst (-1), 1) := by decide +kernel
theorem dX7_ends_7 : decode cX7_ends 7 = .ok (.goto 4, 3) := by decide +kernel
theorem dX7_ends_10 : decode cX7_ends 10 = .ok (.iload_n 1, 1) := by decide +kernel
theorem dX7_ends_11 : decode cX7_ends 11 = .ok (.putfield 142, 3) := by decide +kernel
theorem dX7_ends_14 : decode cX7_ends 14 = .ok (.iload_n 1, 1) := by decide +kernel
theorem dX7_ends_15 : decode cX7_ends 15 = .ok (.iconst 2, 1) := by decide +kernel
theorem dX7_ends_16 : decode cX7_ends 16 = .ok (.if_icmp .ne 7, 3) := by decide +kernel
theorem dX7_ends_19 : decode cX7_ends 19 = .ok (.iconst (-1), 1) := by decide +kernel
theorem dX7_ends_20 : decode cX7_ends 20 = .ok (.goto 4, 3) := by decide +kernel
theorem dX7_ends_23 : decode cX7_ends 23 = .ok (.iload_n 2, 1) := by decide +kernel
theorem dX7_ends_24 : decode cX7_ends 24 = .ok (.ireturn, 1) := by decide +kernel
theorem dX7_stepCounted_0 : decode cX7_stepCounted 0 = .ok (.iload_n 2, 1) := by decide +kernel
theorem dX7_stepCounted_1 : decode cX7_stepCounted 1 = .ok (.ifCond .le 40, 3) := by decide +kernel
theorem dX7_stepCounted_4 : decode cX7_stepCounted 4 = .ok (.iload_n 1, 1) := by decide +kernel
theorem dX7_stepCounted_5 : decode cX7_stepCounted 5 = .ok (.bipush 7, 2) := by decide +kernel
theorem dX7_stepCounted_7 : decode cX7_stepCounted 7 = .ok (.if_icmp .eq 5, 3) := by decide +kernel
theorem dX7_stepCounted_10 : decode cX7_stepCounted 10 = .ok (.iconst (-1), 1) := by decide +kernel
theorem dX7_stepCounted_11 : decode cX7_stepCounted 11 = .ok (.ireturn, 1) := by decide +kernel
theorem dX7_stepCounted_12 : decode cX7_stepCounted 12 = .ok (.aload_n 0, 1) := by decide +kernel
theorem dX7_stepCounted_13 : decode cX7_stepCounted 13 = .ok (.iload_n 2, 1) := by decide +kernel
theorem dX7_stepCounted_14 : decode cX7_stepCounted 14 = .ok (.iconst 3, 1) := by decide +kernel
theorem dX7_stepCounted_15 : decode cX7_stepCounted 15 = .ok (.if_icmp .ge 9, 3) := by decide +kernel
theorem dX7_stepCounted_18 : decode cX7_stepCounted 18 = .ok (.iload_n 2, 1) := by decide +kernel
theorem dX7_stepCounted_19 : decode cX7_stepCounted 19 = .ok (.iconst 1, 1) := by decide +kernel
theorem dX7_stepCounted_20 : decode cX7_stepCounted 20 = .ok (.isub, 1) := by decide +kernel
theorem dX7_stepCounted_21 : decode cX7_stepCounted 21 = .ok (.goto 4, 3) := by decide +kernel
theorem dX7_stepCounted_24 : decode cX7_stepCounted 24 = .ok (.iconst (-1), 1) := by decide +kernel
theorem dX7_stepCounted_25 : decode cX7_stepCounted 25 = .ok (.putfield 142, 3) := by decide +kernel
theorem dX7_stepCounted_28 : decode cX7_stepCounted 28 = .ok (.iload_n 2, 1) := by decide +kernel
theorem dX7_stepCounted_29 : decode cX7_stepCounted 29 = .ok (.iconst 3, 1) := by decide +kernel
theorem dX7_stepCounted_30 : decode cX7_stepCounted 30 = .ok (.if_icmp .ge 7, 3) := by decide +kernel
theorem dX7_stepCounted_33 : decode cX7_stepCounted 33 = .ok (.iconst 0, 1) := by decide +kernel
theorem dX7_stepCounted_34 : decode cX7_stepCounted 34 = .ok (.goto 6, 3) := by decide +kernel
theorem dX7_stepCounted_37 : decode cX7_stepCounted 37 = .ok (.iload_n 2, 1) := by decide +kernel
theorem dX7_stepCounted_38 : decode cX7_stepCounted 38 = .ok (.iconst 2, 1) := by decide +kernel
theorem dX7_stepCounted_39 : decode cX7_stepCounted 39 = .ok (.isub, 1) := by decide +kernel
theorem dX7_stepCounted_40 : decode cX7_stepCounted 40 = .ok (.ireturn, 1) := by decide +kernel
theorem dX7_stepCounted_41 : decode cX7_stepCounted 41 = .ok (.iload_n 1, 1) := by decide +kernel
theorem dX7_stepCounted_42 : decode cX7_stepCounted 42 = .ok (.bipush 7, 2) := by decide +kernel
theorem dX7_stepCounted_44 : decode cX7_stepCounted 44 = .ok (.if_icmp .ne 5, 3) := by decide +kernel
theorem dX7_stepCounted_47 : decode cX7_stepCounted 47 = .ok (.iconst (-1), 1) := by decide +kernel
theorem dX7_stepCounted_48 : decode cX7_stepCounted 48 = .ok (.ireturn, 1) := by decide +kernel
theorem dX7_stepCounted_49 : decode cX7_stepCounted 49 = .ok (.iload_n 1, 1) := by decide +kernel
theorem dX7_stepCounted_50 : decode cX7_stepCounted 50 = .ok (.iconst 2, 1) := by decide +kernel
theorem dX7_stepCounted_51 : decode cX7_stepCounted 51 = .ok (.if_icmp .gt 12, 3) := by decide +kernel
theorem dX7_stepCounted_54 : decode cX7_stepCounted 54 = .ok (.aload_n 0, 1) := by decide +kernel
theorem dX7_stepCounted_55 : decode cX7_stepCounted 55 = .ok (.iload_n 1, 1) := by decide +kernel
theorem dX7_stepCounted_56 : decode cX7_stepCounted 56 = .ok (.iconst 0, 1) := by decide +kernel
theorem dX7_stepCounted_57 : decode cX7_stepCounted 57 = .ok (.invokevirtual 145, 3) := by decide +kernel
theorem dX7_stepCounted_60 : decode cX7_stepCounted 60 = .ok (.goto 6, 3) := by decide +kernel
theorem dX7_stepCounted_63 : decode cX7_stepCounted 63 = .ok (.iload_n 1, 1) := by decide +kernel
theorem dX7_stepCounted_64 : decode cX7_stepCounted 64 = .ok (.iconst 2, 1) := by decide +kernel
theorem dX7_stepCounted_65 : decode cX7_stepCounted 65 = .ok (.isub, 1) := by decide +kernel
theorem dX7_stepCounted_66 : decode cX7_stepCounted 66 = .ok (.ireturn, 1) := by decide +kernel
theorem dX7_stepTurned_0 : decode cX7_stepTurned 0 = .ok (.iload_n 3, 1) := by decide +kernel
theorem dX7_stepTurned_1 : decode cX7_stepTurned 1 = .ok (.aload_n 0, 1) := by decide +kernel
theorem dX7_stepTurned_2 : decode cX7_stepTurned 2 = .ok (.getfield 13, 3) := by decide +kernel
theorem dX7_stepTurned_5 : decode cX7_stepTurned 5 = .ok (.iload_n 1, 1) := by decide +kernel
theorem dX7_stepTurned_6 : decode cX7_stepTurned 6 = .ok (.iaload, 1) := by decide +kernel
theorem dX7_stepTurned_7 : decode cX7_stepTurned 7 = .ok (.if_icmp .ne 9, 3) := by decide +kernel
theorem dX7_stepTurned_10 : decode cX7_stepTurned 10 = .ok (.iconst 1, 1) := by decide +kernel
theorem dX7_stepTurned_11 : decode cX7_stepTurned 11 = .ok (.iload_n 2, 1) := by decide +kernel
theorem dX7_stepTurned_12 : decode cX7_stepTurned 12 = .ok (.isub, 1) := by decide +kernel
theorem dX7_stepTurned_13 : decode cX7_stepTurned 13 = .ok (.goto 24, 3) := by decide +kernel
theorem dX7_stepTurned_16 : decode cX7_stepTurned 16 = .ok (.aload_n 0, 1) := by decide +kernel
theorem dX7_stepTurned_17 : decode cX7_stepTurned 17 = .ok (.aload_n 0, 1) := by decide +kernel
theorem dX7_stepTurned_18 : decode cX7_stepTurned 18 = .ok (.getfield 16, 3) := by decide +kernel
theorem dX7_stepTurned_21 : decode cX7_stepTurned 21 = .ok (.bipush 16, 2) := by decide +kernel
theorem dX7_stepTurned_23 : decode cX7_stepTurned 23 = .ok (.iload_n 1, 1) := by decide +kernel
theorem dX7_stepTurned_24 : decode cX7_stepTurned 24 = .ok (.imul, 1) := by decide +kernel
theorem dX7_stepTurned_25 : decode cX7_stepTurned 25 = .ok (.bipush 8, 2) := by decide +kernel
theorem dX7_stepTurned_27 : decode cX7_stepTurned 27 = .ok (.iload_n 2, 1) := by decide +kernel
theorem dX7_stepTurned_28 : decode cX7_stepTurned 28 = .ok (.imul, 1) := by decide +kernel
theorem dX7_stepTurned_29 : decode cX7_stepTurned 29 = .ok (.iadd, 1) := by decide +kernel
theorem dX7_stepTurned_30 : decode cX7_stepTurned 30 = .ok (.iload_n 3, 1) := by decide +kernel
theorem dX7_stepTurned_31 : decode cX7_stepTurned 31 = .ok (.iadd, 1) := by decide +kernel
theorem dX7_stepTurned_32 : decode cX7_stepTurned 32 = .ok (.iaload, 1) := by decide +kernel
theorem dX7_stepTurned_33 : decode cX7_stepTurned 33 = .ok (.iload_n 2, 1) := by decide +kernel
theorem dX7_stepTurned_34 : decode cX7_stepTurned 34 = .ok (.invokevirtual 145, 3) := by decide +kernel
theorem dX7_stepTurned_37 : decode cX7_stepTurned 37 = .ok (.ireturn, 1) := by decide +kernel
theorem dX7_step_0 : decode cX7_step 0 = .ok (.aload_n 0, 1) := by decide +kernel
theorem dX7_step_1 : decode cX7_step 1 = .ok (.iconst (-1), 1) := by decide +kernel
theorem dX7_step_2 : decode cX7_step 2 = .ok (.putfield 142, 3) := by decide +kernel
theorem dX7_step_5 : decode cX7_step 5 = .ok (.aload_n 0, 1) := by decide +kernel
theorem dX7_step_6 : decode cX7_step 6 = .ok (.getfield 16, 3) := by decide +kernel
theorem dX7_step_9 : decode cX7_step 9 = .ok (.bipush 16, 2) := by decide +kernel
theorem dX7_step_11 : decode cX7_step 11 = .ok (.iload_n 1, 1) := by decide +kernel
theorem dX7_step_12 : decode cX7_step 12 = .ok (.imul, 1) := by decide +kernel
theorem dX7_step_13 : decode cX7_step 13 = .ok (.iload_n 3, 1) := by decide +kernel
theorem dX7_step_14 : decode cX7_step 14 = .ok (.iadd, 1) := by decide +kernel
theorem dX7_step_15 : decode cX7_step 15 = .ok (.iaload, 1) := by decide +kernel
theorem dX7_step_16 : decode cX7_step 16 = .ok (.istore 4, 2) := by decide +kernel
theorem dX7_step_18 : decode cX7_step 18 = .ok (.aload_n 0, 1) := by decide +kernel
theorem dX7_step_19 : decode cX7_step 19 = .ok (.getfield 7, 3) := by decide +kernel
theorem dX7_step_22 : decode cX7_step 22 = .ok (.iload_n 1, 1) := by decide +kernel
theorem dX7_step_23 : decode cX7_step 23 = .ok (.iaload, 1) := by decide +kernel
theorem dX7_step_24 : decode cX7_step 24 = .ok (.tableswitch 70 1 3 #[28, 54, 62], 28) := by decide +kernel
theorem dX7_step_52 : decode cX7_step 52 = .ok (.iload_n 2, 1) := by decide +kernel
theorem dX7_step_53 : decode cX7_step 53 = .ok (.ifCond .ne 17, 3) := by decide +kernel
theorem dX7_step_56 : decode cX7_step 56 = .ok (.iload_n 3, 1) := by decide +kernel
theorem dX7_step_57 : decode cX7_step 57 = .ok (.aload_n 0, 1) := by decide +kernel
theorem dX7_step_58 : decode cX7_step 58 = .ok (.getfield 13, 3) := by decide +kernel
theorem dX7_step_61 : decode cX7_step 61 = .ok (.iload_n 1, 1) := by decide +kernel
theorem dX7_step_62 : decode cX7_step 62 = .ok (.iaload, 1) := by decide +kernel
theorem dX7_step_63 : decode cX7_step 63 = .ok (.if_icmp .lt 7, 3) := by decide +kernel
theorem dX7_step_66 : decode cX7_step 66 = .ok (.iconst 1, 1) := by decide +kernel
theorem dX7_step_67 : decode cX7_step 67 = .ok (.goto 10, 3) := by decide +kernel
theorem dX7_step_70 : decode cX7_step 70 = .ok (.aload_n 0, 1) := by decide +kernel
theorem dX7_step_71 : decode cX7_step 71 = .ok (.iload 4, 2) := by decide +kernel
theorem dX7_step_73 : decode cX7_step 73 = .ok (.iconst 0, 1) := by decide +kernel
theorem dX7_step_74 : decode cX7_step 74 = .ok (.invokevirtual 145, 3) := by decide +kernel
theorem dX7_step_77 : decode cX7_step 77 = .ok (.ireturn, 1) := by decide +kernel
theorem dX7_step_78 : decode cX7_step 78 = .ok (.aload_n 0, 1) := by decide +kernel
theorem dX7_step_79 : decode cX7_step 79 = .ok (.iload 4, 2) := by decide +kernel
theorem dX7_step_81 : decode cX7_step 81 = .ok (.iload_n 2, 1) := by decide +kernel
theorem dX7_step_82 : decode cX7_step 82 = .ok (.invokevirtual 148, 3) := by decide +kernel
theorem dX7_step_85 : decode cX7_step 85 = .ok (.ireturn, 1) := by decide +kernel
theorem dX7_step_86 : decode cX7_step 86 = .ok (.aload_n 0, 1) := by decide +kernel
theorem dX7_step_87 : decode cX7_step 87 = .ok (.iload_n 1, 1) := by decide +kernel
theorem dX7_step_88 : decode cX7_step 88 = .ok (.iload_n 2, 1) := by decide +kernel
theorem dX7_step_89 : decode cX7_step 89 = .ok (.iload_n 3, 1) := by decide +kernel
theorem dX7_step_90 : decode cX7_step 90 = .ok (.invokevirtual 151, 3) := by decide +kernel
theorem dX7_step_93 : decode cX7_step 93 = .ok (.ireturn, 1) := by decide +kernel
theorem dX7_step_94 : decode cX7_step 94 = .ok (.aload_n 0, 1) := by decide +kernel
theorem dX7_step_95 : decode cX7_step 95 = .ok (.iload 4, 2) := by decide +kernel
theorem dX7_step_97 : decode cX7_step 97 = .ok (.iconst 0, 1) := by decide +kernel
theorem dX7_step_98 : decode cX7_step 98 = .ok (.invokevirtual 145, 3) := by decide +kernel
theorem dX7_step_101 : decode cX7_step 101 = .ok (.ireturn, 1) := by decide +kernel
theorem dX7_begin_0 : decode cX7_begin 0 = .ok (.aload_n 0, 1) := by decide +kernel
theorem dX7_begin_1 : decode cX7_begin 1 = .ok (.iconst 0, 1) := by decide +kernel
theorem dX7_begin_2 : decode cX7_begin 2 = .ok (.putfield 155, 3) := by decide +kernel
theorem dX7_begin_5 : decode cX7_begin 5 = .ok (.aload_n 0, 1) := by decide +kernel
theorem dX7_begin_6 : decode cX7_begin 6 = .ok (.iconst (-1), 1) := by decide +kernel
theorem dX7_begin_7 : decode cX7_begin 7 = .ok (.putfield 158, 3) := by decide +kernel
theorem dX7_begin_10 : decode cX7_begin 10 = .ok (.aload_n 0, 1) := by decide +kernel
theorem dX7_begin_11 : decode cX7_begin 11 = .ok (.iconst 0, 1) := by decide +kernel
theorem dX7_begin_12 : decode cX7_begin 12 = .ok (.putfield 161, 3) := by decide +kernel
theorem dX7_begin_15 : decode cX7_begin 15 = .ok (.aload_n 0, 1) := by decide +kernel
theorem dX7_begin_16 : decode cX7_begin 16 = .ok (.iconst 0, 1) := by decide +kernel
theorem dX7_begin_17 : decode cX7_begin 17 = .ok (.putfield 164, 3) := by decide +kernel
theorem dX7_begin_20 : decode cX7_begin 20 = .ok (.aload_n 0, 1) := by decide +kernel
theorem dX7_begin_21 : decode cX7_begin 21 = .ok (.iconst 0, 1) := by decide +kernel
theorem dX7_begin_22 : decode cX7_begin 22 = .ok (.putfield 167, 3) := by decide +kernel
theorem dX7_begin_25 : decode cX7_begin 25 = .ok (.iconst 0, 1) := by decide +kernel
theorem dX7_begin_26 : decode cX7_begin 26 = .ok (.istore_n 1, 1) := by decide +kernel
theorem dX7_begin_27 : decode cX7_begin 27 = .ok (.iload_n 1, 1) := by decide +kernel
theorem dX7_begin_28 : decode cX7_begin 28 = .ok (.iconst 4, 1) := by decide +kernel
theorem dX7_begin_29 : decode cX7_begin 29 = .ok (.if_icmp .ge 16, 3) := by decide +kernel
theorem dX7_begin_32 : decode cX7_begin 32 = .ok (.aload_n 0, 1) := by decide +kernel
theorem dX7_begin_33 : decode cX7_begin 33 = .ok (.getfield 32, 3) := by decide +kernel
theorem dX7_begin_36 : decode cX7_begin 36 = .ok (.iload_n 1, 1) := by decide +kernel
theorem dX7_begin_37 : decode cX7_begin 37 = .ok (.iconst 0, 1) := by decide +kernel
theorem dX7_begin_38 : decode cX7_begin 38 = .ok (.iastore, 1) := by decide +kernel
theorem dX7_begin_39 : decode cX7_begin 39 = .ok (.iinc 1 1, 3) := by decide +kernel
theorem dX7_begin_42 : decode cX7_begin 42 = .ok (.goto (-15), 3) := by decide +kernel
theorem dX7_begin_45 : decode cX7_begin 45 = .ok (.return_, 1) := by decide +kernel
theorem dX7_goOn_0 : decode cX7_goOn 0 = .ok (.aload_n 0, 1) := by decide +kernel
theorem dX7_goOn_1 : decode cX7_goOn 1 = .ok (.iload_n 1, 1) := by decide +kernel
theorem dX7_goOn_2 : decode cX7_goOn 2 = .ok (.aload_n 0, 1) := by decide +kernel
theorem dX7_goOn_3 : decode cX7_goOn 3 = .ok (.getfield 155, 3) := by decide +kernel
theorem dX7_goOn_6 : decode cX7_goOn 6 = .ok (.iload_n 2, 1) := by decide +kernel
theorem dX7_goOn_7 : decode cX7_goOn 7 = .ok (.invokevirtual 170, 3) := by decide +kernel
theorem dX7_goOn_10 : decode cX7_goOn 10 = .ok (.istore_n 3, 1) := by decide +kernel
theorem dX7_goOn_11 : decode cX7_goOn 11 = .ok (.aload_n 0, 1) := by decide +kernel
theorem dX7_goOn_12 : decode cX7_goOn 12 = .ok (.iload_n 3, 1) := by decide +kernel
theorem dX7_goOn_13 : decode cX7_goOn 13 = .ok (.putfield 155, 3) := by decide +kernel
theorem dX7_goOn_16 : decode cX7_goOn 16 = .ok (.iload_n 3, 1) := by decide +kernel
theorem dX7_goOn_17 : decode cX7_goOn 17 = .ok (.iconst (-1), 1) := by decide +kernel
theorem dX7_goOn_18 : decode cX7_goOn 18 = .ok (.if_icmp .eq 13, 3) := by decide +kernel
theorem dX7_goOn_21 : decode cX7_goOn 21 = .ok (.aload_n 0, 1) := by decide +kernel
theorem dX7_goOn_22 : decode cX7_goOn 22 = .ok (.dup, 1) := by decide +kernel
theorem dX7_goOn_23 : decode cX7_goOn 23 = .ok (.getfield 167, 3) := by decide +kernel
theorem dX7_goOn_26 : decode cX7_goOn 26 = .ok (.iconst 1, 1) := by decide +kernel
theorem dX7_goOn_27 : decode cX7_goOn 27 = .ok (.iadd, 1) := by decide +kernel
theorem dX7_goOn_28 : decode cX7_goOn 28 = .ok (.putfield 167, 3) := by decide +kernel
theorem dX7_goOn_31 : decode cX7_goOn 31 = .ok (.iload_n 3, 1) := by decide +kernel
theorem dX7_goOn_32 : decode cX7_goOn 32 = .ok (.iconst (-1), 1) := by decide +kernel
theorem dX7_goOn_33 : decode cX7_goOn 33 = .ok (.if_icmp .eq 86, 3) := by decide +kernel
theorem dX7_goOn_36 : decode cX7_goOn 36 = .ok (.aload_n 0, 1) := by decide +kernel
theorem dX7_goOn_37 : decode cX7_goOn 37 = .ok (.getfield 142, 3) := by decide +kernel
theorem dX7_goOn_40 : decode cX7_goOn 40 = .ok (.iconst (-1), 1) := by decide +kernel
theorem dX7_goOn_41 : decode cX7_goOn 41 = .ok (.if_icmp .eq 78, 3) := by decide +kernel
theorem dX7_goOn_44 : decode cX7_goOn 44 = .ok (.aload_n 0, 1) := by decide +kernel
theorem dX7_goOn_45 : decode cX7_goOn 45 = .ok (.getfield 158, 3) := by decide +kernel
theorem dX7_goOn_48 : decode cX7_goOn 48 = .ok (.iconst (-1), 1) := by decide +kernel
theorem dX7_goOn_49 : decode cX7_goOn 49 = .ok (.if_icmp .eq 52, 3) := by decide +kernel
theorem dX7_goOn_52 : decode cX7_goOn 52 = .ok (.aload_n 0, 1) := by decide +kernel
theorem dX7_goOn_53 : decode cX7_goOn 53 = .ok (.getfield 32, 3) := by decide +kernel
theorem dX7_goOn_56 : decode cX7_goOn 56 = .ok (.iconst 2, 1) := by decide +kernel
theorem dX7_goOn_57 : decode cX7_goOn 57 = .ok (.aload_n 0, 1) := by decide +kernel
theorem dX7_goOn_58 : decode cX7_goOn 58 = .ok (.getfield 158, 3) := by decide +kernel
theorem dX7_goOn_61 : decode cX7_goOn 61 = .ok (.imul, 1) := by decide +kernel
theorem dX7_goOn_62 : decode cX7_goOn 62 = .ok (.aload_n 0, 1) := by decide +kernel
theorem dX7_goOn_63 : decode cX7_goOn 63 = .ok (.getfield 142, 3) := by decide +kernel
theorem dX7_goOn_66 : decode cX7_goOn 66 = .ok (.iadd, 1) := by decide +kernel
theorem dX7_goOn_67 : decode cX7_goOn 67 = .ok (.dup2, 1) := by decide +kernel
theorem dX7_goOn_68 : decode cX7_goOn 68 = .ok (.iaload, 1) := by decide +kernel
theorem dX7_goOn_69 : decode cX7_goOn 69 = .ok (.iconst 1, 1) := by decide +kernel
theorem dX7_goOn_70 : decode cX7_goOn 70 = .ok (.iadd, 1) := by decide +kernel
theorem dX7_goOn_71 : decode cX7_goOn 71 = .ok (.iastore, 1) := by decide +kernel
theorem dX7_goOn_72 : decode cX7_goOn 72 = .ok (.aload_n 0, 1) := by decide +kernel
theorem dX7_goOn_73 : decode cX7_goOn 73 = .ok (.dup, 1) := by decide +kernel
theorem dX7_goOn_74 : decode cX7_goOn 74 = .ok (.getfield 164, 3) := by decide +kernel
theorem dX7_goOn_77 : decode cX7_goOn 77 = .ok (.aload_n 0, 1) := by decide +kernel
theorem dX7_goOn_78 : decode cX7_goOn 78 = .ok (.getfield 19, 3) := by decide +kernel
theorem dX7_goOn_81 : decode cX7_goOn 81 = .ok (.iconst 4, 1) := by decide +kernel
theorem dX7_goOn_82 : decode cX7_goOn 82 = .ok (.iload_n 1, 1) := by decide +kernel
theorem dX7_goOn_83 : decode cX7_goOn 83 = .ok (.imul, 1) := by decide +kernel
theorem dX7_goOn_84 : decode cX7_goOn 84 = .ok (.iconst 2, 1) := by decide +kernel
theorem dX7_goOn_85 : decode cX7_goOn 85 = .ok (.aload_n 0, 1) := by decide +kernel
theorem dX7_goOn_86 : decode cX7_goOn 86 = .ok (.getfield 158, 3) := by decide +kernel
theorem dX7_goOn_89 : decode cX7_goOn 89 = .ok (.imul, 1) := by decide +kernel
theorem dX7_goOn_90 : decode cX7_goOn 90 = .ok (.iadd, 1) := by decide +kernel
theorem dX7_goOn_91 : decode cX7_goOn 91 = .ok (.aload_n 0, 1) := by decide +kernel
theorem dX7_goOn_92 : decode cX7_goOn 92 = .ok (.getfield 142, 3) := by decide +kernel
theorem dX7_goOn_95 : decode cX7_goOn 95 = .ok (.iadd, 1) := by decide +kernel
theorem dX7_goOn_96 : decode cX7_goOn 96 = .ok (.iaload, 1) := by decide +kernel
theorem dX7_goOn_97 : decode cX7_goOn 97 = .ok (.iadd, 1) := by decide +kernel
theorem dX7_goOn_98 : decode cX7_goOn 98 = .ok (.putfield 164, 3) := by decide +kernel
theorem dX7_goOn_101 : decode cX7_goOn 101 = .ok (.aload_n 0, 1) := by decide +kernel
theorem dX7_goOn_102 : decode cX7_goOn 102 = .ok (.dup, 1) := by decide +kernel
theorem dX7_goOn_103 : decode cX7_goOn 103 = .ok (.getfield 161, 3) := by decide +kernel
theorem dX7_goOn_106 : decode cX7_goOn 106 = .ok (.iconst 1, 1) := by decide +kernel
theorem dX7_goOn_107 : decode cX7_goOn 107 = .ok (.iadd, 1) := by decide +kernel
theorem dX7_goOn_108 : decode cX7_goOn 108 = .ok (.putfield 161, 3) := by decide +kernel
theorem dX7_goOn_111 : decode cX7_goOn 111 = .ok (.aload_n 0, 1) := by decide +kernel
theorem dX7_goOn_112 : decode cX7_goOn 112 = .ok (.aload_n 0, 1) := by decide +kernel
theorem dX7_goOn_113 : decode cX7_goOn 113 = .ok (.getfield 142, 3) := by decide +kernel
theorem dX7_goOn_116 : decode cX7_goOn 116 = .ok (.putfield 158, 3) := by decide +kernel
theorem dX7_goOn_119 : decode cX7_goOn 119 = .ok (.return_, 1) := by decide +kernel
theorem dX7_goAlong_0 : decode cX7_goAlong 0 = .ok (.aload_n 0, 1) := by decide +kernel
theorem dX7_goAlong_1 : decode cX7_goAlong 1 = .ok (.invokevirtual 173, 3) := by decide +kernel
theorem dX7_goAlong_4 : decode cX7_goAlong 4 = .ok (.iconst 0, 1) := by decide +kernel
theorem dX7_goAlong_5 : decode cX7_goAlong 5 = .ok (.istore_n 3, 1) := by decide +kernel
theorem dX7_goAlong_6 : decode cX7_goAlong 6 = .ok (.iload_n 3, 1) := by decide +kernel
theorem dX7_goAlong_7 : decode cX7_goAlong 7 = .ok (.iload_n 2, 1) := by decide +kernel
theorem dX7_goAlong_8 : decode cX7_goAlong 8 = .ok (.if_icmp .ge 28, 3) := by decide +kernel
theorem dX7_goAlong_11 : decode cX7_goAlong 11 = .ok (.aload_n 0, 1) := by decide +kernel
theorem dX7_goAlong_12 : decode cX7_goAlong 12 = .ok (.getfield 155, 3) := by decide +kernel
theorem dX7_goAlong_15 : decode cX7_goAlong 15 = .ok (.iconst (-1), 1) := by decide +kernel
theorem dX7_goAlong_16 : decode cX7_goAlong 16 = .ok (.if_icmp .eq 20, 3) := by decide +kernel
theorem dX7_goAlong_19 : decode cX7_goAlong 19 = .ok (.aload_n 0, 1) := by decide +kernel
theorem dX7_goAlong_20 : decode cX7_goAlong 20 = .ok (.iload_n 1, 1) := by decide +kernel
theorem dX7_goAlong_21 : decode cX7_goAlong 21 = .ok (.aload_n 0, 1) := by decide +kernel
theorem dX7_goAlong_22 : decode cX7_goAlong 22 = .ok (.getfield 26, 3) := by decide +kernel
theorem dX7_goAlong_25 : decode cX7_goAlong 25 = .ok (.iload_n 3, 1) := by decide +kernel
theorem dX7_goAlong_26 : decode cX7_goAlong 26 = .ok (.iaload, 1) := by decide +kernel
theorem dX7_goAlong_27 : decode cX7_goAlong 27 = .ok (.invokevirtual 176, 3) := by decide +kernel
theorem dX7_goAlong_30 : decode cX7_goAlong 30 = .ok (.iinc 3 1, 3) := by decide +kernel
theorem dX7_goAlong_33 : decode cX7_goAlong 33 = .ok (.goto (-27), 3) := by decide +kernel
theorem dX7_goAlong_36 : decode cX7_goAlong 36 = .ok (.return_, 1) := by decide +kernel
theorem dX7_isAlive_0 : decode cX7_isAlive 0 = .ok (.aload_n 0, 1) := by decide +kernel
theorem dX7_isAlive_1 : decode cX7_isAlive 1 = .ok (.iload_n 1, 1) := by decide +kernel
theorem dX7_isAlive_2 : decode cX7_isAlive 2 = .ok (.aload_n 0, 1) := by decide +kernel
theorem dX7_isAlive_3 : decode cX7_isAlive 3 = .ok (.getfield 133, 3) := by decide +kernel
theorem dX7_isAlive_6 : decode cX7_isAlive 6 = .ok (.invokevirtual 180, 3) := by decide +kernel
theorem dX7_isAlive_9 : decode cX7_isAlive 9 = .ok (.aload_n 0, 1) := by decide +kernel
theorem dX7_isAlive_10 : decode cX7_isAlive 10 = .ok (.getfield 155, 3) := by decide +kernel
theorem dX7_isAlive_13 : decode cX7_isAlive 13 = .ok (.iconst (-1), 1) := by decide +kernel
theorem dX7_isAlive_14 : decode cX7_isAlive 14 = .ok (.if_icmp .eq 7, 3) := by decide +kernel
theorem dX7_isAlive_17 : decode cX7_isAlive 17 = .ok (.iconst 1, 1) := by decide +kernel
theorem dX7_isAlive_18 : decode cX7_isAlive 18 = .ok (.goto 4, 3) := by decide +kernel
theorem dX7_isAlive_21 : decode cX7_isAlive 21 = .ok (.iconst 0, 1) := by decide +kernel
theorem dX7_isAlive_22 : decode cX7_isAlive 22 = .ok (.ireturn, 1) := by decide +kernel
theorem dX7_isValid_0 : decode cX7_isValid 0 = .ok (.aload_n 0, 1) := by decide +kernel
theorem dX7_isValid_1 : decode cX7_isValid 1 = .ok (.iload_n 1, 1) := by decide +kernel
theorem dX7_isValid_2 : decode cX7_isValid 2 = .ok (.aload_n 0, 1) := by decide +kernel
theorem dX7_isValid_3 : decode cX7_isValid 3 = .ok (.getfield 133, 3) := by decide +kernel
theorem dX7_isValid_6 : decode cX7_isValid 6 = .ok (.invokevirtual 180, 3) := by decide +kernel
theorem dX7_isValid_9 : decode cX7_isValid 9 = .ok (.aload_n 0, 1) := by decide +kernel
theorem dX7_isValid_10 : decode cX7_isValid 10 = .ok (.getfield 155, 3) := by decide +kernel
theorem dX7_isValid_13 : decode cX7_isValid 13 = .ok (.ifCond .ne 7, 3) := by decide +kernel
theorem dX7_isValid_16 : decode cX7_isValid 16 = .ok (.iconst 1, 1) := by decide +kernel
theorem dX7_isValid_17 : decode cX7_isValid 17 = .ok (.goto 4, 3) := by decide +kernel
theorem dX7_isValid_20 : decode cX7_isValid 20 = .ok (.iconst 0, 1) := by decide +kernel
theorem dX7_isValid_21 : decode cX7_isValid 21 = .ok (.ireturn, 1) := by decide +kernel
theorem dX7_weightOf_0 : decode cX7_weightOf 0 = .ok (.aload_n 0, 1) := by decide +kernel
theorem dX7_weightOf_1 : decode cX7_weightOf 1 = .ok (.iload_n 1, 1) := by decide +kernel
theorem dX7_weightOf_2 : decode cX7_weightOf 2 = .ok (.aload_n 0, 1) := by decide +kernel
theorem dX7_weightOf_3 : decode cX7_weightOf 3 = .ok (.getfield 133, 3) := by decide +kernel
theorem dX7_weightOf_6 : decode cX7_weightOf 6 = .ok (.invokevirtual 180, 3) := by decide +kernel
theorem dX7_weightOf_9 : decode cX7_weightOf 9 = .ok (.aload_n 0, 1) := by decide +kernel
theorem dX7_weightOf_10 : decode cX7_weightOf 10 = .ok (.getfield 164, 3) := by decide +kernel
theorem dX7_weightOf_13 : decode cX7_weightOf 13 = .ok (.ireturn, 1) := by decide +kernel
theorem dX7_judgedNow_0 : decode cX7_judgedNow 0 = .ok (.iconst (-1), 1) := by decide +kernel
theorem dX7_judgedNow_1 : decode cX7_judgedNow 1 = .ok (.istore_n 1, 1) := by decide +kernel
theorem dX7_judgedNow_2 : decode cX7_judgedNow 2 = .ok (.iconst (-1), 1) := by decide +kernel
theorem dX7_judgedNow_3 : decode cX7_judgedNow 3 = .ok (.istore_n 2, 1) := by decide +kernel
theorem dX7_judgedNow_4 : decode cX7_judgedNow 4 = .ok (.iconst 0, 1) := by decide +kernel
theorem dX7_judgedNow_5 : decode cX7_judgedNow 5 = .ok (.istore_n 3, 1) := by decide +kernel
theorem dX7_judgedNow_6 : decode cX7_judgedNow 6 = .ok (.iload_n 3, 1) := by decide +kernel
theorem dX7_judgedNow_7 : decode cX7_judgedNow 7 = .ok (.aload_n 0, 1) := by decide +kernel
theorem dX7_judgedNow_8 : decode cX7_judgedNow 8 = .ok (.getfield 110, 3) := by decide +kernel
theorem dX7_judgedNow_11 : decode cX7_judgedNow 11 = .ok (.if_icmp .ge 32, 3) := by decide +kernel
theorem dX7_judgedNow_14 : decode cX7_judgedNow 14 = .ok (.aload_n 0, 1) := by decide +kernel
theorem dX7_judgedNow_15 : decode cX7_judgedNow 15 = .ok (.iload_n 3, 1) := by decide +kernel
theorem dX7_judgedNow_16 : decode cX7_judgedNow 16 = .ok (.invokevirtual 183, 3) := by decide +kernel
theorem dX7_judgedNow_19 : decode cX7_judgedNow 19 = .ok (.ifCond .eq 18, 3) := by decide +kernel
theorem dX7_judgedNow_22 : decode cX7_judgedNow 22 = .ok (.aload_n 0, 1) := by decide +kernel
theorem dX7_judgedNow_23 : decode cX7_judgedNow 23 = .ok (.getfield 164, 3) := by decide +kernel
theorem dX7_judgedNow_26 : decode cX7_judgedNow 26 = .ok (.iload_n 2, 1) := by decide +kernel
theorem dX7_judgedNow_27 : decode cX7_judgedNow 27 = .ok (.if_icmp .le 10, 3) := by decide +kernel
theorem dX7_judgedNow_30 : decode cX7_judgedNow 30 = .ok (.iload_n 3, 1) := by decide +kernel
theorem dX7_judgedNow_31 : decode cX7_judgedNow 31 = .ok (.istore_n 1, 1) := by decide +kernel
theorem dX7_judgedNow_32 : decode cX7_judgedNow 32 = .ok (.aload_n 0, 1) := by decide +kernel
theorem dX7_judgedNow_33 : decode cX7_judgedNow 33 = .ok (.getfield 164, 3) := by decide +kernel
theorem dX7_judgedNow_36 : decode cX7_judgedNow 36 = .ok (.istore_n 2, 1) := by decide +kernel
theorem dX7_judgedNow_37 : decode cX7_judgedNow 37 = .ok (.iinc 3 1, 3) := by decide +kernel
theorem dX7_judgedNow_40 : decode cX7_judgedNow 40 = .ok (.goto (-34), 3) := by decide +kernel
theorem dX7_judgedNow_43 : decode cX7_judgedNow 43 = .ok (.iload_n 1, 1) := by decide +kernel
theorem dX7_judgedNow_44 : decode cX7_judgedNow 44 = .ok (.ireturn, 1) := by decide +kernel
theorem dX7_rankKey_0 : decode cX7_rankKey 0 = .ok (.aload_n 0, 1) := by decide +kernel
theorem dX7_rankKey_1 : decode cX7_rankKey 1 = .ok (.iload_n 1, 1) := by decide +kernel
theorem dX7_rankKey_2 : decode cX7_rankKey 2 = .ok (.invokevirtual 183, 3) := by decide +kernel
theorem dX7_rankKey_5 : decode cX7_rankKey 5 = .ok (.ifCond .eq 7, 3) := by decide +kernel
theorem dX7_rankKey_8 : decode cX7_rankKey 8 = .ok (.iconst 2, 1) := by decide +kernel
theorem dX7_rankKey_9 : decode cX7_rankKey 9 = .ok (.goto 16, 3) := by decide +kernel
theorem dX7_rankKey_12 : decode cX7_rankKey 12 = .ok (.aload_n 0, 1) := by decide +kernel
theorem dX7_rankKey_13 : decode cX7_rankKey 13 = .ok (.getfield 155, 3) := by decide +kernel
theorem dX7_rankKey_16 : decode cX7_rankKey 16 = .ok (.iconst (-1), 1) := by decide +kernel
theorem dX7_rankKey_17 : decode cX7_rankKey 17 = .ok (.if_icmp .eq 7, 3) := by decide +kernel
theorem dX7_rankKey_20 : decode cX7_rankKey 20 = .ok (.iconst 1, 1) := by decide +kernel
theorem dX7_rankKey_21 : decode cX7_rankKey 21 = .ok (.goto 4, 3) := by decide +kernel
theorem dX7_rankKey_24 : decode cX7_rankKey 24 = .ok (.iconst 0, 1) := by decide +kernel
theorem dX7_rankKey_25 : decode cX7_rankKey 25 = .ok (.istore_n 2, 1) := by decide +kernel
theorem dX7_rankKey_26 : decode cX7_rankKey 26 = .ok (.sipush 1000, 3) := by decide +kernel
theorem dX7_rankKey_29 : decode cX7_rankKey 29 = .ok (.iload_n 2, 1) := by decide +kernel
theorem dX7_rankKey_30 : decode cX7_rankKey 30 = .ok (.imul, 1) := by decide +kernel
theorem dX7_rankKey_31 : decode cX7_rankKey 31 = .ok (.aload_n 0, 1) := by decide +kernel
theorem dX7_rankKey_32 : decode cX7_rankKey 32 = .ok (.getfield 164, 3) := by decide +kernel
theorem dX7_rankKey_35 : decode cX7_rankKey 35 = .ok (.iadd, 1) := by decide +kernel
theorem dX7_rankKey_36 : decode cX7_rankKey 36 = .ok (.ireturn, 1) := by decide +kernel
theorem dX7_isAhead_0 : decode cX7_isAhead 0 = .ok (.aload_n 0, 1) := by decide +kernel
theorem dX7_isAhead_1 : decode cX7_isAhead 1 = .ok (.iload_n 1, 1) := by decide +kernel
theorem dX7_isAhead_2 : decode cX7_isAhead 2 = .ok (.invokevirtual 186, 3) := by decide +kernel
theorem dX7_isAhead_5 : decode cX7_isAhead 5 = .ok (.istore_n 3, 1) := by decide +kernel
theorem dX7_isAhead_6 : decode cX7_isAhead 6 = .ok (.aload_n 0, 1) := by decide +kernel
theorem dX7_isAhead_7 : decode cX7_isAhead 7 = .ok (.iload_n 2, 1) := by decide +kernel
theorem dX7_isAhead_8 : decode cX7_isAhead 8 = .ok (.invokevirtual 186, 3) := by decide +kernel
theorem dX7_isAhead_11 : decode cX7_isAhead 11 = .ok (.istore 4, 2) := by decide +kernel
theorem dX7_isAhead_13 : decode cX7_isAhead 13 = .ok (.iload_n 3, 1) := by decide +kernel
theorem dX7_isAhead_14 : decode cX7_isAhead 14 = .ok (.iload 4, 2) := by decide +kernel
theorem dX7_isAhead_16 : decode cX7_isAhead 16 = .ok (.if_icmp .gt 14, 3) := by decide +kernel
theorem dX7_isAhead_19 : decode cX7_isAhead 19 = .ok (.iload_n 3, 1) := by decide +kernel
theorem dX7_isAhead_20 : decode cX7_isAhead 20 = .ok (.iload 4, 2) := by decide +kernel
theorem dX7_isAhead_22 : decode cX7_isAhead 22 = .ok (.if_icmp .ne 12, 3) := by decide +kernel
theorem dX7_isAhead_25 : decode cX7_isAhead 25 = .ok (.iload_n 1, 1) := by decide +kernel
theorem dX7_isAhead_26 : decode cX7_isAhead 26 = .ok (.iload_n 2, 1) := by decide +kernel
theorem dX7_isAhead_27 : decode cX7_isAhead 27 = .ok (.if_icmp .ge 7, 3) := by decide +kernel
theorem dX7_isAhead_30 : decode cX7_isAhead 30 = .ok (.iconst 1, 1) := by decide +kernel
theorem dX7_isAhead_31 : decode cX7_isAhead 31 = .ok (.goto 4, 3) := by decide +kernel
theorem dX7_isAhead_34 : decode cX7_isAhead 34 = .ok (.iconst 0, 1) := by decide +kernel
theorem dX7_isAhead_35 : decode cX7_isAhead 35 = .ok (.ireturn, 1) := by decide +kernel
theorem dX7_rankOf_0 : decode cX7_rankOf 0 = .ok (.iconst 0, 1) := by decide +kernel
theorem dX7_rankOf_1 : decode cX7_rankOf 1 = .ok (.istore_n 2, 1) := by decide +kernel
theorem dX7_rankOf_2 : decode cX7_rankOf 2 = .ok (.iconst 0, 1) := by decide +kernel
theorem dX7_rankOf_3 : decode cX7_rankOf 3 = .ok (.istore_n 3, 1) := by decide +kernel
theorem dX7_rankOf_4 : decode cX7_rankOf 4 = .ok (.iload_n 3, 1) := by decide +kernel
theorem dX7_rankOf_5 : decode cX7_rankOf 5 = .ok (.aload_n 0, 1) := by decide +kernel
theorem dX7_rankOf_6 : decode cX7_rankOf 6 = .ok (.getfield 110, 3) := by decide +kernel
theorem dX7_rankOf_9 : decode cX7_rankOf 9 = .ok (.if_icmp .ge 31, 3) := by decide +kernel
theorem dX7_rankOf_12 : decode cX7_rankOf 12 = .ok (.iload_n 2, 1) := by decide +kernel
theorem dX7_rankOf_13 : decode cX7_rankOf 13 = .ok (.iload_n 3, 1) := by decide +kernel
theorem dX7_rankOf_14 : decode cX7_rankOf 14 = .ok (.iload_n 1, 1) := by decide +kernel
theorem dX7_rankOf_15 : decode cX7_rankOf 15 = .ok (.if_icmp .eq 16, 3) := by decide +kernel
theorem dX7_rankOf_18 : decode cX7_rankOf 18 = .ok (.aload_n 0, 1) := by decide +kernel
theorem dX7_rankOf_19 : decode cX7_rankOf 19 = .ok (.iload_n 3, 1) := by decide +kernel
theorem dX7_rankOf_20 : decode cX7_rankOf 20 = .ok (.iload_n 1, 1) := by decide +kernel
theorem dX7_rankOf_21 : decode cX7_rankOf 21 = .ok (.invokevirtual 189, 3) := by decide +kernel
theorem dX7_rankOf_24 : decode cX7_rankOf 24 = .ok (.ifCond .eq 7, 3) := by decide +kernel
theorem dX7_rankOf_27 : decode cX7_rankOf 27 = .ok (.iconst 1, 1) := by decide +kernel
theorem dX7_rankOf_28 : decode cX7_rankOf 28 = .ok (.goto 4, 3) := by decide +kernel
theorem dX7_rankOf_31 : decode cX7_rankOf 31 = .ok (.iconst 0, 1) := by decide +kernel
theorem dX7_rankOf_32 : decode cX7_rankOf 32 = .ok (.iadd, 1) := by decide +kernel
theorem dX7_rankOf_33 : decode cX7_rankOf 33 = .ok (.istore_n 2, 1) := by decide +kernel
theorem dX7_rankOf_34 : decode cX7_rankOf 34 = .ok (.iinc 3 1, 3) := by decide +kernel
theorem dX7_rankOf_37 : decode cX7_rankOf 37 = .ok (.goto (-33), 3) := by decide +kernel
theorem dX7_rankOf_40 : decode cX7_rankOf 40 = .ok (.iload_n 2, 1) := by decide +kernel
theorem dX7_rankOf_41 : decode cX7_rankOf 41 = .ok (.ireturn, 1) := by decide +kernel
theorem dX7_placeOf_0 : decode cX7_placeOf 0 = .ok (.iconst 3, 1) := by decide +kernel
theorem dX7_placeOf_1 : decode cX7_placeOf 1 = .ok (.iload_n 0, 1) := by decide +kernel
theorem dX7_placeOf_2 : decode cX7_placeOf 2 = .ok (.imul, 1) := by decide +kernel
theorem dX7_placeOf_3 : decode cX7_placeOf 3 = .ok (.iload_n 1, 1) := by decide +kernel
theorem dX7_placeOf_4 : decode cX7_placeOf 4 = .ok (.iadd, 1) := by decide +kernel
theorem dX7_placeOf_5 : decode cX7_placeOf 5 = .ok (.iconst 1, 1) := by decide +kernel
theorem dX7_placeOf_6 : decode cX7_placeOf 6 = .ok (.iadd, 1) := by decide +kernel
theorem dX7_placeOf_7 : decode cX7_placeOf 7 = .ok (.ireturn, 1) := by decide +kernel
theorem dX7_gain_0 : decode cX7_gain 0 = .ok (.iload_n 2, 1) := by decide +kernel
theorem dX7_gain_1 : decode cX7_gain 1 = .ok (.iconst (-1), 1) := by decide +kernel
theorem dX7_gain_2 : decode cX7_gain 2 = .ok (.if_icmp .eq 11, 3) := by decide +kernel
theorem dX7_gain_5 : decode cX7_gain 5 = .ok (.aload_n 0, 1) := by decide +kernel
theorem dX7_gain_6 : decode cX7_gain 6 = .ok (.getfield 142, 3) := by decide +kernel
theorem dX7_gain_9 : decode cX7_gain 9 = .ok (.iconst (-1), 1) := by decide +kernel
theorem dX7_gain_10 : decode cX7_gain 10 = .ok (.if_icmp .ne 7, 3) := by decide +kernel
theorem dX7_gain_13 : decode cX7_gain 13 = .ok (.iconst 0, 1) := by decide +kernel
theorem dX7_gain_14 : decode cX7_gain 14 = .ok (.goto 20, 3) := by decide +kernel
theorem dX7_gain_17 : decode cX7_gain 17 = .ok (.aload_n 0, 1) := by decide +kernel
theorem dX7_gain_18 : decode cX7_gain 18 = .ok (.getfield 19, 3) := by decide +kernel
theorem dX7_gain_21 : decode cX7_gain 21 = .ok (.iconst 4, 1) := by decide +kernel
theorem dX7_gain_22 : decode cX7_gain 22 = .ok (.iload_n 1, 1) := by decide +kernel
theorem dX7_gain_23 : decode cX7_gain 23 = .ok (.imul, 1) := by decide +kernel
theorem dX7_gain_24 : decode cX7_gain 24 = .ok (.iconst 2, 1) := by decide +kernel
theorem dX7_gain_25 : decode cX7_gain 25 = .ok (.iload_n 2, 1) := by decide +kernel
theorem dX7_gain_26 : decode cX7_gain 26 = .ok (.imul, 1) := by decide +kernel
theorem dX7_gain_27 : decode cX7_gain 27 = .ok (.iadd, 1) := by decide +kernel
theorem dX7_gain_28 : decode cX7_gain 28 = .ok (.aload_n 0, 1) := by decide +kernel
theorem dX7_gain_29 : decode cX7_gain 29 = .ok (.getfield 142, 3) := by decide +kernel
theorem dX7_gain_32 : decode cX7_gain 32 = .ok (.iadd, 1) := by decide +kernel
theorem dX7_gain_33 : decode cX7_gain 33 = .ok (.iaload, 1) := by decide +kernel
theorem dX7_gain_34 : decode cX7_gain 34 = .ok (.ireturn, 1) := by decide +kernel
theorem dX7_placeBehind_0 : decode cX7_placeBehind 0 = .ok (.iload_n 2, 1) := by decide +kernel
theorem dX7_placeBehind_1 : decode cX7_placeBehind 1 = .ok (.iconst 3, 1) := by decide +kernel
theorem dX7_placeBehind_2 : decode cX7_placeBehind 2 = .ok (.irem, 1) := by decide +kernel
theorem dX7_placeBehind_3 : decode cX7_placeBehind 3 = .ok (.iconst 1, 1) := by decide +kernel
theorem dX7_placeBehind_4 : decode cX7_placeBehind 4 = .ok (.isub, 1) := by decide +kernel
theorem dX7_placeBehind_5 : decode cX7_placeBehind 5 = .ok (.istore 4, 2) := by decide +kernel
theorem dX7_placeBehind_7 : decode cX7_placeBehind 7 = .ok (.aload_n 0, 1) := by decide +kernel
theorem dX7_placeBehind_8 : decode cX7_placeBehind 8 = .ok (.iload_n 1, 1) := by decide +kernel
theorem dX7_placeBehind_9 : decode cX7_placeBehind 9 = .ok (.iload_n 2, 1) := by decide +kernel
theorem dX7_placeBehind_10 : decode cX7_placeBehind 10 = .ok (.iconst 3, 1) := by decide +kernel
theorem dX7_placeBehind_11 : decode cX7_placeBehind 11 = .ok (.idiv, 1) := by decide +kernel
theorem dX7_placeBehind_12 : decode cX7_placeBehind 12 = .ok (.iload_n 3, 1) := by decide +kernel
theorem dX7_placeBehind_13 : decode cX7_placeBehind 13 = .ok (.invokevirtual 170, 3) := by decide +kernel
theorem dX7_placeBehind_16 : decode cX7_placeBehind 16 = .ok (.istore 5, 2) := by decide +kernel
theorem dX7_placeBehind_18 : decode cX7_placeBehind 18 = .ok (.iload 5, 2) := by decide +kernel
theorem dX7_placeBehind_20 : decode cX7_placeBehind 20 = .ok (.iconst (-1), 1) := by decide +kernel
theorem dX7_placeBehind_21 : decode cX7_placeBehind 21 = .ok (.if_icmp .ne 5, 3) := by decide +kernel
theorem dX7_placeBehind_24 : decode cX7_placeBehind 24 = .ok (.iconst (-1), 1) := by decide +kernel
theorem dX7_placeBehind_25 : decode cX7_placeBehind 25 = .ok (.ireturn, 1) := by decide +kernel
theorem dX7_placeBehind_26 : decode cX7_placeBehind 26 = .ok (.aload_n 0, 1) := by decide +kernel
theorem dX7_placeBehind_27 : decode cX7_placeBehind 27 = .ok (.aload_n 0, 1) := by decide +kernel
theorem dX7_placeBehind_28 : decode cX7_placeBehind 28 = .ok (.iload_n 1, 1) := by decide +kernel
theorem dX7_placeBehind_29 : decode cX7_placeBehind 29 = .ok (.iload 4, 2) := by decide +kernel
theorem dX7_placeBehind_31 : decode cX7_placeBehind 31 = .ok (.invokevirtual 192, 3) := by decide +kernel
theorem dX7_placeBehind_34 : decode cX7_placeBehind 34 = .ok (.putfield 195, 3) := by decide +kernel
theorem dX7_placeBehind_37 : decode cX7_placeBehind 37 = .ok (.iload 5, 2) := by decide +kernel
theorem dX7_placeBehind_39 : decode cX7_placeBehind 39 = .ok (.aload_n 0, 1) := by decide +kernel
theorem dX7_placeBehind_40 : decode cX7_placeBehind 40 = .ok (.getfield 142, 3) := by decide +kernel
theorem dX7_placeBehind_43 : decode cX7_placeBehind 43 = .ok (.iconst (-1), 1) := by decide +kernel
theorem dX7_placeBehind_44 : decode cX7_placeBehind 44 = .ok (.if_icmp .ne 8, 3) := by decide +kernel
theorem dX7_placeBehind_47 : decode cX7_placeBehind 47 = .ok (.iload 4, 2) := by decide +kernel
theorem dX7_placeBehind_49 : decode cX7_placeBehind 49 = .ok (.goto 7, 3) := by decide +kernel
theorem dX7_placeBehind_52 : decode cX7_placeBehind 52 = .ok (.aload_n 0, 1) := by decide +kernel
theorem dX7_placeBehind_53 : decode cX7_placeBehind 53 = .ok (.getfield 142, 3) := by decide +kernel
theorem dX7_placeBehind_56 : decode cX7_placeBehind 56 = .ok (.invokestatic 198, 3) := by decide +kernel
theorem dX7_placeBehind_59 : decode cX7_placeBehind 59 = .ok (.ireturn, 1) := by decide +kernel
theorem dX7_moreBy_0 : decode cX7_moreBy 0 = .ok (.aload_n 0, 1) := by decide +kernel
theorem dX7_moreBy_1 : decode cX7_moreBy 1 = .ok (.iload_n 1, 1) := by decide +kernel
theorem dX7_moreBy_2 : decode cX7_moreBy 2 = .ok (.iload_n 3, 1) := by decide +kernel
theorem dX7_moreBy_3 : decode cX7_moreBy 3 = .ok (.bipush 15, 2) := by decide +kernel
theorem dX7_moreBy_5 : decode cX7_moreBy 5 = .ok (.idiv, 1) := by decide +kernel
theorem dX7_moreBy_6 : decode cX7_moreBy 6 = .ok (.iload 4, 2) := by decide +kernel
theorem dX7_moreBy_8 : decode cX7_moreBy 8 = .ok (.invokevirtual 201, 3) := by decide +kernel
theorem dX7_moreBy_11 : decode cX7_moreBy 11 = .ok (.istore 5, 2) := by decide +kernel
theorem dX7_moreBy_13 : decode cX7_moreBy 13 = .ok (.iload 5, 2) := by decide +kernel
theorem dX7_moreBy_15 : decode cX7_moreBy 15 = .ok (.iconst (-1), 1) := by decide +kernel
theorem dX7_moreBy_16 : decode cX7_moreBy 16 = .ok (.if_icmp .ne 6, 3) := by decide +kernel
theorem dX7_moreBy_19 : decode cX7_moreBy 19 = .ok (.ldc 204, 2) := by decide +kernel
theorem dX7_moreBy_21 : decode cX7_moreBy 21 = .ok (.ireturn, 1) := by decide +kernel
theorem dX7_moreBy_22 : decode cX7_moreBy 22 = .ok (.aload_n 0, 1) := by decide +kernel
theorem dX7_moreBy_23 : decode cX7_moreBy 23 = .ok (.getfield 195, 3) := by decide +kernel
theorem dX7_moreBy_26 : decode cX7_moreBy 26 = .ok (.istore 6, 2) := by decide +kernel
theorem dX7_moreBy_28 : decode cX7_moreBy 28 = .ok (.aload_n 0, 1) := by decide +kernel
theorem dX7_moreBy_29 : decode cX7_moreBy 29 = .ok (.iload_n 2, 1) := by decide +kernel
theorem dX7_moreBy_30 : decode cX7_moreBy 30 = .ok (.iload_n 3, 1) := by decide +kernel
theorem dX7_moreBy_31 : decode cX7_moreBy 31 = .ok (.bipush 15, 2) := by decide +kernel
theorem dX7_moreBy_33 : decode cX7_moreBy 33 = .ok (.irem, 1) := by decide +kernel
theorem dX7_moreBy_34 : decode cX7_moreBy 34 = .ok (.iload 4, 2) := by decide +kernel
theorem dX7_moreBy_36 : decode cX7_moreBy 36 = .ok (.invokevirtual 201, 3) := by decide +kernel
theorem dX7_moreBy_39 : decode cX7_moreBy 39 = .ok (.istore 7, 2) := by decide +kernel
theorem dX7_moreBy_41 : decode cX7_moreBy 41 = .ok (.iload 7, 2) := by decide +kernel
theorem dX7_moreBy_43 : decode cX7_moreBy 43 = .ok (.iconst (-1), 1) := by decide +kernel
theorem dX7_moreBy_44 : decode cX7_moreBy 44 = .ok (.if_icmp .eq 21, 3) := by decide +kernel
theorem dX7_moreBy_47 : decode cX7_moreBy 47 = .ok (.aload_n 0, 1) := by decide +kernel
theorem dX7_moreBy_48 : decode cX7_moreBy 48 = .ok (.getfield 35, 3) := by decide +kernel
theorem dX7_moreBy_51 : decode cX7_moreBy 51 = .ok (.bipush 15, 2) := by decide +kernel
theorem dX7_moreBy_53 : decode cX7_moreBy 53 = .ok (.iload 5, 2) := by decide +kernel
theorem dX7_moreBy_55 : decode cX7_moreBy 55 = .ok (.imul, 1) := by decide +kernel
theorem dX7_moreBy_56 : decode cX7_moreBy 56 = .ok (.iload 7, 2) := by decide +kernel
theorem dX7_moreBy_58 : decode cX7_moreBy 58 = .ok (.iadd, 1) := by decide +kernel
theorem dX7_moreBy_59 : decode cX7_moreBy 59 = .ok (.iaload, 1) := by decide +kernel
theorem dX7_moreBy_60 : decode cX7_moreBy 60 = .ok (.ldc 204, 2) := by decide +kernel
theorem dX7_moreBy_62 : decode cX7_moreBy 62 = .ok (.if_icmp .ne 6, 3) := by decide +kernel
theorem dX7_moreBy_65 : decode cX7_moreBy 65 = .ok (.ldc 204, 2) := by decide +kernel
theorem dX7_moreBy_67 : decode cX7_moreBy 67 = .ok (.ireturn, 1) := by decide +kernel
theorem dX7_moreBy_68 : decode cX7_moreBy 68 = .ok (.aload_n 0, 1) := by decide +kernel
theorem dX7_moreBy_69 : decode cX7_moreBy 69 = .ok (.getfield 35, 3) := by decide +kernel
theorem dX7_moreBy_72 : decode cX7_moreBy 72 = .ok (.bipush 15, 2) := by decide +kernel
theorem dX7_moreBy_74 : decode cX7_moreBy 74 = .ok (.iload 5, 2) := by decide +kernel
theorem dX7_moreBy_76 : decode cX7_moreBy 76 = .ok (.imul, 1) := by decide +kernel
theorem dX7_moreBy_77 : decode cX7_moreBy 77 = .ok (.iload 7, 2) := by decide +kernel
theorem dX7_moreBy_79 : decode cX7_moreBy 79 = .ok (.iadd, 1) := by decide +kernel
theorem dX7_moreBy_80 : decode cX7_moreBy 80 = .ok (.iaload, 1) := by decide +kernel
theorem dX7_moreBy_81 : decode cX7_moreBy 81 = .ok (.aload_n 0, 1) := by decide +kernel
theorem dX7_moreBy_82 : decode cX7_moreBy 82 = .ok (.getfield 195, 3) := by decide +kernel
theorem dX7_moreBy_85 : decode cX7_moreBy 85 = .ok (.iadd, 1) := by decide +kernel
theorem dX7_moreBy_86 : decode cX7_moreBy 86 = .ok (.iload 6, 2) := by decide +kernel
theorem dX7_moreBy_88 : decode cX7_moreBy 88 = .ok (.isub, 1) := by decide +kernel
theorem dX7_moreBy_89 : decode cX7_moreBy 89 = .ok (.ireturn, 1) := by decide +kernel
theorem dX7_isState_0 : decode cX7_isState 0 = .ok (.iload_n 0, 1) := by decide +kernel
theorem dX7_isState_1 : decode cX7_isState 1 = .ok (.iconst 2, 1) := by decide +kernel
theorem dX7_isState_2 : decode cX7_isState 2 = .ok (.if_icmp .eq 16, 3) := by decide +kernel
theorem dX7_isState_5 : decode cX7_isState 5 = .ok (.iload_n 1, 1) := by decide +kernel
theorem dX7_isState_6 : decode cX7_isState 6 = .ok (.ifCond .eq 12, 3) := by decide +kernel
theorem dX7_isState_9 : decode cX7_isState 9 = .ok (.iload_n 0, 1) := by decide +kernel
theorem dX7_isState_10 : decode cX7_isState 10 = .ok (.ifCond .eq 12, 3) := by decide +kernel
theorem dX7_isState_13 : decode cX7_isState 13 = .ok (.iload_n 1, 1) := by decide +kernel
theorem dX7_isState_14 : decode cX7_isState 14 = .ok (.iconst 1, 1) := by decide +kernel
theorem dX7_isState_15 : decode cX7_isState 15 = .ok (.if_icmp .ne 7, 3) := by decide +kernel
theorem dX7_isState_18 : decode cX7_isState 18 = .ok (.iconst 1, 1) := by decide +kernel
theorem dX7_isState_19 : decode cX7_isState 19 = .ok (.goto 4, 3) := by decide +kernel
theorem dX7_isState_22 : decode cX7_isState 22 = .ok (.iconst 0, 1) := by decide +kernel
theorem dX7_isState_23 : decode cX7_isState 23 = .ok (.ireturn, 1) := by decide +kernel
theorem dX7_goBack_0 : decode cX7_goBack 0 = .ok (.iconst 0, 1) := by decide +kernel
theorem dX7_goBack_1 : decode cX7_goBack 1 = .ok (.istore_n 3, 1) := by decide +kernel
theorem dX7_goBack_2 : decode cX7_goBack 2 = .ok (.iload_n 3, 1) := by decide +kernel
theorem dX7_goBack_3 : decode cX7_goBack 3 = .ok (.sipush 225, 3) := by decide +kernel
theorem dX7_goBack_6 : decode cX7_goBack 6 = .ok (.if_icmp .ge 118, 3) := by decide +kernel
theorem dX7_goBack_9 : decode cX7_goBack 9 = .ok (.aload_n 0, 1) := by decide +kernel
theorem dX7_goBack_10 : decode cX7_goBack 10 = .ok (.getfield 38, 3) := by decide +kernel
theorem dX7_goBack_13 : decode cX7_goBack 13 = .ok (.iload_n 3, 1) := by decide +kernel
theorem dX7_goBack_14 : decode cX7_goBack 14 = .ok (.ldc 204, 2) := by decide +kernel
theorem dX7_goBack_16 : decode cX7_goBack 16 = .ok (.iastore, 1) := by decide +kernel
theorem dX7_goBack_17 : decode cX7_goBack 17 = .ok (.aload_n 0, 1) := by decide +kernel
theorem dX7_goBack_18 : decode cX7_goBack 18 = .ok (.getfield 7, 3) := by decide +kernel
theorem dX7_goBack_21 : decode cX7_goBack 21 = .ok (.iload_n 1, 1) := by decide +kernel
theorem dX7_goBack_22 : decode cX7_goBack 22 = .ok (.iaload, 1) := by decide +kernel
theorem dX7_goBack_23 : decode cX7_goBack 23 = .ok (.iload_n 3, 1) := by decide +kernel
theorem dX7_goBack_24 : decode cX7_goBack 24 = .ok (.bipush 45, 2) := by decide +kernel
theorem dX7_goBack_26 : decode cX7_goBack 26 = .ok (.idiv, 1) := by decide +kernel
theorem dX7_goBack_27 : decode cX7_goBack 27 = .ok (.invokestatic 205, 3) := by decide +kernel
theorem dX7_goBack_30 : decode cX7_goBack 30 = .ok (.ifCond .eq 25, 3) := by decide +kernel
theorem dX7_goBack_33 : decode cX7_goBack 33 = .ok (.aload_n 0, 1) := by decide +kernel
theorem dX7_goBack_34 : decode cX7_goBack 34 = .ok (.getfield 7, 3) := by decide +kernel
theorem dX7_goBack_37 : decode cX7_goBack 37 = .ok (.iload_n 2, 1) := by decide +kernel
theorem dX7_goBack_38 : decode cX7_goBack 38 = .ok (.iaload, 1) := by decide +kernel
theorem dX7_goBack_39 : decode cX7_goBack 39 = .ok (.iload_n 3, 1) := by decide +kernel
theorem dX7_goBack_40 : decode cX7_goBack 40 = .ok (.bipush 15, 2) := by decide +kernel
theorem dX7_goBack_42 : decode cX7_goBack 42 = .ok (.irem, 1) := by decide +kernel
theorem dX7_goBack_43 : decode cX7_goBack 43 = .ok (.iconst 3, 1) := by decide +kernel
theorem dX7_goBack_44 : decode cX7_goBack 44 = .ok (.idiv, 1) := by decide +kernel
theorem dX7_goBack_45 : decode cX7_goBack 45 = .ok (.invokestatic 205, 3) := by decide +kernel
theorem dX7_goBack_48 : decode cX7_goBack 48 = .ok (.ifCond .eq 7, 3) := by decide +kernel
theorem dX7_goBack_51 : decode cX7_goBack 51 = .ok (.iconst 1, 1) := by decide +kernel
theorem dX7_goBack_52 : decode cX7_goBack 52 = .ok (.goto 4, 3) := by decide +kernel
theorem dX7_goBack_55 : decode cX7_goBack 55 = .ok (.iconst 0, 1) := by decide +kernel
theorem dX7_goBack_56 : decode cX7_goBack 56 = .ok (.istore 4, 2) := by decide +kernel
theorem dX7_goBack_58 : decode cX7_goBack 58 = .ok (.iconst 0, 1) := by decide +kernel
theorem dX7_goBack_59 : decode cX7_goBack 59 = .ok (.istore 5, 2) := by decide +kernel
theorem dX7_goBack_61 : decode cX7_goBack 61 = .ok (.iload 5, 2) := by decide +kernel
theorem dX7_goBack_63 : decode cX7_goBack 63 = .ok (.bipush 8, 2) := by decide +kernel
theorem dX7_goBack_65 : decode cX7_goBack 65 = .ok (.if_icmp .ge 53, 3) := by decide +kernel
theorem dX7_goBack_68 : decode cX7_goBack 68 = .ok (.iload 4, 2) := by decide +kernel
theorem dX7_goBack_70 : decode cX7_goBack 70 = .ok (.ifCond .eq 48, 3) := by decide +kernel
theorem dX7_goBack_73 : decode cX7_goBack 73 = .ok (.aload_n 0, 1) := by decide +kernel
theorem dX7_goBack_74 : decode cX7_goBack 74 = .ok (.iload_n 1, 1) := by decide +kernel
theorem dX7_goBack_75 : decode cX7_goBack 75 = .ok (.iload_n 2, 1) := by decide +kernel
theorem dX7_goBack_76 : decode cX7_goBack 76 = .ok (.iload_n 3, 1) := by decide +kernel
theorem dX7_goBack_77 : decode cX7_goBack 77 = .ok (.iload 5, 2) := by decide +kernel
theorem dX7_goBack_79 : decode cX7_goBack 79 = .ok (.invokevirtual 208, 3) := by decide +kernel
theorem dX7_goBack_82 : decode cX7_goBack 82 = .ok (.istore 6, 2) := by decide +kernel
theorem dX7_goBack_84 : decode cX7_goBack 84 = .ok (.aload_n 0, 1) := by decide +kernel
theorem dX7_goBack_85 : decode cX7_goBack 85 = .ok (.getfield 38, 3) := by decide +kernel
theorem dX7_goBack_88 : decode cX7_goBack 88 = .ok (.iload_n 3, 1) := by decide +kernel
theorem dX7_goBack_89 : decode cX7_goBack 89 = .ok (.iload 6, 2) := by decide +kernel
theorem dX7_goBack_91 : decode cX7_goBack 91 = .ok (.aload_n 0, 1) := by decide +kernel
theorem dX7_goBack_92 : decode cX7_goBack 92 = .ok (.getfield 38, 3) := by decide +kernel
theorem dX7_goBack_95 : decode cX7_goBack 95 = .ok (.iload_n 3, 1) := by decide +kernel
theorem dX7_goBack_96 : decode cX7_goBack 96 = .ok (.iaload, 1) := by decide +kernel
theorem dX7_goBack_97 : decode cX7_goBack 97 = .ok (.if_icmp .le 8, 3) := by decide +kernel
theorem dX7_goBack_100 : decode cX7_goBack 100 = .ok (.iload 6, 2) := by decide +kernel
theorem dX7_goBack_102 : decode cX7_goBack 102 = .ok (.goto 9, 3) := by decide +kernel
theorem dX7_goBack_105 : decode cX7_goBack 105 = .ok (.aload_n 0, 1) := by decide +kernel
theorem dX7_goBack_106 : decode cX7_goBack 106 = .ok (.getfield 38, 3) := by decide +kernel
theorem dX7_goBack_109 : decode cX7_goBack 109 = .ok (.iload_n 3, 1) := by decide +kernel
theorem dX7_goBack_110 : decode cX7_goBack 110 = .ok (.iaload, 1) := by decide +kernel
theorem dX7_goBack_111 : decode cX7_goBack 111 = .ok (.iastore, 1) := by decide +kernel
theorem dX7_goBack_112 : decode cX7_goBack 112 = .ok (.iinc 5 1, 3) := by decide +kernel
theorem dX7_goBack_115 : decode cX7_goBack 115 = .ok (.goto (-54), 3) := by decide +kernel
theorem dX7_goBack_118 : decode cX7_goBack 118 = .ok (.iinc 3 1, 3) := by decide +kernel
theorem dX7_goBack_121 : decode cX7_goBack 121 = .ok (.goto (-119), 3) := by decide +kernel
theorem dX7_goBack_124 : decode cX7_goBack 124 = .ok (.iconst 0, 1) := by decide +kernel
theorem dX7_goBack_125 : decode cX7_goBack 125 = .ok (.istore_n 3, 1) := by decide +kernel
theorem dX7_goBack_126 : decode cX7_goBack 126 = .ok (.iload_n 3, 1) := by decide +kernel
theorem dX7_goBack_127 : decode cX7_goBack 127 = .ok (.sipush 225, 3) := by decide +kernel
theorem dX7_goBack_130 : decode cX7_goBack 130 = .ok (.if_icmp .ge 21, 3) := by decide +kernel
theorem dX7_goBack_133 : decode cX7_goBack 133 = .ok (.aload_n 0, 1) := by decide +kernel
theorem dX7_goBack_134 : decode cX7_goBack 134 = .ok (.getfield 35, 3) := by decide +kernel
theorem dX7_goBack_137 : decode cX7_goBack 137 = .ok (.iload_n 3, 1) := by decide +kernel
theorem dX7_goBack_138 : decode cX7_goBack 138 = .ok (.aload_n 0, 1) := by decide +kernel
theorem dX7_goBack_139 : decode cX7_goBack 139 = .ok (.getfield 38, 3) := by decide +kernel
theorem dX7_goBack_142 : decode cX7_goBack 142 = .ok (.iload_n 3, 1) := by decide +kernel
theorem dX7_goBack_143 : decode cX7_goBack 143 = .ok (.iaload, 1) := by decide +kernel
theorem dX7_goBack_144 : decode cX7_goBack 144 = .ok (.iastore, 1) := by decide +kernel
theorem dX7_goBack_145 : decode cX7_goBack 145 = .ok (.iinc 3 1, 3) := by decide +kernel
theorem dX7_goBack_148 : decode cX7_goBack 148 = .ok (.goto (-22), 3) := by decide +kernel
theorem dX7_goBack_151 : decode cX7_goBack 151 = .ok (.return_, 1) := by decide +kernel
theorem dX7_beginBack_0 : decode cX7_beginBack 0 = .ok (.iconst 0, 1) := by decide +kernel
theorem dX7_beginBack_1 : decode cX7_beginBack 1 = .ok (.istore_n 1, 1) := by decide +kernel
theorem dX7_beginBack_2 : decode cX7_beginBack 2 = .ok (.iload_n 1, 1) := by decide +kernel
theorem dX7_beginBack_3 : decode cX7_beginBack 3 = .ok (.sipush 225, 3) := by decide +kernel
theorem dX7_beginBack_6 : decode cX7_beginBack 6 = .ok (.if_icmp .ge 37, 3) := by decide +kernel
theorem dX7_beginBack_9 : decode cX7_beginBack 9 = .ok (.aload_n 0, 1) := by decide +kernel
theorem dX7_beginBack_10 : decode cX7_beginBack 10 = .ok (.getfield 35, 3) := by decide +kernel
theorem dX7_beginBack_13 : decode cX7_beginBack 13 = .ok (.iload_n 1, 1) := by decide +kernel
theorem dX7_beginBack_14 : decode cX7_beginBack 14 = .ok (.iload_n 1, 1) := by decide +kernel
theorem dX7_beginBack_15 : decode cX7_beginBack 15 = .ok (.bipush 45, 2) := by decide +kernel
theorem dX7_beginBack_17 : decode cX7_beginBack 17 = .ok (.idiv, 1) := by decide +kernel
theorem dX7_beginBack_18 : decode cX7_beginBack 18 = .ok (.ifCond .ne 16, 3) := by decide +kernel
theorem dX7_beginBack_21 : decode cX7_beginBack 21 = .ok (.iload_n 1, 1) := by decide +kernel
theorem dX7_beginBack_22 : decode cX7_beginBack 22 = .ok (.bipush 15, 2) := by decide +kernel
theorem dX7_beginBack_24 : decode cX7_beginBack 24 = .ok (.irem, 1) := by decide +kernel
theorem dX7_beginBack_25 : decode cX7_beginBack 25 = .ok (.iconst 3, 1) := by decide +kernel
theorem dX7_beginBack_26 : decode cX7_beginBack 26 = .ok (.idiv, 1) := by decide +kernel
theorem dX7_beginBack_27 : decode cX7_beginBack 27 = .ok (.ifCond .ne 7, 3) := by decide +kernel
theorem dX7_beginBack_30 : decode cX7_beginBack 30 = .ok (.iconst 0, 1) := by decide +kernel
theorem dX7_beginBack_31 : decode cX7_beginBack 31 = .ok (.goto 5, 3) := by decide +kernel
theorem dX7_beginBack_34 : decode cX7_beginBack 34 = .ok (.ldc 204, 2) := by decide +kernel
theorem dX7_beginBack_36 : decode cX7_beginBack 36 = .ok (.iastore, 1) := by decide +kernel
theorem dX7_beginBack_37 : decode cX7_beginBack 37 = .ok (.iinc 1 1, 3) := by decide +kernel
theorem dX7_beginBack_40 : decode cX7_beginBack 40 = .ok (.goto (-38), 3) := by decide +kernel
theorem dX7_beginBack_43 : decode cX7_beginBack 43 = .ok (.return_, 1) := by decide +kernel
theorem dX7_canLose_0 : decode cX7_canLose 0 = .ok (.aload_n 0, 1) := by decide +kernel
theorem dX7_canLose_1 : decode cX7_canLose 1 = .ok (.iload_n 1, 1) := by decide +kernel
theorem dX7_canLose_2 : decode cX7_canLose 2 = .ok (.iload_n 3, 1) := by decide +kernel
theorem dX7_canLose_3 : decode cX7_canLose 3 = .ok (.invokevirtual 180, 3) := by decide +kernel
theorem dX7_canLose_6 : decode cX7_canLose 6 = .ok (.aload_n 0, 1) := by decide +kernel
theorem dX7_canLose_7 : decode cX7_canLose 7 = .ok (.getfield 155, 3) := by decide +kernel
theorem dX7_canLose_10 : decode cX7_canLose 10 = .ok (.iconst (-1), 1) := by decide +kernel
theorem dX7_canLose_11 : decode cX7_canLose 11 = .ok (.if_icmp .ne 5, 3) := by decide +kernel
theorem dX7_canLose_14 : decode cX7_canLose 14 = .ok (.iconst 0, 1) := by decide +kernel
theorem dX7_canLose_15 : decode cX7_canLose 15 = .ok (.ireturn, 1) := by decide +kernel
theorem dX7_canLose_16 : decode cX7_canLose 16 = .ok (.aload_n 0, 1) := by decide +kernel
theorem dX7_canLose_17 : decode cX7_canLose 17 = .ok (.getfield 155, 3) := by decide +kernel
theorem dX7_canLose_20 : decode cX7_canLose 20 = .ok (.aload_n 0, 1) := by decide +kernel
theorem dX7_canLose_21 : decode cX7_canLose 21 = .ok (.getfield 158, 3) := by decide +kernel
theorem dX7_canLose_24 : decode cX7_canLose 24 = .ok (.invokestatic 198, 3) := by decide +kernel
theorem dX7_canLose_27 : decode cX7_canLose 27 = .ok (.istore 4, 2) := by decide +kernel
theorem dX7_canLose_29 : decode cX7_canLose 29 = .ok (.aload_n 0, 1) := by decide +kernel
theorem dX7_canLose_30 : decode cX7_canLose 30 = .ok (.getfield 164, 3) := by decide +kernel
theorem dX7_canLose_33 : decode cX7_canLose 33 = .ok (.istore 5, 2) := by decide +kernel
theorem dX7_canLose_35 : decode cX7_canLose 35 = .ok (.aload_n 0, 1) := by decide +kernel
theorem dX7_canLose_36 : decode cX7_canLose 36 = .ok (.iload_n 2, 1) := by decide +kernel
theorem dX7_canLose_37 : decode cX7_canLose 37 = .ok (.iload_n 3, 1) := by decide +kernel
theorem dX7_canLose_38 : decode cX7_canLose 38 = .ok (.invokevirtual 180, 3) := by decide +kernel
theorem dX7_canLose_41 : decode cX7_canLose 41 = .ok (.aload_n 0, 1) := by decide +kernel
theorem dX7_canLose_42 : decode cX7_canLose 42 = .ok (.getfield 155, 3) := by decide +kernel
theorem dX7_canLose_45 : decode cX7_canLose 45 = .ok (.iconst (-1), 1) := by decide +kernel
theorem dX7_canLose_46 : decode cX7_canLose 46 = .ok (.if_icmp .ne 5, 3) := by decide +kernel
theorem dX7_canLose_49 : decode cX7_canLose 49 = .ok (.iconst 0, 1) := by decide +kernel
theorem dX7_canLose_50 : decode cX7_canLose 50 = .ok (.ireturn, 1) := by decide +kernel
theorem dX7_canLose_51 : decode cX7_canLose 51 = .ok (.aload_n 0, 1) := by decide +kernel
theorem dX7_canLose_52 : decode cX7_canLose 52 = .ok (.getfield 35, 3) := by decide +kernel
theorem dX7_canLose_55 : decode cX7_canLose 55 = .ok (.bipush 15, 2) := by decide +kernel
theorem dX7_canLose_57 : decode cX7_canLose 57 = .ok (.iload 4, 2) := by decide +kernel
theorem dX7_canLose_59 : decode cX7_canLose 59 = .ok (.imul, 1) := by decide +kernel
theorem dX7_canLose_60 : decode cX7_canLose 60 = .ok (.aload_n 0, 1) := by decide +kernel
theorem dX7_canLose_61 : decode cX7_canLose 61 = .ok (.getfield 155, 3) := by decide +kernel
theorem dX7_canLose_64 : decode cX7_canLose 64 = .ok (.aload_n 0, 1) := by decide +kernel
theorem dX7_canLose_65 : decode cX7_canLose 65 = .ok (.getfield 158, 3) := by decide +kernel
theorem dX7_canLose_68 : decode cX7_canLose 68 = .ok (.invokestatic 198, 3) := by decide +kernel
theorem dX7_canLose_71 : decode cX7_canLose 71 = .ok (.iadd, 1) := by decide +kernel
theorem dX7_canLose_72 : decode cX7_canLose 72 = .ok (.iaload, 1) := by decide +kernel
theorem dX7_canLose_73 : decode cX7_canLose 73 = .ok (.istore 6, 2) := by decide +kernel
theorem dX7_canLose_75 : decode cX7_canLose 75 = .ok (.iload 6, 2) := by decide +kernel
theorem dX7_canLose_77 : decode cX7_canLose 77 = .ok (.ldc 204, 2) := by decide +kernel
theorem dX7_canLose_79 : decode cX7_canLose 79 = .ok (.if_icmp .ne 5, 3) := by decide +kernel
theorem dX7_canLose_82 : decode cX7_canLose 82 = .ok (.iconst 0, 1) := by decide +kernel
theorem dX7_canLose_83 : decode cX7_canLose 83 = .ok (.ireturn, 1) := by decide +kernel
theorem dX7_canLose_84 : decode cX7_canLose 84 = .ok (.aload_n 0, 1) := by decide +kernel
theorem dX7_canLose_85 : decode cX7_canLose 85 = .ok (.getfield 164, 3) := by decide +kernel
theorem dX7_canLose_88 : decode cX7_canLose 88 = .ok (.iload 6, 2) := by decide +kernel
theorem dX7_canLose_90 : decode cX7_canLose 90 = .ok (.iadd, 1) := by decide +kernel
theorem dX7_canLose_91 : decode cX7_canLose 91 = .ok (.iload 5, 2) := by decide +kernel
theorem dX7_canLose_93 : decode cX7_canLose 93 = .ok (.isub, 1) := by decide +kernel
theorem dX7_canLose_94 : decode cX7_canLose 94 = .ok (.istore 7, 2) := by decide +kernel
theorem dX7_canLose_96 : decode cX7_canLose 96 = .ok (.iload 7, 2) := by decide +kernel
theorem dX7_canLose_98 : decode cX7_canLose 98 = .ok (.ifCond .gt 13, 3) := by decide +kernel
theorem dX7_canLose_101 : decode cX7_canLose 101 = .ok (.iload 7, 2) := by decide +kernel
theorem dX7_canLose_103 : decode cX7_canLose 103 = .ok (.ifCond .ne 12, 3) := by decide +kernel
theorem dX7_canLose_106 : decode cX7_canLose 106 = .ok (.iload_n 2, 1) := by decide +kernel
theorem dX7_canLose_107 : decode cX7_canLose 107 = .ok (.iload_n 1, 1) := by decide +kernel
theorem dX7_canLose_108 : decode cX7_canLose 108 = .ok (.if_icmp .ge 7, 3) := by decide +kernel
theorem dX7_canLose_111 : decode cX7_canLose 111 = .ok (.iconst 1, 1) := by decide +kernel
theorem dX7_canLose_112 : decode cX7_canLose 112 = .ok (.goto 4, 3) := by decide +kernel
theorem dX7_canLose_115 : decode cX7_canLose 115 = .ok (.iconst 0, 1) := by decide +kernel
theorem dX7_canLose_116 : decode cX7_canLose 116 = .ok (.ireturn, 1) := by decide +kernel
theorem dX7_layLoses_0 : decode cX7_layLoses 0 = .ok (.aload_n 0, 1) := by decide +kernel
theorem dX7_layLoses_1 : decode cX7_layLoses 1 = .ok (.invokevirtual 212, 3) := by decide +kernel
theorem dX7_layLoses_4 : decode cX7_layLoses 4 = .ok (.iconst 0, 1) := by decide +kernel
theorem dX7_layLoses_5 : decode cX7_layLoses 5 = .ok (.istore_n 3, 1) := by decide +kernel
theorem dX7_layLoses_6 : decode cX7_layLoses 6 = .ok (.iload_n 3, 1) := by decide +kernel
theorem dX7_layLoses_7 : decode cX7_layLoses 7 = .ok (.aload_n 0, 1) := by decide +kernel
theorem dX7_layLoses_8 : decode cX7_layLoses 8 = .ok (.getfield 22, 3) := by decide +kernel
theorem dX7_layLoses_11 : decode cX7_layLoses 11 = .ok (.if_icmp .gt 69, 3) := by decide +kernel
theorem dX7_layLoses_14 : decode cX7_layLoses 14 = .ok (.iload_n 3, 1) := by decide +kernel
theorem dX7_layLoses_15 : decode cX7_layLoses 15 = .ok (.ifCond .le 9, 3) := by decide +kernel
theorem dX7_layLoses_18 : decode cX7_layLoses 18 = .ok (.aload_n 0, 1) := by decide +kernel
theorem dX7_layLoses_19 : decode cX7_layLoses 19 = .ok (.iload_n 1, 1) := by decide +kernel
theorem dX7_layLoses_20 : decode cX7_layLoses 20 = .ok (.iload_n 2, 1) := by decide +kernel
theorem dX7_layLoses_21 : decode cX7_layLoses 21 = .ok (.invokevirtual 215, 3) := by decide +kernel
theorem dX7_layLoses_24 : decode cX7_layLoses 24 = .ok (.aload_n 0, 1) := by decide +kernel
theorem dX7_layLoses_25 : decode cX7_layLoses 25 = .ok (.getfield 22, 3) := by decide +kernel
theorem dX7_layLoses_28 : decode cX7_layLoses 28 = .ok (.iload_n 3, 1) := by decide +kernel
theorem dX7_layLoses_29 : decode cX7_layLoses 29 = .ok (.isub, 1) := by decide +kernel
theorem dX7_layLoses_30 : decode cX7_layLoses 30 = .ok (.istore 4, 2) := by decide +kernel
theorem dX7_layLoses_32 : decode cX7_layLoses 32 = .ok (.iload 4, 2) := by decide +kernel
theorem dX7_layLoses_34 : decode cX7_layLoses 34 = .ok (.aload_n 0, 1) := by decide +kernel
theorem dX7_layLoses_35 : decode cX7_layLoses 35 = .ok (.getfield 133, 3) := by decide +kernel
theorem dX7_layLoses_38 : decode cX7_layLoses 38 = .ok (.if_icmp .gt 36, 3) := by decide +kernel
theorem dX7_layLoses_41 : decode cX7_layLoses 41 = .ok (.aload_n 0, 1) := by decide +kernel
theorem dX7_layLoses_42 : decode cX7_layLoses 42 = .ok (.getfield 41, 3) := by decide +kernel
theorem dX7_layLoses_45 : decode cX7_layLoses 45 = .ok (.iload 4, 2) := by decide +kernel
theorem dX7_layLoses_47 : decode cX7_layLoses 47 = .ok (.aload_n 0, 1) := by decide +kernel
theorem dX7_layLoses_48 : decode cX7_layLoses 48 = .ok (.getfield 41, 3) := by decide +kernel
theorem dX7_layLoses_51 : decode cX7_layLoses 51 = .ok (.iload 4, 2) := by decide +kernel
theorem dX7_layLoses_53 : decode cX7_layLoses 53 = .ok (.baload, 1) := by decide +kernel
theorem dX7_layLoses_54 : decode cX7_layLoses 54 = .ok (.ifCond .eq 18, 3) := by decide +kernel
theorem dX7_layLoses_57 : decode cX7_layLoses 57 = .ok (.aload_n 0, 1) := by decide +kernel
theorem dX7_layLoses_58 : decode cX7_layLoses 58 = .ok (.iload_n 1, 1) := by decide +kernel
theorem dX7_layLoses_59 : decode cX7_layLoses 59 = .ok (.iload_n 2, 1) := by decide +kernel
theorem dX7_layLoses_60 : decode cX7_layLoses 60 = .ok (.iload 4, 2) := by decide +kernel
theorem dX7_layLoses_62 : decode cX7_layLoses 62 = .ok (.invokevirtual 218, 3) := by decide +kernel
theorem dX7_layLoses_65 : decode cX7_layLoses 65 = .ok (.ifCond .ne 7, 3) := by decide +kernel
theorem dX7_layLoses_68 : decode cX7_layLoses 68 = .ok (.iconst 1, 1) := by decide +kernel
theorem dX7_layLoses_69 : decode cX7_layLoses 69 = .ok (.goto 4, 3) := by decide +kernel
theorem dX7_layLoses_72 : decode cX7_layLoses 72 = .ok (.iconst 0, 1) := by decide +kernel
theorem dX7_layLoses_73 : decode cX7_layLoses 73 = .ok (.bastore, 1) := by decide +kernel
theorem dX7_layLoses_74 : decode cX7_layLoses 74 = .ok (.iinc 3 1, 3) := by decide +kernel
theorem dX7_layLoses_77 : decode cX7_layLoses 77 = .ok (.goto (-71), 3) := by decide +kernel
theorem dX7_layLoses_80 : decode cX7_layLoses 80 = .ok (.return_, 1) := by decide +kernel
theorem dX7_layCan_0 : decode cX7_layCan 0 = .ok (.iconst 0, 1) := by decide +kernel
theorem dX7_layCan_1 : decode cX7_layCan 1 = .ok (.istore_n 2, 1) := by decide +kernel
theorem dX7_layCan_2 : decode cX7_layCan 2 = .ok (.iload_n 2, 1) := by decide +kernel
theorem dX7_layCan_3 : decode cX7_layCan 3 = .ok (.iconst 5, 1) := by decide +kernel
theorem dX7_layCan_4 : decode cX7_layCan 4 = .ok (.if_icmp .ge 24, 3) := by decide +kernel
theorem dX7_layCan_7 : decode cX7_layCan 7 = .ok (.aload_n 0, 1) := by decide +kernel
theorem dX7_layCan_8 : decode cX7_layCan 8 = .ok (.getfield 45, 3) := by decide +kernel
theorem dX7_layCan_11 : decode cX7_layCan 11 = .ok (.iload_n 2, 1) := by decide +kernel
theorem dX7_layCan_12 : decode cX7_layCan 12 = .ok (.iload_n 2, 1) := by decide +kernel
theorem dX7_layCan_13 : decode cX7_layCan 13 = .ok (.ifCond .ne 7, 3) := by decide +kernel
theorem dX7_layCan_16 : decode cX7_layCan 16 = .ok (.iconst 1, 1) := by decide +kernel
theorem dX7_layCan_17 : decode cX7_layCan 17 = .ok (.goto 4, 3) := by decide +kernel
theorem dX7_layCan_20 : decode cX7_layCan 20 = .ok (.iconst 0, 1) := by decide +kernel
theorem dX7_layCan_21 : decode cX7_layCan 21 = .ok (.bastore, 1) := by decide +kernel
theorem dX7_layCan_22 : decode cX7_layCan 22 = .ok (.iinc 2 1, 3) := by decide +kernel
theorem dX7_layCan_25 : decode cX7_layCan 25 = .ok (.goto (-23), 3) := by decide +kernel
theorem dX7_layCan_28 : decode cX7_layCan 28 = .ok (.iconst 0, 1) := by decide +kernel
theorem dX7_layCan_29 : decode cX7_layCan 29 = .ok (.istore_n 2, 1) := by decide +kernel
theorem dX7_layCan_30 : decode cX7_layCan 30 = .ok (.iload_n 2, 1) := by decide +kernel
theorem dX7_layCan_31 : decode cX7_layCan 31 = .ok (.aload_n 0, 1) := by decide +kernel
theorem dX7_layCan_32 : decode cX7_layCan 32 = .ok (.getfield 22, 3) := by decide +kernel
theorem dX7_layCan_35 : decode cX7_layCan 35 = .ok (.if_icmp .gt 66, 3) := by decide +kernel
theorem dX7_layCan_38 : decode cX7_layCan 38 = .ok (.aload_n 0, 1) := by decide +kernel
theorem dX7_layCan_39 : decode cX7_layCan 39 = .ok (.getfield 22, 3) := by decide +kernel
theorem dX7_layCan_42 : decode cX7_layCan 42 = .ok (.iload_n 2, 1) := by decide +kernel
theorem dX7_layCan_43 : decode cX7_layCan 43 = .ok (.isub, 1) := by decide +kernel
theorem dX7_layCan_44 : decode cX7_layCan 44 = .ok (.istore_n 3, 1) := by decide +kernel
theorem dX7_layCan_45 : decode cX7_layCan 45 = .ok (.iload_n 3, 1) := by decide +kernel
theorem dX7_layCan_46 : decode cX7_layCan 46 = .ok (.aload_n 0, 1) := by decide +kernel
theorem dX7_layCan_47 : decode cX7_layCan 47 = .ok (.getfield 133, 3) := by decide +kernel
theorem dX7_layCan_50 : decode cX7_layCan 50 = .ok (.if_icmp .gt 40, 3) := by decide +kernel
theorem dX7_layCan_53 : decode cX7_layCan 53 = .ok (.aload_n 0, 1) := by decide +kernel
theorem dX7_layCan_54 : decode cX7_layCan 54 = .ok (.iload_n 1, 1) := by decide +kernel
theorem dX7_layCan_55 : decode cX7_layCan 55 = .ok (.iload_n 3, 1) := by decide +kernel
theorem dX7_layCan_56 : decode cX7_layCan 56 = .ok (.invokevirtual 180, 3) := by decide +kernel
theorem dX7_layCan_59 : decode cX7_layCan 59 = .ok (.aload_n 0, 1) := by decide +kernel
theorem dX7_layCan_60 : decode cX7_layCan 60 = .ok (.getfield 41, 3) := by decide +kernel
theorem dX7_layCan_63 : decode cX7_layCan 63 = .ok (.iload_n 3, 1) := by decide +kernel
theorem dX7_layCan_64 : decode cX7_layCan 64 = .ok (.aload_n 0, 1) := by decide +kernel
theorem dX7_layCan_65 : decode cX7_layCan 65 = .ok (.getfield 155, 3) := by decide +kernel
theorem dX7_layCan_68 : decode cX7_layCan 68 = .ok (.iconst (-1), 1) := by decide +kernel
theorem dX7_layCan_69 : decode cX7_layCan 69 = .ok (.if_icmp .eq 19, 3) := by decide +kernel
theorem dX7_layCan_72 : decode cX7_layCan 72 = .ok (.aload_n 0, 1) := by decide +kernel
theorem dX7_layCan_73 : decode cX7_layCan 73 = .ok (.getfield 45, 3) := by decide +kernel
theorem dX7_layCan_76 : decode cX7_layCan 76 = .ok (.aload_n 0, 1) := by decide +kernel
theorem dX7_layCan_77 : decode cX7_layCan 77 = .ok (.getfield 155, 3) := by decide +kernel
theorem dX7_layCan_80 : decode cX7_layCan 80 = .ok (.baload, 1) := by decide +kernel
theorem dX7_layCan_81 : decode cX7_layCan 81 = .ok (.ifCond .eq 7, 3) := by decide +kernel
theorem dX7_layCan_84 : decode cX7_layCan 84 = .ok (.iconst 1, 1) := by decide +kernel
theorem dX7_layCan_85 : decode cX7_layCan 85 = .ok (.goto 4, 3) := by decide +kernel
theorem dX7_layCan_88 : decode cX7_layCan 88 = .ok (.iconst 0, 1) := by decide +kernel
theorem dX7_layCan_89 : decode cX7_layCan 89 = .ok (.bastore, 1) := by decide +kernel
theorem dX7_layCan_90 : decode cX7_layCan 90 = .ok (.aload_n 0, 1) := by decide +kernel
theorem dX7_layCan_91 : decode cX7_layCan 91 = .ok (.iload_n 1, 1) := by decide +kernel
theorem dX7_layCan_92 : decode cX7_layCan 92 = .ok (.invokevirtual 221, 3) := by decide +kernel
theorem dX7_layCan_95 : decode cX7_layCan 95 = .ok (.iinc 2 1, 3) := by decide +kernel
theorem dX7_layCan_98 : decode cX7_layCan 98 = .ok (.goto (-68), 3) := by decide +kernel
theorem dX7_layCan_101 : decode cX7_layCan 101 = .ok (.return_, 1) := by decide +kernel
theorem dX7_goBackCan_0 : decode cX7_goBackCan 0 = .ok (.iconst 0, 1) := by decide +kernel
theorem dX7_goBackCan_1 : decode cX7_goBackCan 1 = .ok (.istore_n 2, 1) := by decide +kernel
theorem dX7_goBackCan_2 : decode cX7_goBackCan 2 = .ok (.iload_n 2, 1) := by decide +kernel
theorem dX7_goBackCan_3 : decode cX7_goBackCan 3 = .ok (.iconst 5, 1) := by decide +kernel
theorem dX7_goBackCan_4 : decode cX7_goBackCan 4 = .ok (.if_icmp .ge 88, 3) := by decide +kernel
theorem dX7_goBackCan_7 : decode cX7_goBackCan 7 = .ok (.aload_n 0, 1) := by decide +kernel
theorem dX7_goBackCan_8 : decode cX7_goBackCan 8 = .ok (.getfield 48, 3) := by decide +kernel
theorem dX7_goBackCan_11 : decode cX7_goBackCan 11 = .ok (.iload_n 2, 1) := by decide +kernel
theorem dX7_goBackCan_12 : decode cX7_goBackCan 12 = .ok (.iconst 0, 1) := by decide +kernel
theorem dX7_goBackCan_13 : decode cX7_goBackCan 13 = .ok (.bastore, 1) := by decide +kernel
theorem dX7_goBackCan_14 : decode cX7_goBackCan 14 = .ok (.iconst 0, 1) := by decide +kernel
theorem dX7_goBackCan_15 : decode cX7_goBackCan 15 = .ok (.istore_n 3, 1) := by decide +kernel
theorem dX7_goBackCan_16 : decode cX7_goBackCan 16 = .ok (.iload_n 3, 1) := by decide +kernel
theorem dX7_goBackCan_17 : decode cX7_goBackCan 17 = .ok (.bipush 8, 2) := by decide +kernel
theorem dX7_goBackCan_19 : decode cX7_goBackCan 19 = .ok (.if_icmp .ge 67, 3) := by decide +kernel
theorem dX7_goBackCan_22 : decode cX7_goBackCan 22 = .ok (.aload_n 0, 1) := by decide +kernel
theorem dX7_goBackCan_23 : decode cX7_goBackCan 23 = .ok (.getfield 7, 3) := by decide +kernel
theorem dX7_goBackCan_26 : decode cX7_goBackCan 26 = .ok (.iload_n 1, 1) := by decide +kernel
theorem dX7_goBackCan_27 : decode cX7_goBackCan 27 = .ok (.iaload, 1) := by decide +kernel
theorem dX7_goBackCan_28 : decode cX7_goBackCan 28 = .ok (.iload_n 2, 1) := by decide +kernel
theorem dX7_goBackCan_29 : decode cX7_goBackCan 29 = .ok (.invokestatic 205, 3) := by decide +kernel
theorem dX7_goBackCan_32 : decode cX7_goBackCan 32 = .ok (.ifCond .eq 54, 3) := by decide +kernel
theorem dX7_goBackCan_35 : decode cX7_goBackCan 35 = .ok (.aload_n 0, 1) := by decide +kernel
theorem dX7_goBackCan_36 : decode cX7_goBackCan 36 = .ok (.iload_n 1, 1) := by decide +kernel
theorem dX7_goBackCan_37 : decode cX7_goBackCan 37 = .ok (.iload_n 2, 1) := by decide +kernel
theorem dX7_goBackCan_38 : decode cX7_goBackCan 38 = .ok (.iload_n 3, 1) := by decide +kernel
theorem dX7_goBackCan_39 : decode cX7_goBackCan 39 = .ok (.invokevirtual 170, 3) := by decide +kernel
theorem dX7_goBackCan_42 : decode cX7_goBackCan 42 = .ok (.istore 4, 2) := by decide +kernel
theorem dX7_goBackCan_44 : decode cX7_goBackCan 44 = .ok (.aload_n 0, 1) := by decide +kernel
theorem dX7_goBackCan_45 : decode cX7_goBackCan 45 = .ok (.getfield 48, 3) := by decide +kernel
theorem dX7_goBackCan_48 : decode cX7_goBackCan 48 = .ok (.iload_n 2, 1) := by decide +kernel
theorem dX7_goBackCan_49 : decode cX7_goBackCan 49 = .ok (.aload_n 0, 1) := by decide +kernel
theorem dX7_goBackCan_50 : decode cX7_goBackCan 50 = .ok (.getfield 48, 3) := by decide +kernel
theorem dX7_goBackCan_53 : decode cX7_goBackCan 53 = .ok (.iload_n 2, 1) := by decide +kernel
theorem dX7_goBackCan_54 : decode cX7_goBackCan 54 = .ok (.baload, 1) := by decide +kernel
theorem dX7_goBackCan_55 : decode cX7_goBackCan 55 = .ok (.ifCond .ne 19, 3) := by decide +kernel
theorem dX7_goBackCan_58 : decode cX7_goBackCan 58 = .ok (.iload 4, 2) := by decide +kernel
theorem dX7_goBackCan_60 : decode cX7_goBackCan 60 = .ok (.iconst (-1), 1) := by decide +kernel
theorem dX7_goBackCan_61 : decode cX7_goBackCan 61 = .ok (.if_icmp .eq 17, 3) := by decide +kernel
theorem dX7_goBackCan_64 : decode cX7_goBackCan 64 = .ok (.aload_n 0, 1) := by decide +kernel
theorem dX7_goBackCan_65 : decode cX7_goBackCan 65 = .ok (.getfield 45, 3) := by decide +kernel
theorem dX7_goBackCan_68 : decode cX7_goBackCan 68 = .ok (.iload 4, 2) := by decide +kernel
theorem dX7_goBackCan_70 : decode cX7_goBackCan 70 = .ok (.baload, 1) := by decide +kernel
theorem dX7_goBackCan_71 : decode cX7_goBackCan 71 = .ok (.ifCond .eq 7, 3) := by decide +kernel
theorem dX7_goBackCan_74 : decode cX7_goBackCan 74 = .ok (.iconst 1, 1) := by decide +kernel
theorem dX7_goBackCan_75 : decode cX7_goBackCan 75 = .ok (.goto 4, 3) := by decide +kernel
theorem dX7_goBackCan_78 : decode cX7_goBackCan 78 = .ok (.iconst 0, 1) := by decide +kernel
theorem dX7_goBackCan_79 : decode cX7_goBackCan 79 = .ok (.bastore, 1) := by decide +kernel
theorem dX7_goBackCan_80 : decode cX7_goBackCan 80 = .ok (.iinc 3 1, 3) := by decide +kernel
theorem dX7_goBackCan_83 : decode cX7_goBackCan 83 = .ok (.goto (-67), 3) := by decide +kernel
theorem dX7_goBackCan_86 : decode cX7_goBackCan 86 = .ok (.iinc 2 1, 3) := by decide +kernel
theorem dX7_goBackCan_89 : decode cX7_goBackCan 89 = .ok (.goto (-87), 3) := by decide +kernel
theorem dX7_goBackCan_92 : decode cX7_goBackCan 92 = .ok (.iconst 0, 1) := by decide +kernel
theorem dX7_goBackCan_93 : decode cX7_goBackCan 93 = .ok (.istore_n 2, 1) := by decide +kernel
theorem dX7_goBackCan_94 : decode cX7_goBackCan 94 = .ok (.iload_n 2, 1) := by decide +kernel
theorem dX7_goBackCan_95 : decode cX7_goBackCan 95 = .ok (.iconst 5, 1) := by decide +kernel
theorem dX7_goBackCan_96 : decode cX7_goBackCan 96 = .ok (.if_icmp .ge 21, 3) := by decide +kernel
theorem dX7_goBackCan_99 : decode cX7_goBackCan 99 = .ok (.aload_n 0, 1) := by decide +kernel
theorem dX7_goBackCan_100 : decode cX7_goBackCan 100 = .ok (.getfield 45, 3) := by decide +kernel
theorem dX7_goBackCan_103 : decode cX7_goBackCan 103 = .ok (.iload_n 2, 1) := by decide +kernel
theorem dX7_goBackCan_104 : decode cX7_goBackCan 104 = .ok (.aload_n 0, 1) := by decide +kernel
theorem dX7_goBackCan_105 : decode cX7_goBackCan 105 = .ok (.getfield 48, 3) := by decide +kernel
theorem dX7_goBackCan_108 : decode cX7_goBackCan 108 = .ok (.iload_n 2, 1) := by decide +kernel
theorem dX7_goBackCan_109 : decode cX7_goBackCan 109 = .ok (.baload, 1) := by decide +kernel
theorem dX7_goBackCan_110 : decode cX7_goBackCan 110 = .ok (.bastore, 1) := by decide +kernel
theorem dX7_goBackCan_111 : decode cX7_goBackCan 111 = .ok (.iinc 2 1, 3) := by decide +kernel
theorem dX7_goBackCan_114 : decode cX7_goBackCan 114 = .ok (.goto (-20), 3) := by decide +kernel
theorem dX7_goBackCan_117 : decode cX7_goBackCan 117 = .ok (.return_, 1) := by decide +kernel
theorem dX7_sureAt_0 : decode cX7_sureAt 0 = .ok (.aload_n 0, 1) := by decide +kernel
theorem dX7_sureAt_1 : decode cX7_sureAt 1 = .ok (.iload_n 1, 1) := by decide +kernel
theorem dX7_sureAt_2 : decode cX7_sureAt 2 = .ok (.invokevirtual 224, 3) := by decide +kernel
theorem dX7_sureAt_5 : decode cX7_sureAt 5 = .ok (.iconst 0, 1) := by decide +kernel
theorem dX7_sureAt_6 : decode cX7_sureAt 6 = .ok (.istore_n 2, 1) := by decide +kernel
theorem dX7_sureAt_7 : decode cX7_sureAt 7 = .ok (.iload_n 2, 1) := by decide +kernel
theorem dX7_sureAt_8 : decode cX7_sureAt 8 = .ok (.aload_n 0, 1) := by decide +kernel
theorem dX7_sureAt_9 : decode cX7_sureAt 9 = .ok (.getfield 110, 3) := by decide +kernel
theorem dX7_sureAt_12 : decode cX7_sureAt 12 = .ok (.if_icmp .ge 20, 3) := by decide +kernel
theorem dX7_sureAt_15 : decode cX7_sureAt 15 = .ok (.iload_n 2, 1) := by decide +kernel
theorem dX7_sureAt_16 : decode cX7_sureAt 16 = .ok (.iload_n 1, 1) := by decide +kernel
theorem dX7_sureAt_17 : decode cX7_sureAt 17 = .ok (.if_icmp .eq 9, 3) := by decide +kernel
theorem dX7_sureAt_20 : decode cX7_sureAt 20 = .ok (.aload_n 0, 1) := by decide +kernel
theorem dX7_sureAt_21 : decode cX7_sureAt 21 = .ok (.iload_n 1, 1) := by decide +kernel
theorem dX7_sureAt_22 : decode cX7_sureAt 22 = .ok (.iload_n 2, 1) := by decide +kernel
theorem dX7_sureAt_23 : decode cX7_sureAt 23 = .ok (.invokevirtual 227, 3) := by decide +kernel
theorem dX7_sureAt_26 : decode cX7_sureAt 26 = .ok (.iinc 2 1, 3) := by decide +kernel
theorem dX7_sureAt_29 : decode cX7_sureAt 29 = .ok (.goto (-22), 3) := by decide +kernel
theorem dX7_sureAt_32 : decode cX7_sureAt 32 = .ok (.iconst 0, 1) := by decide +kernel
theorem dX7_sureAt_33 : decode cX7_sureAt 33 = .ok (.istore_n 2, 1) := by decide +kernel
theorem dX7_sureAt_34 : decode cX7_sureAt 34 = .ok (.iload_n 2, 1) := by decide +kernel
theorem dX7_sureAt_35 : decode cX7_sureAt 35 = .ok (.aload_n 0, 1) := by decide +kernel
theorem dX7_sureAt_36 : decode cX7_sureAt 36 = .ok (.getfield 133, 3) := by decide +kernel
theorem dX7_sureAt_39 : decode cX7_sureAt 39 = .ok (.if_icmp .gt 20, 3) := by decide +kernel
theorem dX7_sureAt_42 : decode cX7_sureAt 42 = .ok (.aload_n 0, 1) := by decide +kernel
theorem dX7_sureAt_43 : decode cX7_sureAt 43 = .ok (.getfield 41, 3) := by decide +kernel
theorem dX7_sureAt_46 : decode cX7_sureAt 46 = .ok (.iload_n 2, 1) := by decide +kernel
theorem dX7_sureAt_47 : decode cX7_sureAt 47 = .ok (.baload, 1) := by decide +kernel
theorem dX7_sureAt_48 : decode cX7_sureAt 48 = .ok (.ifCond .eq 5, 3) := by decide +kernel
theorem dX7_sureAt_51 : decode cX7_sureAt 51 = .ok (.iload_n 2, 1) := by decide +kernel
theorem dX7_sureAt_52 : decode cX7_sureAt 52 = .ok (.ireturn, 1) := by decide +kernel
theorem dX7_sureAt_53 : decode cX7_sureAt 53 = .ok (.iinc 2 1, 3) := by decide +kernel
theorem dX7_sureAt_56 : decode cX7_sureAt 56 = .ok (.goto (-22), 3) := by decide +kernel
theorem dX7_sureAt_59 : decode cX7_sureAt 59 = .ok (.iconst (-1), 1) := by decide +kernel
theorem dX7_sureAt_60 : decode cX7_sureAt 60 = .ok (.ireturn, 1) := by decide +kernel
theorem dX7_signsOf_0 : decode cX7_signsOf 0 = .ok (.aload_n 0, 1) := by decide +kernel
theorem dX7_signsOf_1 : decode cX7_signsOf 1 = .ok (.iload_n 1, 1) := by decide +kernel
theorem dX7_signsOf_2 : decode cX7_signsOf 2 = .ok (.aload_n 0, 1) := by decide +kernel
theorem dX7_signsOf_3 : decode cX7_signsOf 3 = .ok (.getfield 133, 3) := by decide +kernel
theorem dX7_signsOf_6 : decode cX7_signsOf 6 = .ok (.invokevirtual 180, 3) := by decide +kernel
theorem dX7_signsOf_9 : decode cX7_signsOf 9 = .ok (.aload_n 0, 1) := by decide +kernel
theorem dX7_signsOf_10 : decode cX7_signsOf 10 = .ok (.getfield 161, 3) := by decide +kernel
theorem dX7_signsOf_13 : decode cX7_signsOf 13 = .ok (.ireturn, 1) := by decide +kernel
theorem dX7_firstBad_0 : decode cX7_firstBad 0 = .ok (.aload_n 0, 1) := by decide +kernel
theorem dX7_firstBad_1 : decode cX7_firstBad 1 = .ok (.iload_n 1, 1) := by decide +kernel
theorem dX7_firstBad_2 : decode cX7_firstBad 2 = .ok (.aload_n 0, 1) := by decide +kernel
theorem dX7_firstBad_3 : decode cX7_firstBad 3 = .ok (.getfield 133, 3) := by decide +kernel
theorem dX7_firstBad_6 : decode cX7_firstBad 6 = .ok (.invokevirtual 180, 3) := by decide +kernel
theorem dX7_firstBad_9 : decode cX7_firstBad 9 = .ok (.aload_n 0, 1) := by decide +kernel
theorem dX7_firstBad_10 : decode cX7_firstBad 10 = .ok (.getfield 155, 3) := by decide +kernel
theorem dX7_firstBad_13 : decode cX7_firstBad 13 = .ok (.iconst (-1), 1) := by decide +kernel
theorem dX7_firstBad_14 : decode cX7_firstBad 14 = .ok (.if_icmp .ne 10, 3) := by decide +kernel
theorem dX7_firstBad_17 : decode cX7_firstBad 17 = .ok (.aload_n 0, 1) := by decide +kernel
theorem dX7_firstBad_18 : decode cX7_firstBad 18 = .ok (.getfield 167, 3) := by decide +kernel
theorem dX7_firstBad_21 : decode cX7_firstBad 21 = .ok (.goto 4, 3) := by decide +kernel
theorem dX7_firstBad_24 : decode cX7_firstBad 24 = .ok (.iconst (-1), 1) := by decide +kernel
theorem dX7_firstBad_25 : decode cX7_firstBad 25 = .ok (.ireturn, 1) := by decide +kernel
theorem dX7_aboutNow_0 : decode cX7_aboutNow 0 = .ok (.iload_n 2, 1) := by decide +kernel
theorem dX7_aboutNow_1 : decode cX7_aboutNow 1 = .ok (.tableswitch 102 0 6 #[43, 50, 64, 78, 84, 90, 96], 43) := by decide +kernel
theorem dX7_aboutNow_44 : decode cX7_aboutNow 44 = .ok (.aload_n 0, 1) := by decide +kernel
theorem dX7_aboutNow_45 : decode cX7_aboutNow 45 = .ok (.getfield 7, 3) := by decide +kernel
theorem dX7_aboutNow_48 : decode cX7_aboutNow 48 = .ok (.iload_n 1, 1) := by decide +kernel
theorem dX7_aboutNow_49 : decode cX7_aboutNow 49 = .ok (.iaload, 1) := by decide +kernel
theorem dX7_aboutNow_50 : decode cX7_aboutNow 50 = .ok (.ireturn, 1) := by decide +kernel
theorem dX7_aboutNow_51 : decode cX7_aboutNow 51 = .ok (.aload_n 0, 1) := by decide +kernel
theorem dX7_aboutNow_52 : decode cX7_aboutNow 52 = .ok (.iload_n 1, 1) := by decide +kernel
theorem dX7_aboutNow_53 : decode cX7_aboutNow 53 = .ok (.invokevirtual 230, 3) := by decide +kernel
theorem dX7_aboutNow_56 : decode cX7_aboutNow 56 = .ok (.ifCond .eq 7, 3) := by decide +kernel
theorem dX7_aboutNow_59 : decode cX7_aboutNow 59 = .ok (.iconst 1, 1) := by decide +kernel
theorem dX7_aboutNow_60 : decode cX7_aboutNow 60 = .ok (.goto 4, 3) := by decide +kernel
theorem dX7_aboutNow_63 : decode cX7_aboutNow 63 = .ok (.iconst 0, 1) := by decide +kernel
theorem dX7_aboutNow_64 : decode cX7_aboutNow 64 = .ok (.ireturn, 1) := by decide +kernel
theorem dX7_aboutNow_65 : decode cX7_aboutNow 65 = .ok (.aload_n 0, 1) := by decide +kernel
theorem dX7_aboutNow_66 : decode cX7_aboutNow 66 = .ok (.iload_n 1, 1) := by decide +kernel
theorem dX7_aboutNow_67 : decode cX7_aboutNow 67 = .ok (.invokevirtual 183, 3) := by decide +kernel
theorem dX7_aboutNow_70 : decode cX7_aboutNow 70 = .ok (.ifCond .eq 7, 3) := by decide +kernel
theorem dX7_aboutNow_73 : decode cX7_aboutNow 73 = .ok (.iconst 1, 1) := by decide +kernel
theorem dX7_aboutNow_74 : decode cX7_aboutNow 74 = .ok (.goto 4, 3) := by decide +kernel
theorem dX7_aboutNow_77 : decode cX7_aboutNow 77 = .ok (.iconst 0, 1) := by decide +kernel
theorem dX7_aboutNow_78 : decode cX7_aboutNow 78 = .ok (.ireturn, 1) := by decide +kernel
theorem dX7_aboutNow_79 : decode cX7_aboutNow 79 = .ok (.aload_n 0, 1) := by decide +kernel
theorem dX7_aboutNow_80 : decode cX7_aboutNow 80 = .ok (.iload_n 1, 1) := by decide +kernel
theorem dX7_aboutNow_81 : decode cX7_aboutNow 81 = .ok (.invokevirtual 233, 3) := by decide +kernel
theorem dX7_aboutNow_84 : decode cX7_aboutNow 84 = .ok (.ireturn, 1) := by decide +kernel
theorem dX7_aboutNow_85 : decode cX7_aboutNow 85 = .ok (.aload_n 0, 1) := by decide +kernel
theorem dX7_aboutNow_86 : decode cX7_aboutNow 86 = .ok (.iload_n 1, 1) := by decide +kernel
theorem dX7_aboutNow_87 : decode cX7_aboutNow 87 = .ok (.invokevirtual 236, 3) := by decide +kernel
theorem dX7_aboutNow_90 : decode cX7_aboutNow 90 = .ok (.ireturn, 1) := by decide +kernel
theorem dX7_aboutNow_91 : decode cX7_aboutNow 91 = .ok (.aload_n 0, 1) := by decide +kernel
theorem dX7_aboutNow_92 : decode cX7_aboutNow 92 = .ok (.iload_n 1, 1) := by decide +kernel
theorem dX7_aboutNow_93 : decode cX7_aboutNow 93 = .ok (.invokevirtual 239, 3) := by decide +kernel
theorem dX7_aboutNow_96 : decode cX7_aboutNow 96 = .ok (.ireturn, 1) := by decide +kernel
theorem dX7_aboutNow_97 : decode cX7_aboutNow 97 = .ok (.aload_n 0, 1) := by decide +kernel
theorem dX7_aboutNow_98 : decode cX7_aboutNow 98 = .ok (.iload_n 1, 1) := by decide +kernel
theorem dX7_aboutNow_99 : decode cX7_aboutNow 99 = .ok (.invokevirtual 242, 3) := by decide +kernel
theorem dX7_aboutNow_102 : decode cX7_aboutNow 102 = .ok (.ireturn, 1) := by decide +kernel
theorem dX7_aboutNow_103 : decode cX7_aboutNow 103 = .ok (.aload_n 0, 1) := by decide +kernel
theorem dX7_aboutNow_104 : decode cX7_aboutNow 104 = .ok (.iload_n 1, 1) := by decide +kernel
theorem dX7_aboutNow_105 : decode cX7_aboutNow 105 = .ok (.invokevirtual 245, 3) := by decide +kernel
theorem dX7_aboutNow_108 : decode cX7_aboutNow 108 = .ok (.ireturn, 1) := by decide +kernel
theorem dX7_about_0 : decode cX7_about 0 = .ok (.aload_n 0, 1) := by decide +kernel
theorem dX7_about_1 : decode cX7_about 1 = .ok (.iload_n 1, 1) := by decide +kernel
theorem dX7_about_2 : decode cX7_about 2 = .ok (.invokevirtual 126, 3) := by decide +kernel
theorem dX7_about_5 : decode cX7_about 5 = .ok (.ifCond .ne 8, 3) := by decide +kernel
theorem dX7_about_8 : decode cX7_about 8 = .ok (.bipush (-101), 2) := by decide +kernel
theorem dX7_about_10 : decode cX7_about 10 = .ok (.goto 24, 3) := by decide +kernel
theorem dX7_about_13 : decode cX7_about 13 = .ok (.iload_n 2, 1) := by decide +kernel
theorem dX7_about_14 : decode cX7_about 14 = .ok (.iconst 0, 1) := by decide +kernel
theorem dX7_about_15 : decode cX7_about 15 = .ok (.bipush 7, 2) := by decide +kernel
theorem dX7_about_17 : decode cX7_about 17 = .ok (.invokestatic 75, 3) := by decide +kernel
theorem dX7_about_20 : decode cX7_about 20 = .ok (.ifCond .eq 12, 3) := by decide +kernel
theorem dX7_about_23 : decode cX7_about 23 = .ok (.aload_n 0, 1) := by decide +kernel
theorem dX7_about_24 : decode cX7_about 24 = .ok (.iload_n 1, 1) := by decide +kernel
theorem dX7_about_25 : decode cX7_about 25 = .ok (.iload_n 2, 1) := by decide +kernel
theorem dX7_about_26 : decode cX7_about 26 = .ok (.invokevirtual 248, 3) := by decide +kernel
theorem dX7_about_29 : decode cX7_about 29 = .ok (.goto 5, 3) := by decide +kernel
theorem dX7_about_32 : decode cX7_about 32 = .ok (.bipush (-102), 2) := by decide +kernel
theorem dX7_about_34 : decode cX7_about 34 = .ok (.ireturn, 1) := by decide +kernel
theorem dX7_points_0 : decode cX7_points 0 = .ok (.aload_n 0, 1) := by decide +kernel
theorem dX7_points_1 : decode cX7_points 1 = .ok (.iload_n 1, 1) := by decide +kernel
theorem dX7_points_2 : decode cX7_points 2 = .ok (.invokevirtual 126, 3) := by decide +kernel
theorem dX7_points_5 : decode cX7_points 5 = .ok (.ifCond .ne 8, 3) := by decide +kernel
theorem dX7_points_8 : decode cX7_points 8 = .ok (.bipush (-101), 2) := by decide +kernel
theorem dX7_points_10 : decode cX7_points 10 = .ok (.goto 27, 3) := by decide +kernel
theorem dX7_points_13 : decode cX7_points 13 = .ok (.iload_n 2, 1) := by decide +kernel
theorem dX7_points_14 : decode cX7_points 14 = .ok (.iconst 0, 1) := by decide +kernel
theorem dX7_points_15 : decode cX7_points 15 = .ok (.iconst 3, 1) := by decide +kernel
theorem dX7_points_16 : decode cX7_points 16 = .ok (.invokestatic 75, 3) := by decide +kernel
end
section
theorem dX7_points_19 : decode cX7_points 19 = .ok (.ifCond .eq 16, 3) := by decide +kernel
theorem dX7_points_22 : decode cX7_points 22 = .ok (.aload_n 0, 1) := by decide +kernel
theorem dX7_points_23 : decode cX7_points 23 = .ok (.getfield 19, 3) := by decide +kernel
theorem dX7_points_26 : decode cX7_points 26 = .ok (.iconst 4, 1) := by decide +kernel
theorem dX7_points_27 : decode cX7_points 27 = .ok (.iload_n 1, 1) := by decide +kernel
theorem dX7_points_28 : decode cX7_points 28 = .ok (.imul, 1) := by decide +kernel
theorem dX7_points_29 : decode cX7_points 29 = .ok (.iload_n 2, 1) := by decide +kernel
theorem dX7_points_30 : decode cX7_points 30 = .ok (.iadd, 1) := by decide +kernel
theorem dX7_points_31 : decode cX7_points 31 = .ok (.iaload, 1) := by decide +kernel
theorem dX7_points_32 : decode cX7_points 32 = .ok (.goto 5, 3) := by decide +kernel
theorem dX7_points_35 : decode cX7_points 35 = .ok (.bipush (-102), 2) := by decide +kernel
theorem dX7_points_37 : decode cX7_points 37 = .ok (.ireturn, 1) := by decide +kernel
theorem dX7_pairsOf_0 : decode cX7_pairsOf 0 = .ok (.aload_n 0, 1) := by decide +kernel
theorem dX7_pairsOf_1 : decode cX7_pairsOf 1 = .ok (.iload_n 1, 1) := by decide +kernel
theorem dX7_pairsOf_2 : decode cX7_pairsOf 2 = .ok (.aload_n 0, 1) := by decide +kernel
theorem dX7_pairsOf_3 : decode cX7_pairsOf 3 = .ok (.getfield 133, 3) := by decide +kernel
theorem dX7_pairsOf_6 : decode cX7_pairsOf 6 = .ok (.invokevirtual 180, 3) := by decide +kernel
theorem dX7_pairsOf_9 : decode cX7_pairsOf 9 = .ok (.aload_n 0, 1) := by decide +kernel
theorem dX7_pairsOf_10 : decode cX7_pairsOf 10 = .ok (.getfield 32, 3) := by decide +kernel
theorem dX7_pairsOf_13 : decode cX7_pairsOf 13 = .ok (.iload_n 2, 1) := by decide +kernel
theorem dX7_pairsOf_14 : decode cX7_pairsOf 14 = .ok (.iaload, 1) := by decide +kernel
theorem dX7_pairsOf_15 : decode cX7_pairsOf 15 = .ok (.ireturn, 1) := by decide +kernel
theorem dX7_pairs_0 : decode cX7_pairs 0 = .ok (.aload_n 0, 1) := by decide +kernel
theorem dX7_pairs_1 : decode cX7_pairs 1 = .ok (.iload_n 1, 1) := by decide +kernel
theorem dX7_pairs_2 : decode cX7_pairs 2 = .ok (.invokevirtual 126, 3) := by decide +kernel
theorem dX7_pairs_5 : decode cX7_pairs 5 = .ok (.ifCond .ne 8, 3) := by decide +kernel
theorem dX7_pairs_8 : decode cX7_pairs 8 = .ok (.bipush (-101), 2) := by decide +kernel
theorem dX7_pairs_10 : decode cX7_pairs 10 = .ok (.goto 23, 3) := by decide +kernel
theorem dX7_pairs_13 : decode cX7_pairs 13 = .ok (.iload_n 2, 1) := by decide +kernel
theorem dX7_pairs_14 : decode cX7_pairs 14 = .ok (.iconst 0, 1) := by decide +kernel
theorem dX7_pairs_15 : decode cX7_pairs 15 = .ok (.iconst 3, 1) := by decide +kernel
theorem dX7_pairs_16 : decode cX7_pairs 16 = .ok (.invokestatic 75, 3) := by decide +kernel
theorem dX7_pairs_19 : decode cX7_pairs 19 = .ok (.ifCond .eq 12, 3) := by decide +kernel
theorem dX7_pairs_22 : decode cX7_pairs 22 = .ok (.aload_n 0, 1) := by decide +kernel
theorem dX7_pairs_23 : decode cX7_pairs 23 = .ok (.iload_n 1, 1) := by decide +kernel
theorem dX7_pairs_24 : decode cX7_pairs 24 = .ok (.iload_n 2, 1) := by decide +kernel
theorem dX7_pairs_25 : decode cX7_pairs 25 = .ok (.invokevirtual 251, 3) := by decide +kernel
theorem dX7_pairs_28 : decode cX7_pairs 28 = .ok (.goto 5, 3) := by decide +kernel
theorem dX7_pairs_31 : decode cX7_pairs 31 = .ok (.bipush (-102), 2) := by decide +kernel
theorem dX7_pairs_33 : decode cX7_pairs 33 = .ok (.ireturn, 1) := by decide +kernel
theorem dX7_judged_0 : decode cX7_judged 0 = .ok (.aload_n 0, 1) := by decide +kernel
theorem dX7_judged_1 : decode cX7_judged 1 = .ok (.invokevirtual 254, 3) := by decide +kernel
theorem dX7_judged_4 : decode cX7_judged 4 = .ok (.ireturn, 1) := by decide +kernel
theorem dX7_rank_0 : decode cX7_rank 0 = .ok (.iload_n 1, 1) := by decide +kernel
theorem dX7_rank_1 : decode cX7_rank 1 = .ok (.iconst 0, 1) := by decide +kernel
theorem dX7_rank_2 : decode cX7_rank 2 = .ok (.aload_n 0, 1) := by decide +kernel
theorem dX7_rank_3 : decode cX7_rank 3 = .ok (.getfield 110, 3) := by decide +kernel
theorem dX7_rank_6 : decode cX7_rank 6 = .ok (.iconst 1, 1) := by decide +kernel
theorem dX7_rank_7 : decode cX7_rank 7 = .ok (.isub, 1) := by decide +kernel
theorem dX7_rank_8 : decode cX7_rank 8 = .ok (.invokestatic 75, 3) := by decide +kernel
theorem dX7_rank_11 : decode cX7_rank 11 = .ok (.ifCond .ne 6, 3) := by decide +kernel
theorem dX7_rank_14 : decode cX7_rank 14 = .ok (.bipush (-101), 2) := by decide +kernel
theorem dX7_rank_16 : decode cX7_rank 16 = .ok (.ireturn, 1) := by decide +kernel
theorem dX7_rank_17 : decode cX7_rank 17 = .ok (.iconst 0, 1) := by decide +kernel
theorem dX7_rank_18 : decode cX7_rank 18 = .ok (.istore_n 2, 1) := by decide +kernel
theorem dX7_rank_19 : decode cX7_rank 19 = .ok (.aload_n 0, 1) := by decide +kernel
theorem dX7_rank_20 : decode cX7_rank 20 = .ok (.iload_n 2, 1) := by decide +kernel
theorem dX7_rank_21 : decode cX7_rank 21 = .ok (.invokevirtual 245, 3) := by decide +kernel
theorem dX7_rank_24 : decode cX7_rank 24 = .ok (.iload_n 1, 1) := by decide +kernel
theorem dX7_rank_25 : decode cX7_rank 25 = .ok (.if_icmp .eq 9, 3) := by decide +kernel
theorem dX7_rank_28 : decode cX7_rank 28 = .ok (.iinc 2 1, 3) := by decide +kernel
theorem dX7_rank_31 : decode cX7_rank 31 = .ok (.goto (-12), 3) := by decide +kernel
theorem dX7_rank_34 : decode cX7_rank 34 = .ok (.iload_n 2, 1) := by decide +kernel
theorem dX7_rank_35 : decode cX7_rank 35 = .ok (.ireturn, 1) := by decide +kernel
theorem dX7_oneMore_0 : decode cX7_oneMore 0 = .ok (.iconst 0, 1) := by decide +kernel
theorem dX7_oneMore_1 : decode cX7_oneMore 1 = .ok (.istore_n 2, 1) := by decide +kernel
theorem dX7_oneMore_2 : decode cX7_oneMore 2 = .ok (.iload_n 2, 1) := by decide +kernel
theorem dX7_oneMore_3 : decode cX7_oneMore 3 = .ok (.iconst 5, 1) := by decide +kernel
theorem dX7_oneMore_4 : decode cX7_oneMore 4 = .ok (.if_icmp .ge 16, 3) := by decide +kernel
theorem dX7_oneMore_7 : decode cX7_oneMore 7 = .ok (.aload_n 0, 1) := by decide +kernel
theorem dX7_oneMore_8 : decode cX7_oneMore 8 = .ok (.getfield 54, 3) := by decide +kernel
theorem dX7_oneMore_11 : decode cX7_oneMore 11 = .ok (.iload_n 2, 1) := by decide +kernel
theorem dX7_oneMore_12 : decode cX7_oneMore 12 = .ok (.iconst 0, 1) := by decide +kernel
theorem dX7_oneMore_13 : decode cX7_oneMore 13 = .ok (.iastore, 1) := by decide +kernel
theorem dX7_oneMore_14 : decode cX7_oneMore 14 = .ok (.iinc 2 1, 3) := by decide +kernel
theorem dX7_oneMore_17 : decode cX7_oneMore 17 = .ok (.goto (-15), 3) := by decide +kernel
theorem dX7_oneMore_20 : decode cX7_oneMore 20 = .ok (.iconst 0, 1) := by decide +kernel
theorem dX7_oneMore_21 : decode cX7_oneMore 21 = .ok (.istore_n 2, 1) := by decide +kernel
theorem dX7_oneMore_22 : decode cX7_oneMore 22 = .ok (.iload_n 2, 1) := by decide +kernel
theorem dX7_oneMore_23 : decode cX7_oneMore 23 = .ok (.iconst 5, 1) := by decide +kernel
theorem dX7_oneMore_24 : decode cX7_oneMore 24 = .ok (.if_icmp .ge 63, 3) := by decide +kernel
theorem dX7_oneMore_27 : decode cX7_oneMore 27 = .ok (.iconst 0, 1) := by decide +kernel
theorem dX7_oneMore_28 : decode cX7_oneMore 28 = .ok (.istore_n 3, 1) := by decide +kernel
theorem dX7_oneMore_29 : decode cX7_oneMore 29 = .ok (.iload_n 3, 1) := by decide +kernel
theorem dX7_oneMore_30 : decode cX7_oneMore 30 = .ok (.bipush 8, 2) := by decide +kernel
theorem dX7_oneMore_32 : decode cX7_oneMore 32 = .ok (.if_icmp .ge 49, 3) := by decide +kernel
theorem dX7_oneMore_35 : decode cX7_oneMore 35 = .ok (.aload_n 0, 1) := by decide +kernel
theorem dX7_oneMore_36 : decode cX7_oneMore 36 = .ok (.getfield 51, 3) := by decide +kernel
theorem dX7_oneMore_39 : decode cX7_oneMore 39 = .ok (.iload_n 2, 1) := by decide +kernel
theorem dX7_oneMore_40 : decode cX7_oneMore 40 = .ok (.iaload, 1) := by decide +kernel
theorem dX7_oneMore_41 : decode cX7_oneMore 41 = .ok (.ifCond .le 40, 3) := by decide +kernel
theorem dX7_oneMore_44 : decode cX7_oneMore 44 = .ok (.aload_n 0, 1) := by decide +kernel
theorem dX7_oneMore_45 : decode cX7_oneMore 45 = .ok (.iload_n 1, 1) := by decide +kernel
theorem dX7_oneMore_46 : decode cX7_oneMore 46 = .ok (.iload_n 2, 1) := by decide +kernel
theorem dX7_oneMore_47 : decode cX7_oneMore 47 = .ok (.iload_n 3, 1) := by decide +kernel
theorem dX7_oneMore_48 : decode cX7_oneMore 48 = .ok (.invokevirtual 170, 3) := by decide +kernel
theorem dX7_oneMore_51 : decode cX7_oneMore 51 = .ok (.istore 4, 2) := by decide +kernel
theorem dX7_oneMore_53 : decode cX7_oneMore 53 = .ok (.iload 4, 2) := by decide +kernel
theorem dX7_oneMore_55 : decode cX7_oneMore 55 = .ok (.iconst (-1), 1) := by decide +kernel
theorem dX7_oneMore_56 : decode cX7_oneMore 56 = .ok (.if_icmp .eq 19, 3) := by decide +kernel
theorem dX7_oneMore_59 : decode cX7_oneMore 59 = .ok (.aload_n 0, 1) := by decide +kernel
theorem dX7_oneMore_60 : decode cX7_oneMore 60 = .ok (.getfield 54, 3) := by decide +kernel
theorem dX7_oneMore_63 : decode cX7_oneMore 63 = .ok (.iload 4, 2) := by decide +kernel
theorem dX7_oneMore_65 : decode cX7_oneMore 65 = .ok (.dup2, 1) := by decide +kernel
theorem dX7_oneMore_66 : decode cX7_oneMore 66 = .ok (.iaload, 1) := by decide +kernel
theorem dX7_oneMore_67 : decode cX7_oneMore 67 = .ok (.aload_n 0, 1) := by decide +kernel
theorem dX7_oneMore_68 : decode cX7_oneMore 68 = .ok (.getfield 51, 3) := by decide +kernel
theorem dX7_oneMore_71 : decode cX7_oneMore 71 = .ok (.iload_n 2, 1) := by decide +kernel
theorem dX7_oneMore_72 : decode cX7_oneMore 72 = .ok (.iaload, 1) := by decide +kernel
theorem dX7_oneMore_73 : decode cX7_oneMore 73 = .ok (.iadd, 1) := by decide +kernel
theorem dX7_oneMore_74 : decode cX7_oneMore 74 = .ok (.iastore, 1) := by decide +kernel
theorem dX7_oneMore_75 : decode cX7_oneMore 75 = .ok (.iinc 3 1, 3) := by decide +kernel
theorem dX7_oneMore_78 : decode cX7_oneMore 78 = .ok (.goto (-49), 3) := by decide +kernel
theorem dX7_oneMore_81 : decode cX7_oneMore 81 = .ok (.iinc 2 1, 3) := by decide +kernel
theorem dX7_oneMore_84 : decode cX7_oneMore 84 = .ok (.goto (-62), 3) := by decide +kernel
theorem dX7_oneMore_87 : decode cX7_oneMore 87 = .ok (.iconst 0, 1) := by decide +kernel
theorem dX7_oneMore_88 : decode cX7_oneMore 88 = .ok (.istore_n 2, 1) := by decide +kernel
theorem dX7_oneMore_89 : decode cX7_oneMore 89 = .ok (.iload_n 2, 1) := by decide +kernel
theorem dX7_oneMore_90 : decode cX7_oneMore 90 = .ok (.iconst 5, 1) := by decide +kernel
theorem dX7_oneMore_91 : decode cX7_oneMore 91 = .ok (.if_icmp .ge 21, 3) := by decide +kernel
theorem dX7_oneMore_94 : decode cX7_oneMore 94 = .ok (.aload_n 0, 1) := by decide +kernel
theorem dX7_oneMore_95 : decode cX7_oneMore 95 = .ok (.getfield 51, 3) := by decide +kernel
theorem dX7_oneMore_98 : decode cX7_oneMore 98 = .ok (.iload_n 2, 1) := by decide +kernel
theorem dX7_oneMore_99 : decode cX7_oneMore 99 = .ok (.aload_n 0, 1) := by decide +kernel
theorem dX7_oneMore_100 : decode cX7_oneMore 100 = .ok (.getfield 54, 3) := by decide +kernel
theorem dX7_oneMore_103 : decode cX7_oneMore 103 = .ok (.iload_n 2, 1) := by decide +kernel
theorem dX7_oneMore_104 : decode cX7_oneMore 104 = .ok (.iaload, 1) := by decide +kernel
theorem dX7_oneMore_105 : decode cX7_oneMore 105 = .ok (.iastore, 1) := by decide +kernel
theorem dX7_oneMore_106 : decode cX7_oneMore 106 = .ok (.iinc 2 1, 3) := by decide +kernel
theorem dX7_oneMore_109 : decode cX7_oneMore 109 = .ok (.goto (-20), 3) := by decide +kernel
theorem dX7_oneMore_112 : decode cX7_oneMore 112 = .ok (.return_, 1) := by decide +kernel
theorem dX7_rowsNow_0 : decode cX7_rowsNow 0 = .ok (.iconst 0, 1) := by decide +kernel
theorem dX7_rowsNow_1 : decode cX7_rowsNow 1 = .ok (.istore_n 3, 1) := by decide +kernel
theorem dX7_rowsNow_2 : decode cX7_rowsNow 2 = .ok (.iload_n 3, 1) := by decide +kernel
theorem dX7_rowsNow_3 : decode cX7_rowsNow 3 = .ok (.iconst 5, 1) := by decide +kernel
theorem dX7_rowsNow_4 : decode cX7_rowsNow 4 = .ok (.if_icmp .ge 24, 3) := by decide +kernel
theorem dX7_rowsNow_7 : decode cX7_rowsNow 7 = .ok (.aload_n 0, 1) := by decide +kernel
theorem dX7_rowsNow_8 : decode cX7_rowsNow 8 = .ok (.getfield 51, 3) := by decide +kernel
theorem dX7_rowsNow_11 : decode cX7_rowsNow 11 = .ok (.iload_n 3, 1) := by decide +kernel
theorem dX7_rowsNow_12 : decode cX7_rowsNow 12 = .ok (.iload_n 3, 1) := by decide +kernel
theorem dX7_rowsNow_13 : decode cX7_rowsNow 13 = .ok (.ifCond .ne 7, 3) := by decide +kernel
theorem dX7_rowsNow_16 : decode cX7_rowsNow 16 = .ok (.iconst 1, 1) := by decide +kernel
theorem dX7_rowsNow_17 : decode cX7_rowsNow 17 = .ok (.goto 4, 3) := by decide +kernel
theorem dX7_rowsNow_20 : decode cX7_rowsNow 20 = .ok (.iconst 0, 1) := by decide +kernel
theorem dX7_rowsNow_21 : decode cX7_rowsNow 21 = .ok (.iastore, 1) := by decide +kernel
theorem dX7_rowsNow_22 : decode cX7_rowsNow 22 = .ok (.iinc 3 1, 3) := by decide +kernel
theorem dX7_rowsNow_25 : decode cX7_rowsNow 25 = .ok (.goto (-23), 3) := by decide +kernel
theorem dX7_rowsNow_28 : decode cX7_rowsNow 28 = .ok (.iconst 0, 1) := by decide +kernel
theorem dX7_rowsNow_29 : decode cX7_rowsNow 29 = .ok (.istore_n 3, 1) := by decide +kernel
theorem dX7_rowsNow_30 : decode cX7_rowsNow 30 = .ok (.iload_n 3, 1) := by decide +kernel
theorem dX7_rowsNow_31 : decode cX7_rowsNow 31 = .ok (.iload_n 2, 1) := by decide +kernel
theorem dX7_rowsNow_32 : decode cX7_rowsNow 32 = .ok (.if_icmp .ge 14, 3) := by decide +kernel
theorem dX7_rowsNow_35 : decode cX7_rowsNow 35 = .ok (.aload_n 0, 1) := by decide +kernel
theorem dX7_rowsNow_36 : decode cX7_rowsNow 36 = .ok (.iload_n 1, 1) := by decide +kernel
theorem dX7_rowsNow_37 : decode cX7_rowsNow 37 = .ok (.invokevirtual 257, 3) := by decide +kernel
theorem dX7_rowsNow_40 : decode cX7_rowsNow 40 = .ok (.iinc 3 1, 3) := by decide +kernel
theorem dX7_rowsNow_43 : decode cX7_rowsNow 43 = .ok (.goto (-13), 3) := by decide +kernel
theorem dX7_rowsNow_46 : decode cX7_rowsNow 46 = .ok (.aload_n 0, 1) := by decide +kernel
theorem dX7_rowsNow_47 : decode cX7_rowsNow 47 = .ok (.getfield 51, 3) := by decide +kernel
theorem dX7_rowsNow_50 : decode cX7_rowsNow 50 = .ok (.iconst 0, 1) := by decide +kernel
theorem dX7_rowsNow_51 : decode cX7_rowsNow 51 = .ok (.iaload, 1) := by decide +kernel
theorem dX7_rowsNow_52 : decode cX7_rowsNow 52 = .ok (.ireturn, 1) := by decide +kernel
theorem dX7_rows_0 : decode cX7_rows 0 = .ok (.aload_n 0, 1) := by decide +kernel
theorem dX7_rows_1 : decode cX7_rows 1 = .ok (.iload_n 1, 1) := by decide +kernel
theorem dX7_rows_2 : decode cX7_rows 2 = .ok (.invokevirtual 126, 3) := by decide +kernel
theorem dX7_rows_5 : decode cX7_rows 5 = .ok (.ifCond .ne 8, 3) := by decide +kernel
theorem dX7_rows_8 : decode cX7_rows 8 = .ok (.bipush (-101), 2) := by decide +kernel
theorem dX7_rows_10 : decode cX7_rows 10 = .ok (.goto 24, 3) := by decide +kernel
theorem dX7_rows_13 : decode cX7_rows 13 = .ok (.iload_n 2, 1) := by decide +kernel
theorem dX7_rows_14 : decode cX7_rows 14 = .ok (.iconst 0, 1) := by decide +kernel
theorem dX7_rows_15 : decode cX7_rows 15 = .ok (.bipush 9, 2) := by decide +kernel
theorem dX7_rows_17 : decode cX7_rows 17 = .ok (.invokestatic 75, 3) := by decide +kernel
theorem dX7_rows_20 : decode cX7_rows 20 = .ok (.ifCond .eq 12, 3) := by decide +kernel
theorem dX7_rows_23 : decode cX7_rows 23 = .ok (.aload_n 0, 1) := by decide +kernel
theorem dX7_rows_24 : decode cX7_rows 24 = .ok (.iload_n 1, 1) := by decide +kernel
theorem dX7_rows_25 : decode cX7_rows 25 = .ok (.iload_n 2, 1) := by decide +kernel
theorem dX7_rows_26 : decode cX7_rows 26 = .ok (.invokevirtual 260, 3) := by decide +kernel
theorem dX7_rows_29 : decode cX7_rows 29 = .ok (.goto 5, 3) := by decide +kernel
theorem dX7_rows_32 : decode cX7_rows 32 = .ok (.bipush (-102), 2) := by decide +kernel
theorem dX7_rows_34 : decode cX7_rows 34 = .ok (.ireturn, 1) := by decide +kernel
theorem dX7_bothBehind_0 : decode cX7_bothBehind 0 = .ok (.aload_n 0, 1) := by decide +kernel
theorem dX7_bothBehind_1 : decode cX7_bothBehind 1 = .ok (.iload_n 1, 1) := by decide +kernel
theorem dX7_bothBehind_2 : decode cX7_bothBehind 2 = .ok (.iload_n 3, 1) := by decide +kernel
theorem dX7_bothBehind_3 : decode cX7_bothBehind 3 = .ok (.bipush 6, 2) := by decide +kernel
theorem dX7_bothBehind_5 : decode cX7_bothBehind 5 = .ok (.idiv, 1) := by decide +kernel
theorem dX7_bothBehind_6 : decode cX7_bothBehind 6 = .ok (.iload 4, 2) := by decide +kernel
theorem dX7_bothBehind_8 : decode cX7_bothBehind 8 = .ok (.invokevirtual 170, 3) := by decide +kernel
theorem dX7_bothBehind_11 : decode cX7_bothBehind 11 = .ok (.istore 5, 2) := by decide +kernel
theorem dX7_bothBehind_13 : decode cX7_bothBehind 13 = .ok (.iload 5, 2) := by decide +kernel
theorem dX7_bothBehind_15 : decode cX7_bothBehind 15 = .ok (.iconst (-1), 1) := by decide +kernel
theorem dX7_bothBehind_16 : decode cX7_bothBehind 16 = .ok (.if_icmp .ne 5, 3) := by decide +kernel
theorem dX7_bothBehind_19 : decode cX7_bothBehind 19 = .ok (.iconst (-1), 1) := by decide +kernel
theorem dX7_bothBehind_20 : decode cX7_bothBehind 20 = .ok (.ireturn, 1) := by decide +kernel
theorem dX7_bothBehind_21 : decode cX7_bothBehind 21 = .ok (.iload_n 3, 1) := by decide +kernel
theorem dX7_bothBehind_22 : decode cX7_bothBehind 22 = .ok (.bipush 6, 2) := by decide +kernel
theorem dX7_bothBehind_24 : decode cX7_bothBehind 24 = .ok (.irem, 1) := by decide +kernel
theorem dX7_bothBehind_25 : decode cX7_bothBehind 25 = .ok (.iconst 5, 1) := by decide +kernel
theorem dX7_bothBehind_26 : decode cX7_bothBehind 26 = .ok (.if_icmp .ne 7, 3) := by decide +kernel
theorem dX7_bothBehind_29 : decode cX7_bothBehind 29 = .ok (.iconst (-1), 1) := by decide +kernel
theorem dX7_bothBehind_30 : decode cX7_bothBehind 30 = .ok (.goto 14, 3) := by decide +kernel
theorem dX7_bothBehind_33 : decode cX7_bothBehind 33 = .ok (.aload_n 0, 1) := by decide +kernel
theorem dX7_bothBehind_34 : decode cX7_bothBehind 34 = .ok (.iload_n 2, 1) := by decide +kernel
theorem dX7_bothBehind_35 : decode cX7_bothBehind 35 = .ok (.iload_n 3, 1) := by decide +kernel
theorem dX7_bothBehind_36 : decode cX7_bothBehind 36 = .ok (.bipush 6, 2) := by decide +kernel
theorem dX7_bothBehind_38 : decode cX7_bothBehind 38 = .ok (.irem, 1) := by decide +kernel
theorem dX7_bothBehind_39 : decode cX7_bothBehind 39 = .ok (.iload 4, 2) := by decide +kernel
theorem dX7_bothBehind_41 : decode cX7_bothBehind 41 = .ok (.invokevirtual 170, 3) := by decide +kernel
theorem dX7_bothBehind_44 : decode cX7_bothBehind 44 = .ok (.istore 6, 2) := by decide +kernel
theorem dX7_bothBehind_46 : decode cX7_bothBehind 46 = .ok (.bipush 6, 2) := by decide +kernel
theorem dX7_bothBehind_48 : decode cX7_bothBehind 48 = .ok (.iload 5, 2) := by decide +kernel
theorem dX7_bothBehind_50 : decode cX7_bothBehind 50 = .ok (.imul, 1) := by decide +kernel
theorem dX7_bothBehind_51 : decode cX7_bothBehind 51 = .ok (.iload 6, 2) := by decide +kernel
theorem dX7_bothBehind_53 : decode cX7_bothBehind 53 = .ok (.iconst (-1), 1) := by decide +kernel
theorem dX7_bothBehind_54 : decode cX7_bothBehind 54 = .ok (.if_icmp .ne 7, 3) := by decide +kernel
theorem dX7_bothBehind_57 : decode cX7_bothBehind 57 = .ok (.iconst 5, 1) := by decide +kernel
theorem dX7_bothBehind_58 : decode cX7_bothBehind 58 = .ok (.goto 5, 3) := by decide +kernel
theorem dX7_bothBehind_61 : decode cX7_bothBehind 61 = .ok (.iload 6, 2) := by decide +kernel
theorem dX7_bothBehind_63 : decode cX7_bothBehind 63 = .ok (.iadd, 1) := by decide +kernel
theorem dX7_bothBehind_64 : decode cX7_bothBehind 64 = .ok (.ireturn, 1) := by decide +kernel
theorem dX7_goesTo_0 : decode cX7_goesTo 0 = .ok (.iconst 0, 1) := by decide +kernel
theorem dX7_goesTo_1 : decode cX7_goesTo 1 = .ok (.istore 5, 2) := by decide +kernel
theorem dX7_goesTo_3 : decode cX7_goesTo 3 = .ok (.iconst 0, 1) := by decide +kernel
theorem dX7_goesTo_4 : decode cX7_goesTo 4 = .ok (.istore 6, 2) := by decide +kernel
theorem dX7_goesTo_6 : decode cX7_goesTo 6 = .ok (.iload 6, 2) := by decide +kernel
theorem dX7_goesTo_8 : decode cX7_goesTo 8 = .ok (.bipush 8, 2) := by decide +kernel
theorem dX7_goesTo_10 : decode cX7_goesTo 10 = .ok (.if_icmp .ge 49, 3) := by decide +kernel
theorem dX7_goesTo_13 : decode cX7_goesTo 13 = .ok (.iload 5, 2) := by decide +kernel
theorem dX7_goesTo_15 : decode cX7_goesTo 15 = .ok (.ifCond .ne 44, 3) := by decide +kernel
theorem dX7_goesTo_18 : decode cX7_goesTo 18 = .ok (.aload_n 0, 1) := by decide +kernel
theorem dX7_goesTo_19 : decode cX7_goesTo 19 = .ok (.iload_n 1, 1) := by decide +kernel
theorem dX7_goesTo_20 : decode cX7_goesTo 20 = .ok (.iload_n 2, 1) := by decide +kernel
theorem dX7_goesTo_21 : decode cX7_goesTo 21 = .ok (.iload_n 3, 1) := by decide +kernel
theorem dX7_goesTo_22 : decode cX7_goesTo 22 = .ok (.iload 6, 2) := by decide +kernel
theorem dX7_goesTo_24 : decode cX7_goesTo 24 = .ok (.invokevirtual 263, 3) := by decide +kernel
theorem dX7_goesTo_27 : decode cX7_goesTo 27 = .ok (.istore 7, 2) := by decide +kernel
theorem dX7_goesTo_29 : decode cX7_goesTo 29 = .ok (.iload 7, 2) := by decide +kernel
theorem dX7_goesTo_31 : decode cX7_goesTo 31 = .ok (.iconst (-1), 1) := by decide +kernel
theorem dX7_goesTo_32 : decode cX7_goesTo 32 = .ok (.if_icmp .eq 18, 3) := by decide +kernel
theorem dX7_goesTo_35 : decode cX7_goesTo 35 = .ok (.iload 4, 2) := by decide +kernel
theorem dX7_goesTo_37 : decode cX7_goesTo 37 = .ok (.iload 7, 2) := by decide +kernel
theorem dX7_goesTo_39 : decode cX7_goesTo 39 = .ok (.ishr, 1) := by decide +kernel
theorem dX7_goesTo_40 : decode cX7_goesTo 40 = .ok (.iconst 1, 1) := by decide +kernel
theorem dX7_goesTo_41 : decode cX7_goesTo 41 = .ok (.iand, 1) := by decide +kernel
theorem dX7_goesTo_42 : decode cX7_goesTo 42 = .ok (.iconst 1, 1) := by decide +kernel
theorem dX7_goesTo_43 : decode cX7_goesTo 43 = .ok (.if_icmp .ne 7, 3) := by decide +kernel
theorem dX7_goesTo_46 : decode cX7_goesTo 46 = .ok (.iconst 1, 1) := by decide +kernel
theorem dX7_goesTo_47 : decode cX7_goesTo 47 = .ok (.goto 4, 3) := by decide +kernel
theorem dX7_goesTo_50 : decode cX7_goesTo 50 = .ok (.iconst 0, 1) := by decide +kernel
theorem dX7_goesTo_51 : decode cX7_goesTo 51 = .ok (.istore 5, 2) := by decide +kernel
theorem dX7_goesTo_53 : decode cX7_goesTo 53 = .ok (.iinc 6 1, 3) := by decide +kernel
theorem dX7_goesTo_56 : decode cX7_goesTo 56 = .ok (.goto (-50), 3) := by decide +kernel
theorem dX7_goesTo_59 : decode cX7_goesTo 59 = .ok (.iload 5, 2) := by decide +kernel
theorem dX7_goesTo_61 : decode cX7_goesTo 61 = .ok (.ireturn, 1) := by decide +kernel
theorem dX7_isBoth_0 : decode cX7_isBoth 0 = .ok (.aload_n 0, 1) := by decide +kernel
theorem dX7_isBoth_1 : decode cX7_isBoth 1 = .ok (.getfield 7, 3) := by decide +kernel
theorem dX7_isBoth_4 : decode cX7_isBoth 4 = .ok (.iload_n 1, 1) := by decide +kernel
theorem dX7_isBoth_5 : decode cX7_isBoth 5 = .ok (.iaload, 1) := by decide +kernel
theorem dX7_isBoth_6 : decode cX7_isBoth 6 = .ok (.iload_n 3, 1) := by decide +kernel
theorem dX7_isBoth_7 : decode cX7_isBoth 7 = .ok (.bipush 6, 2) := by decide +kernel
theorem dX7_isBoth_9 : decode cX7_isBoth 9 = .ok (.idiv, 1) := by decide +kernel
theorem dX7_isBoth_10 : decode cX7_isBoth 10 = .ok (.invokestatic 205, 3) := by decide +kernel
theorem dX7_isBoth_13 : decode cX7_isBoth 13 = .ok (.ifCond .eq 31, 3) := by decide +kernel
theorem dX7_isBoth_16 : decode cX7_isBoth 16 = .ok (.iload_n 3, 1) := by decide +kernel
theorem dX7_isBoth_17 : decode cX7_isBoth 17 = .ok (.bipush 6, 2) := by decide +kernel
theorem dX7_isBoth_19 : decode cX7_isBoth 19 = .ok (.irem, 1) := by decide +kernel
theorem dX7_isBoth_20 : decode cX7_isBoth 20 = .ok (.iconst 5, 1) := by decide +kernel
theorem dX7_isBoth_21 : decode cX7_isBoth 21 = .ok (.if_icmp .eq 19, 3) := by decide +kernel
theorem dX7_isBoth_24 : decode cX7_isBoth 24 = .ok (.aload_n 0, 1) := by decide +kernel
theorem dX7_isBoth_25 : decode cX7_isBoth 25 = .ok (.getfield 7, 3) := by decide +kernel
theorem dX7_isBoth_28 : decode cX7_isBoth 28 = .ok (.iload_n 2, 1) := by decide +kernel
theorem dX7_isBoth_29 : decode cX7_isBoth 29 = .ok (.iaload, 1) := by decide +kernel
theorem dX7_isBoth_30 : decode cX7_isBoth 30 = .ok (.iload_n 3, 1) := by decide +kernel
theorem dX7_isBoth_31 : decode cX7_isBoth 31 = .ok (.bipush 6, 2) := by decide +kernel
theorem dX7_isBoth_33 : decode cX7_isBoth 33 = .ok (.irem, 1) := by decide +kernel
theorem dX7_isBoth_34 : decode cX7_isBoth 34 = .ok (.invokestatic 205, 3) := by decide +kernel
theorem dX7_isBoth_37 : decode cX7_isBoth 37 = .ok (.ifCond .eq 7, 3) := by decide +kernel
theorem dX7_isBoth_40 : decode cX7_isBoth 40 = .ok (.iconst 1, 1) := by decide +kernel
theorem dX7_isBoth_41 : decode cX7_isBoth 41 = .ok (.goto 4, 3) := by decide +kernel
theorem dX7_isBoth_44 : decode cX7_isBoth 44 = .ok (.iconst 0, 1) := by decide +kernel
theorem dX7_isBoth_45 : decode cX7_isBoth 45 = .ok (.ireturn, 1) := by decide +kernel
theorem dX7_layParts_0 : decode cX7_layParts 0 = .ok (.aload_n 0, 1) := by decide +kernel
theorem dX7_layParts_1 : decode cX7_layParts 1 = .ok (.getfield 57, 3) := by decide +kernel
theorem dX7_layParts_4 : decode cX7_layParts 4 = .ok (.iconst 0, 1) := by decide +kernel
theorem dX7_layParts_5 : decode cX7_layParts 5 = .ok (.iconst 0, 1) := by decide +kernel
theorem dX7_layParts_6 : decode cX7_layParts 6 = .ok (.iastore, 1) := by decide +kernel
theorem dX7_layParts_7 : decode cX7_layParts 7 = .ok (.iconst 1, 1) := by decide +kernel
theorem dX7_layParts_8 : decode cX7_layParts 8 = .ok (.istore_n 3, 1) := by decide +kernel
theorem dX7_layParts_9 : decode cX7_layParts 9 = .ok (.iload_n 3, 1) := by decide +kernel
theorem dX7_layParts_10 : decode cX7_layParts 10 = .ok (.iconst 5, 1) := by decide +kernel
theorem dX7_layParts_11 : decode cX7_layParts 11 = .ok (.if_icmp .gt 21, 3) := by decide +kernel
theorem dX7_layParts_14 : decode cX7_layParts 14 = .ok (.aload_n 0, 1) := by decide +kernel
theorem dX7_layParts_15 : decode cX7_layParts 15 = .ok (.getfield 57, 3) := by decide +kernel
theorem dX7_layParts_18 : decode cX7_layParts 18 = .ok (.iconst 0, 1) := by decide +kernel
theorem dX7_layParts_19 : decode cX7_layParts 19 = .ok (.dup2, 1) := by decide +kernel
theorem dX7_layParts_20 : decode cX7_layParts 20 = .ok (.iaload, 1) := by decide +kernel
theorem dX7_layParts_21 : decode cX7_layParts 21 = .ok (.iconst 1, 1) := by decide +kernel
theorem dX7_layParts_22 : decode cX7_layParts 22 = .ok (.iload_n 3, 1) := by decide +kernel
theorem dX7_layParts_23 : decode cX7_layParts 23 = .ok (.ishl, 1) := by decide +kernel
theorem dX7_layParts_24 : decode cX7_layParts 24 = .ok (.ior, 1) := by decide +kernel
theorem dX7_layParts_25 : decode cX7_layParts 25 = .ok (.iastore, 1) := by decide +kernel
theorem dX7_layParts_26 : decode cX7_layParts 26 = .ok (.iinc 3 1, 3) := by decide +kernel
theorem dX7_layParts_29 : decode cX7_layParts 29 = .ok (.goto (-20), 3) := by decide +kernel
theorem dX7_layParts_32 : decode cX7_layParts 32 = .ok (.iconst 1, 1) := by decide +kernel
theorem dX7_layParts_33 : decode cX7_layParts 33 = .ok (.istore_n 3, 1) := by decide +kernel
theorem dX7_layParts_34 : decode cX7_layParts 34 = .ok (.iload_n 3, 1) := by decide +kernel
theorem dX7_layParts_35 : decode cX7_layParts 35 = .ok (.bipush 30, 2) := by decide +kernel
theorem dX7_layParts_37 : decode cX7_layParts 37 = .ok (.if_icmp .gt 91, 3) := by decide +kernel
theorem dX7_layParts_40 : decode cX7_layParts 40 = .ok (.aload_n 0, 1) := by decide +kernel
theorem dX7_layParts_41 : decode cX7_layParts 41 = .ok (.getfield 57, 3) := by decide +kernel
theorem dX7_layParts_44 : decode cX7_layParts 44 = .ok (.iload_n 3, 1) := by decide +kernel
theorem dX7_layParts_45 : decode cX7_layParts 45 = .ok (.iconst 0, 1) := by decide +kernel
theorem dX7_layParts_46 : decode cX7_layParts 46 = .ok (.iastore, 1) := by decide +kernel
theorem dX7_layParts_47 : decode cX7_layParts 47 = .ok (.iconst 0, 1) := by decide +kernel
theorem dX7_layParts_48 : decode cX7_layParts 48 = .ok (.istore 4, 2) := by decide +kernel
theorem dX7_layParts_50 : decode cX7_layParts 50 = .ok (.iload 4, 2) := by decide +kernel
theorem dX7_layParts_52 : decode cX7_layParts 52 = .ok (.bipush 30, 2) := by decide +kernel
theorem dX7_layParts_54 : decode cX7_layParts 54 = .ok (.if_icmp .ge 68, 3) := by decide +kernel
theorem dX7_layParts_57 : decode cX7_layParts 57 = .ok (.aload_n 0, 1) := by decide +kernel
theorem dX7_layParts_58 : decode cX7_layParts 58 = .ok (.iload_n 1, 1) := by decide +kernel
theorem dX7_layParts_59 : decode cX7_layParts 59 = .ok (.iload_n 2, 1) := by decide +kernel
theorem dX7_layParts_60 : decode cX7_layParts 60 = .ok (.iload 4, 2) := by decide +kernel
theorem dX7_layParts_62 : decode cX7_layParts 62 = .ok (.invokevirtual 266, 3) := by decide +kernel
theorem dX7_layParts_65 : decode cX7_layParts 65 = .ok (.ifCond .eq 26, 3) := by decide +kernel
theorem dX7_layParts_68 : decode cX7_layParts 68 = .ok (.aload_n 0, 1) := by decide +kernel
theorem dX7_layParts_69 : decode cX7_layParts 69 = .ok (.iload_n 1, 1) := by decide +kernel
theorem dX7_layParts_70 : decode cX7_layParts 70 = .ok (.iload_n 2, 1) := by decide +kernel
theorem dX7_layParts_71 : decode cX7_layParts 71 = .ok (.iload 4, 2) := by decide +kernel
theorem dX7_layParts_73 : decode cX7_layParts 73 = .ok (.aload_n 0, 1) := by decide +kernel
theorem dX7_layParts_74 : decode cX7_layParts 74 = .ok (.getfield 57, 3) := by decide +kernel
theorem dX7_layParts_77 : decode cX7_layParts 77 = .ok (.iload_n 3, 1) := by decide +kernel
theorem dX7_layParts_78 : decode cX7_layParts 78 = .ok (.iconst 1, 1) := by decide +kernel
theorem dX7_layParts_79 : decode cX7_layParts 79 = .ok (.isub, 1) := by decide +kernel
theorem dX7_layParts_80 : decode cX7_layParts 80 = .ok (.iaload, 1) := by decide +kernel
theorem dX7_layParts_81 : decode cX7_layParts 81 = .ok (.invokevirtual 269, 3) := by decide +kernel
theorem dX7_layParts_84 : decode cX7_layParts 84 = .ok (.ifCond .eq 7, 3) := by decide +kernel
theorem dX7_layParts_87 : decode cX7_layParts 87 = .ok (.iconst 1, 1) := by decide +kernel
theorem dX7_layParts_88 : decode cX7_layParts 88 = .ok (.goto 4, 3) := by decide +kernel
theorem dX7_layParts_91 : decode cX7_layParts 91 = .ok (.iconst 0, 1) := by decide +kernel
theorem dX7_layParts_92 : decode cX7_layParts 92 = .ok (.istore 5, 2) := by decide +kernel
theorem dX7_layParts_94 : decode cX7_layParts 94 = .ok (.aload_n 0, 1) := by decide +kernel
theorem dX7_layParts_95 : decode cX7_layParts 95 = .ok (.getfield 57, 3) := by decide +kernel
theorem dX7_layParts_98 : decode cX7_layParts 98 = .ok (.iload_n 3, 1) := by decide +kernel
theorem dX7_layParts_99 : decode cX7_layParts 99 = .ok (.dup2, 1) := by decide +kernel
theorem dX7_layParts_100 : decode cX7_layParts 100 = .ok (.iaload, 1) := by decide +kernel
theorem dX7_layParts_101 : decode cX7_layParts 101 = .ok (.iload 5, 2) := by decide +kernel
theorem dX7_layParts_103 : decode cX7_layParts 103 = .ok (.ifCond .eq 10, 3) := by decide +kernel
theorem dX7_layParts_106 : decode cX7_layParts 106 = .ok (.iconst 1, 1) := by decide +kernel
theorem dX7_layParts_107 : decode cX7_layParts 107 = .ok (.iload 4, 2) := by decide +kernel
theorem dX7_layParts_109 : decode cX7_layParts 109 = .ok (.ishl, 1) := by decide +kernel
theorem dX7_layParts_110 : decode cX7_layParts 110 = .ok (.goto 4, 3) := by decide +kernel
theorem dX7_layParts_113 : decode cX7_layParts 113 = .ok (.iconst 0, 1) := by decide +kernel
theorem dX7_layParts_114 : decode cX7_layParts 114 = .ok (.ior, 1) := by decide +kernel
theorem dX7_layParts_115 : decode cX7_layParts 115 = .ok (.iastore, 1) := by decide +kernel
theorem dX7_layParts_116 : decode cX7_layParts 116 = .ok (.iinc 4 1, 3) := by decide +kernel
theorem dX7_layParts_119 : decode cX7_layParts 119 = .ok (.goto (-69), 3) := by decide +kernel
theorem dX7_layParts_122 : decode cX7_layParts 122 = .ok (.iinc 3 1, 3) := by decide +kernel
theorem dX7_layParts_125 : decode cX7_layParts 125 = .ok (.goto (-91), 3) := by decide +kernel
theorem dX7_layParts_128 : decode cX7_layParts 128 = .ok (.return_, 1) := by decide +kernel
theorem dX7_apartNow_0 : decode cX7_apartNow 0 = .ok (.aload_n 0, 1) := by decide +kernel
theorem dX7_apartNow_1 : decode cX7_apartNow 1 = .ok (.iload_n 1, 1) := by decide +kernel
theorem dX7_apartNow_2 : decode cX7_apartNow 2 = .ok (.iload_n 2, 1) := by decide +kernel
theorem dX7_apartNow_3 : decode cX7_apartNow 3 = .ok (.invokevirtual 273, 3) := by decide +kernel
theorem dX7_apartNow_6 : decode cX7_apartNow 6 = .ok (.iconst 0, 1) := by decide +kernel
theorem dX7_apartNow_7 : decode cX7_apartNow 7 = .ok (.istore_n 3, 1) := by decide +kernel
theorem dX7_apartNow_8 : decode cX7_apartNow 8 = .ok (.iload_n 3, 1) := by decide +kernel
theorem dX7_apartNow_9 : decode cX7_apartNow 9 = .ok (.bipush 30, 2) := by decide +kernel
theorem dX7_apartNow_11 : decode cX7_apartNow 11 = .ok (.if_icmp .gt 20, 3) := by decide +kernel
theorem dX7_apartNow_14 : decode cX7_apartNow 14 = .ok (.aload_n 0, 1) := by decide +kernel
theorem dX7_apartNow_15 : decode cX7_apartNow 15 = .ok (.getfield 57, 3) := by decide +kernel
theorem dX7_apartNow_18 : decode cX7_apartNow 18 = .ok (.iload_n 3, 1) := by decide +kernel
theorem dX7_apartNow_19 : decode cX7_apartNow 19 = .ok (.iaload, 1) := by decide +kernel
theorem dX7_apartNow_20 : decode cX7_apartNow 20 = .ok (.iconst 1, 1) := by decide +kernel
theorem dX7_apartNow_21 : decode cX7_apartNow 21 = .ok (.iand, 1) := by decide +kernel
theorem dX7_apartNow_22 : decode cX7_apartNow 22 = .ok (.ifCond .ne 9, 3) := by decide +kernel
theorem dX7_apartNow_25 : decode cX7_apartNow 25 = .ok (.iinc 3 1, 3) := by decide +kernel
theorem dX7_apartNow_28 : decode cX7_apartNow 28 = .ok (.goto (-20), 3) := by decide +kernel
theorem dX7_apartNow_31 : decode cX7_apartNow 31 = .ok (.iload_n 3, 1) := by decide +kernel
theorem dX7_apartNow_32 : decode cX7_apartNow 32 = .ok (.bipush 30, 2) := by decide +kernel
theorem dX7_apartNow_34 : decode cX7_apartNow 34 = .ok (.if_icmp .gt 7, 3) := by decide +kernel
theorem dX7_apartNow_37 : decode cX7_apartNow 37 = .ok (.iload_n 3, 1) := by decide +kernel
theorem dX7_apartNow_38 : decode cX7_apartNow 38 = .ok (.goto 4, 3) := by decide +kernel
theorem dX7_apartNow_41 : decode cX7_apartNow 41 = .ok (.iconst (-1), 1) := by decide +kernel
theorem dX7_apartNow_42 : decode cX7_apartNow 42 = .ok (.ireturn, 1) := by decide +kernel
theorem dX7_apart_0 : decode cX7_apart 0 = .ok (.aload_n 0, 1) := by decide +kernel
theorem dX7_apart_1 : decode cX7_apart 1 = .ok (.iload_n 1, 1) := by decide +kernel
theorem dX7_apart_2 : decode cX7_apart 2 = .ok (.invokevirtual 126, 3) := by decide +kernel
theorem dX7_apart_5 : decode cX7_apart 5 = .ok (.ifCond .eq 20, 3) := by decide +kernel
theorem dX7_apart_8 : decode cX7_apart 8 = .ok (.aload_n 0, 1) := by decide +kernel
theorem dX7_apart_9 : decode cX7_apart 9 = .ok (.iload_n 2, 1) := by decide +kernel
theorem dX7_apart_10 : decode cX7_apart 10 = .ok (.invokevirtual 126, 3) := by decide +kernel
theorem dX7_apart_13 : decode cX7_apart 13 = .ok (.ifCond .eq 12, 3) := by decide +kernel
theorem dX7_apart_16 : decode cX7_apart 16 = .ok (.aload_n 0, 1) := by decide +kernel
theorem dX7_apart_17 : decode cX7_apart 17 = .ok (.iload_n 1, 1) := by decide +kernel
theorem dX7_apart_18 : decode cX7_apart 18 = .ok (.iload_n 2, 1) := by decide +kernel
theorem dX7_apart_19 : decode cX7_apart 19 = .ok (.invokevirtual 276, 3) := by decide +kernel
theorem dX7_apart_22 : decode cX7_apart 22 = .ok (.goto 5, 3) := by decide +kernel
theorem dX7_apart_25 : decode cX7_apart 25 = .ok (.bipush (-101), 2) := by decide +kernel
theorem dX7_apart_27 : decode cX7_apart 27 = .ok (.ireturn, 1) := by decide +kernel
theorem dX7_leastTo_0 : decode cX7_leastTo 0 = .ok (.iconst 0, 1) := by decide +kernel
theorem dX7_leastTo_1 : decode cX7_leastTo 1 = .ok (.istore 5, 2) := by decide +kernel
theorem dX7_leastTo_3 : decode cX7_leastTo 3 = .ok (.aload_n 0, 1) := by decide +kernel
theorem dX7_leastTo_4 : decode cX7_leastTo 4 = .ok (.iload_n 1, 1) := by decide +kernel
theorem dX7_leastTo_5 : decode cX7_leastTo 5 = .ok (.iload_n 2, 1) := by decide +kernel
theorem dX7_leastTo_6 : decode cX7_leastTo 6 = .ok (.iload_n 3, 1) := by decide +kernel
theorem dX7_leastTo_7 : decode cX7_leastTo 7 = .ok (.iload 5, 2) := by decide +kernel
theorem dX7_leastTo_9 : decode cX7_leastTo 9 = .ok (.invokevirtual 263, 3) := by decide +kernel
theorem dX7_leastTo_12 : decode cX7_leastTo 12 = .ok (.istore 6, 2) := by decide +kernel
theorem dX7_leastTo_14 : decode cX7_leastTo 14 = .ok (.iload 6, 2) := by decide +kernel
theorem dX7_leastTo_16 : decode cX7_leastTo 16 = .ok (.iconst (-1), 1) := by decide +kernel
theorem dX7_leastTo_17 : decode cX7_leastTo 17 = .ok (.if_icmp .eq 13, 3) := by decide +kernel
theorem dX7_leastTo_20 : decode cX7_leastTo 20 = .ok (.iload 4, 2) := by decide +kernel
theorem dX7_leastTo_22 : decode cX7_leastTo 22 = .ok (.iload 6, 2) := by decide +kernel
theorem dX7_leastTo_24 : decode cX7_leastTo 24 = .ok (.ishr, 1) := by decide +kernel
theorem dX7_leastTo_25 : decode cX7_leastTo 25 = .ok (.iconst 1, 1) := by decide +kernel
theorem dX7_leastTo_26 : decode cX7_leastTo 26 = .ok (.iand, 1) := by decide +kernel
theorem dX7_leastTo_27 : decode cX7_leastTo 27 = .ok (.ifCond .ne 20, 3) := by decide +kernel
theorem dX7_leastTo_30 : decode cX7_leastTo 30 = .ok (.iinc 5 1, 3) := by decide +kernel
theorem dX7_leastTo_33 : decode cX7_leastTo 33 = .ok (.aload_n 0, 1) := by decide +kernel
theorem dX7_leastTo_34 : decode cX7_leastTo 34 = .ok (.iload_n 1, 1) := by decide +kernel
theorem dX7_leastTo_35 : decode cX7_leastTo 35 = .ok (.iload_n 2, 1) := by decide +kernel
theorem dX7_leastTo_36 : decode cX7_leastTo 36 = .ok (.iload_n 3, 1) := by decide +kernel
theorem dX7_leastTo_37 : decode cX7_leastTo 37 = .ok (.iload 5, 2) := by decide +kernel
theorem dX7_leastTo_39 : decode cX7_leastTo 39 = .ok (.invokevirtual 263, 3) := by decide +kernel
theorem dX7_leastTo_42 : decode cX7_leastTo 42 = .ok (.istore 6, 2) := by decide +kernel
theorem dX7_leastTo_44 : decode cX7_leastTo 44 = .ok (.goto (-30), 3) := by decide +kernel
theorem dX7_leastTo_47 : decode cX7_leastTo 47 = .ok (.iload 5, 2) := by decide +kernel
theorem dX7_leastTo_49 : decode cX7_leastTo 49 = .ok (.ireturn, 1) := by decide +kernel
theorem dX7_tellsNow_0 : decode cX7_tellsNow 0 = .ok (.aload_n 0, 1) := by decide +kernel
theorem dX7_tellsNow_1 : decode cX7_tellsNow 1 = .ok (.iload_n 1, 1) := by decide +kernel
theorem dX7_tellsNow_2 : decode cX7_tellsNow 2 = .ok (.iload_n 2, 1) := by decide +kernel
theorem dX7_tellsNow_3 : decode cX7_tellsNow 3 = .ok (.invokevirtual 276, 3) := by decide +kernel
theorem dX7_tellsNow_6 : decode cX7_tellsNow 6 = .ok (.istore 4, 2) := by decide +kernel
theorem dX7_tellsNow_8 : decode cX7_tellsNow 8 = .ok (.iload_n 3, 1) := by decide +kernel
theorem dX7_tellsNow_9 : decode cX7_tellsNow 9 = .ok (.iconst 0, 1) := by decide +kernel
theorem dX7_tellsNow_10 : decode cX7_tellsNow 10 = .ok (.iload 4, 2) := by decide +kernel
theorem dX7_tellsNow_12 : decode cX7_tellsNow 12 = .ok (.iconst 1, 1) := by decide +kernel
theorem dX7_tellsNow_13 : decode cX7_tellsNow 13 = .ok (.isub, 1) := by decide +kernel
theorem dX7_tellsNow_14 : decode cX7_tellsNow 14 = .ok (.invokestatic 75, 3) := by decide +kernel
theorem dX7_tellsNow_17 : decode cX7_tellsNow 17 = .ok (.ifCond .ne 6, 3) := by decide +kernel
theorem dX7_tellsNow_20 : decode cX7_tellsNow 20 = .ok (.bipush (-101), 2) := by decide +kernel
theorem dX7_tellsNow_22 : decode cX7_tellsNow 22 = .ok (.ireturn, 1) := by decide +kernel
theorem dX7_tellsNow_23 : decode cX7_tellsNow 23 = .ok (.iconst 0, 1) := by decide +kernel
theorem dX7_tellsNow_24 : decode cX7_tellsNow 24 = .ok (.istore 5, 2) := by decide +kernel
theorem dX7_tellsNow_26 : decode cX7_tellsNow 26 = .ok (.iconst 0, 1) := by decide +kernel
theorem dX7_tellsNow_27 : decode cX7_tellsNow 27 = .ok (.istore 6, 2) := by decide +kernel
theorem dX7_tellsNow_29 : decode cX7_tellsNow 29 = .ok (.iconst 0, 1) := by decide +kernel
theorem dX7_tellsNow_30 : decode cX7_tellsNow 30 = .ok (.istore 7, 2) := by decide +kernel
theorem dX7_tellsNow_32 : decode cX7_tellsNow 32 = .ok (.iload 7, 2) := by decide +kernel
theorem dX7_tellsNow_34 : decode cX7_tellsNow 34 = .ok (.iload_n 3, 1) := by decide +kernel
theorem dX7_tellsNow_35 : decode cX7_tellsNow 35 = .ok (.if_icmp .gt 43, 3) := by decide +kernel
theorem dX7_tellsNow_38 : decode cX7_tellsNow 38 = .ok (.aload_n 0, 1) := by decide +kernel
theorem dX7_tellsNow_39 : decode cX7_tellsNow 39 = .ok (.iload_n 1, 1) := by decide +kernel
theorem dX7_tellsNow_40 : decode cX7_tellsNow 40 = .ok (.iload_n 2, 1) := by decide +kernel
theorem dX7_tellsNow_41 : decode cX7_tellsNow 41 = .ok (.iload 5, 2) := by decide +kernel
theorem dX7_tellsNow_43 : decode cX7_tellsNow 43 = .ok (.aload_n 0, 1) := by decide +kernel
theorem dX7_tellsNow_44 : decode cX7_tellsNow 44 = .ok (.getfield 57, 3) := by decide +kernel
theorem dX7_tellsNow_47 : decode cX7_tellsNow 47 = .ok (.iload 4, 2) := by decide +kernel
theorem dX7_tellsNow_49 : decode cX7_tellsNow 49 = .ok (.iconst 1, 1) := by decide +kernel
theorem dX7_tellsNow_50 : decode cX7_tellsNow 50 = .ok (.isub, 1) := by decide +kernel
theorem dX7_tellsNow_51 : decode cX7_tellsNow 51 = .ok (.iload 7, 2) := by decide +kernel
theorem dX7_tellsNow_53 : decode cX7_tellsNow 53 = .ok (.isub, 1) := by decide +kernel
theorem dX7_tellsNow_54 : decode cX7_tellsNow 54 = .ok (.iaload, 1) := by decide +kernel
theorem dX7_tellsNow_55 : decode cX7_tellsNow 55 = .ok (.invokevirtual 279, 3) := by decide +kernel
theorem dX7_tellsNow_58 : decode cX7_tellsNow 58 = .ok (.istore 6, 2) := by decide +kernel
theorem dX7_tellsNow_60 : decode cX7_tellsNow 60 = .ok (.aload_n 0, 1) := by decide +kernel
theorem dX7_tellsNow_61 : decode cX7_tellsNow 61 = .ok (.iload_n 1, 1) := by decide +kernel
theorem dX7_tellsNow_62 : decode cX7_tellsNow 62 = .ok (.iload_n 2, 1) := by decide +kernel
theorem dX7_tellsNow_63 : decode cX7_tellsNow 63 = .ok (.iload 5, 2) := by decide +kernel
theorem dX7_tellsNow_65 : decode cX7_tellsNow 65 = .ok (.iload 6, 2) := by decide +kernel
theorem dX7_tellsNow_67 : decode cX7_tellsNow 67 = .ok (.invokevirtual 263, 3) := by decide +kernel
theorem dX7_tellsNow_70 : decode cX7_tellsNow 70 = .ok (.istore 5, 2) := by decide +kernel
theorem dX7_tellsNow_72 : decode cX7_tellsNow 72 = .ok (.iinc 7 1, 3) := by decide +kernel
theorem dX7_tellsNow_75 : decode cX7_tellsNow 75 = .ok (.goto (-43), 3) := by decide +kernel
theorem dX7_tellsNow_78 : decode cX7_tellsNow 78 = .ok (.iload 6, 2) := by decide +kernel
theorem dX7_tellsNow_80 : decode cX7_tellsNow 80 = .ok (.ireturn, 1) := by decide +kernel
theorem dX7_tells_0 : decode cX7_tells 0 = .ok (.aload_n 0, 1) := by decide +kernel
theorem dX7_tells_1 : decode cX7_tells 1 = .ok (.iload_n 1, 1) := by decide +kernel
theorem dX7_tells_2 : decode cX7_tells 2 = .ok (.invokevirtual 126, 3) := by decide +kernel
theorem dX7_tells_5 : decode cX7_tells 5 = .ok (.ifCond .eq 21, 3) := by decide +kernel
theorem dX7_tells_8 : decode cX7_tells 8 = .ok (.aload_n 0, 1) := by decide +kernel
theorem dX7_tells_9 : decode cX7_tells 9 = .ok (.iload_n 2, 1) := by decide +kernel
theorem dX7_tells_10 : decode cX7_tells 10 = .ok (.invokevirtual 126, 3) := by decide +kernel
theorem dX7_tells_13 : decode cX7_tells 13 = .ok (.ifCond .eq 13, 3) := by decide +kernel
theorem dX7_tells_16 : decode cX7_tells 16 = .ok (.aload_n 0, 1) := by decide +kernel
theorem dX7_tells_17 : decode cX7_tells 17 = .ok (.iload_n 1, 1) := by decide +kernel
theorem dX7_tells_18 : decode cX7_tells 18 = .ok (.iload_n 2, 1) := by decide +kernel
theorem dX7_tells_19 : decode cX7_tells 19 = .ok (.iload_n 3, 1) := by decide +kernel
theorem dX7_tells_20 : decode cX7_tells 20 = .ok (.invokevirtual 282, 3) := by decide +kernel
theorem dX7_tells_23 : decode cX7_tells 23 = .ok (.goto 5, 3) := by decide +kernel
theorem dX7_tells_26 : decode cX7_tells 26 = .ok (.bipush (-101), 2) := by decide +kernel
theorem dX7_tells_28 : decode cX7_tells 28 = .ok (.ireturn, 1) := by decide +kernel
theorem dX7_tryPiece_0 : decode cX7_tryPiece 0 = .ok (.aload_n 0, 1) := by decide +kernel
theorem dX7_tryPiece_1 : decode cX7_tryPiece 1 = .ok (.getfield 60, 3) := by decide +kernel
theorem dX7_tryPiece_4 : decode cX7_tryPiece 4 = .ok (.iload_n 2, 1) := by decide +kernel
theorem dX7_tryPiece_5 : decode cX7_tryPiece 5 = .ok (.iaload, 1) := by decide +kernel
theorem dX7_tryPiece_6 : decode cX7_tryPiece 6 = .ok (.ldc 204, 2) := by decide +kernel
theorem dX7_tryPiece_8 : decode cX7_tryPiece 8 = .ok (.if_icmp .ne 4, 3) := by decide +kernel
theorem dX7_tryPiece_11 : decode cX7_tryPiece 11 = .ok (.return_, 1) := by decide +kernel
theorem dX7_tryPiece_12 : decode cX7_tryPiece 12 = .ok (.aload_n 0, 1) := by decide +kernel
theorem dX7_tryPiece_13 : decode cX7_tryPiece 13 = .ok (.getfield 164, 3) := by decide +kernel
theorem dX7_tryPiece_16 : decode cX7_tryPiece 16 = .ok (.aload_n 0, 1) := by decide +kernel
theorem dX7_tryPiece_17 : decode cX7_tryPiece 17 = .ok (.getfield 60, 3) := by decide +kernel
theorem dX7_tryPiece_20 : decode cX7_tryPiece 20 = .ok (.iload_n 2, 1) := by decide +kernel
theorem dX7_tryPiece_21 : decode cX7_tryPiece 21 = .ok (.iaload, 1) := by decide +kernel
theorem dX7_tryPiece_22 : decode cX7_tryPiece 22 = .ok (.iadd, 1) := by decide +kernel
theorem dX7_tryPiece_23 : decode cX7_tryPiece 23 = .ok (.iload_n 2, 1) := by decide +kernel
theorem dX7_tryPiece_24 : decode cX7_tryPiece 24 = .ok (.aload_n 0, 1) := by decide +kernel
theorem dX7_tryPiece_25 : decode cX7_tryPiece 25 = .ok (.getfield 133, 3) := by decide +kernel
theorem dX7_tryPiece_28 : decode cX7_tryPiece 28 = .ok (.if_icmp .ge 8, 3) := by decide +kernel
theorem dX7_tryPiece_31 : decode cX7_tryPiece 31 = .ok (.bipush 7, 2) := by decide +kernel
theorem dX7_tryPiece_33 : decode cX7_tryPiece 33 = .ok (.goto 4, 3) := by decide +kernel
theorem dX7_tryPiece_36 : decode cX7_tryPiece 36 = .ok (.iconst 0, 1) := by decide +kernel
theorem dX7_tryPiece_37 : decode cX7_tryPiece 37 = .ok (.isub, 1) := by decide +kernel
theorem dX7_tryPiece_38 : decode cX7_tryPiece 38 = .ok (.istore 4, 2) := by decide +kernel
theorem dX7_tryPiece_40 : decode cX7_tryPiece 40 = .ok (.iconst 1, 1) := by decide +kernel
theorem dX7_tryPiece_41 : decode cX7_tryPiece 41 = .ok (.aload_n 0, 1) := by decide +kernel
theorem dX7_tryPiece_42 : decode cX7_tryPiece 42 = .ok (.getfield 63, 3) := by decide +kernel
theorem dX7_tryPiece_45 : decode cX7_tryPiece 45 = .ok (.iload_n 2, 1) := by decide +kernel
theorem dX7_tryPiece_46 : decode cX7_tryPiece 46 = .ok (.iaload, 1) := by decide +kernel
theorem dX7_tryPiece_47 : decode cX7_tryPiece 47 = .ok (.iadd, 1) := by decide +kernel
theorem dX7_tryPiece_48 : decode cX7_tryPiece 48 = .ok (.istore 5, 2) := by decide +kernel
theorem dX7_tryPiece_50 : decode cX7_tryPiece 50 = .ok (.iload 4, 2) := by decide +kernel
theorem dX7_tryPiece_52 : decode cX7_tryPiece 52 = .ok (.aload_n 0, 1) := by decide +kernel
theorem dX7_tryPiece_53 : decode cX7_tryPiece 53 = .ok (.getfield 60, 3) := by decide +kernel
theorem dX7_tryPiece_56 : decode cX7_tryPiece 56 = .ok (.iload_n 1, 1) := by decide +kernel
theorem dX7_tryPiece_57 : decode cX7_tryPiece 57 = .ok (.iaload, 1) := by decide +kernel
theorem dX7_tryPiece_58 : decode cX7_tryPiece 58 = .ok (.if_icmp .ne 38, 3) := by decide +kernel
theorem dX7_tryPiece_61 : decode cX7_tryPiece 61 = .ok (.iload 5, 2) := by decide +kernel
theorem dX7_tryPiece_63 : decode cX7_tryPiece 63 = .ok (.aload_n 0, 1) := by decide +kernel
theorem dX7_tryPiece_64 : decode cX7_tryPiece 64 = .ok (.getfield 63, 3) := by decide +kernel
theorem dX7_tryPiece_67 : decode cX7_tryPiece 67 = .ok (.iload_n 1, 1) := by decide +kernel
theorem dX7_tryPiece_68 : decode cX7_tryPiece 68 = .ok (.iaload, 1) := by decide +kernel
theorem dX7_tryPiece_69 : decode cX7_tryPiece 69 = .ok (.if_icmp .ne 27, 3) := by decide +kernel
theorem dX7_tryPiece_72 : decode cX7_tryPiece 72 = .ok (.iload_n 2, 1) := by decide +kernel
theorem dX7_tryPiece_73 : decode cX7_tryPiece 73 = .ok (.aload_n 0, 1) := by decide +kernel
theorem dX7_tryPiece_74 : decode cX7_tryPiece 74 = .ok (.getfield 66, 3) := by decide +kernel
theorem dX7_tryPiece_77 : decode cX7_tryPiece 77 = .ok (.iload_n 1, 1) := by decide +kernel
theorem dX7_tryPiece_78 : decode cX7_tryPiece 78 = .ok (.iaload, 1) := by decide +kernel
theorem dX7_tryPiece_79 : decode cX7_tryPiece 79 = .ok (.if_icmp .ne 17, 3) := by decide +kernel
theorem dX7_tryPiece_82 : decode cX7_tryPiece 82 = .ok (.iload_n 3, 1) := by decide +kernel
theorem dX7_tryPiece_83 : decode cX7_tryPiece 83 = .ok (.aload_n 0, 1) := by decide +kernel
theorem dX7_tryPiece_84 : decode cX7_tryPiece 84 = .ok (.getfield 69, 3) := by decide +kernel
theorem dX7_tryPiece_87 : decode cX7_tryPiece 87 = .ok (.iload_n 1, 1) := by decide +kernel
theorem dX7_tryPiece_88 : decode cX7_tryPiece 88 = .ok (.iaload, 1) := by decide +kernel
theorem dX7_tryPiece_89 : decode cX7_tryPiece 89 = .ok (.if_icmp .ge 7, 3) := by decide +kernel
theorem dX7_tryPiece_92 : decode cX7_tryPiece 92 = .ok (.iconst 1, 1) := by decide +kernel
theorem dX7_tryPiece_93 : decode cX7_tryPiece 93 = .ok (.goto 4, 3) := by decide +kernel
theorem dX7_tryPiece_96 : decode cX7_tryPiece 96 = .ok (.iconst 0, 1) := by decide +kernel
theorem dX7_tryPiece_97 : decode cX7_tryPiece 97 = .ok (.istore 6, 2) := by decide +kernel
theorem dX7_tryPiece_99 : decode cX7_tryPiece 99 = .ok (.iload 4, 2) := by decide +kernel
theorem dX7_tryPiece_101 : decode cX7_tryPiece 101 = .ok (.aload_n 0, 1) := by decide +kernel
theorem dX7_tryPiece_102 : decode cX7_tryPiece 102 = .ok (.getfield 60, 3) := by decide +kernel
theorem dX7_tryPiece_105 : decode cX7_tryPiece 105 = .ok (.iload_n 1, 1) := by decide +kernel
theorem dX7_tryPiece_106 : decode cX7_tryPiece 106 = .ok (.iaload, 1) := by decide +kernel
theorem dX7_tryPiece_107 : decode cX7_tryPiece 107 = .ok (.if_icmp .ne 28, 3) := by decide +kernel
theorem dX7_tryPiece_110 : decode cX7_tryPiece 110 = .ok (.iload 5, 2) := by decide +kernel
theorem dX7_tryPiece_112 : decode cX7_tryPiece 112 = .ok (.aload_n 0, 1) := by decide +kernel
theorem dX7_tryPiece_113 : decode cX7_tryPiece 113 = .ok (.getfield 63, 3) := by decide +kernel
theorem dX7_tryPiece_116 : decode cX7_tryPiece 116 = .ok (.iload_n 1, 1) := by decide +kernel
theorem dX7_tryPiece_117 : decode cX7_tryPiece 117 = .ok (.iaload, 1) := by decide +kernel
theorem dX7_tryPiece_118 : decode cX7_tryPiece 118 = .ok (.if_icmp .ne 17, 3) := by decide +kernel
theorem dX7_tryPiece_121 : decode cX7_tryPiece 121 = .ok (.iload_n 2, 1) := by decide +kernel
theorem dX7_tryPiece_122 : decode cX7_tryPiece 122 = .ok (.aload_n 0, 1) := by decide +kernel
theorem dX7_tryPiece_123 : decode cX7_tryPiece 123 = .ok (.getfield 66, 3) := by decide +kernel
theorem dX7_tryPiece_126 : decode cX7_tryPiece 126 = .ok (.iload_n 1, 1) := by decide +kernel
theorem dX7_tryPiece_127 : decode cX7_tryPiece 127 = .ok (.iaload, 1) := by decide +kernel
theorem dX7_tryPiece_128 : decode cX7_tryPiece 128 = .ok (.if_icmp .ge 7, 3) := by decide +kernel
theorem dX7_tryPiece_131 : decode cX7_tryPiece 131 = .ok (.iconst 1, 1) := by decide +kernel
theorem dX7_tryPiece_132 : decode cX7_tryPiece 132 = .ok (.goto 4, 3) := by decide +kernel
theorem dX7_tryPiece_135 : decode cX7_tryPiece 135 = .ok (.iconst 0, 1) := by decide +kernel
theorem dX7_tryPiece_136 : decode cX7_tryPiece 136 = .ok (.istore 7, 2) := by decide +kernel
theorem dX7_tryPiece_138 : decode cX7_tryPiece 138 = .ok (.iload 4, 2) := by decide +kernel
theorem dX7_tryPiece_140 : decode cX7_tryPiece 140 = .ok (.aload_n 0, 1) := by decide +kernel
theorem dX7_tryPiece_141 : decode cX7_tryPiece 141 = .ok (.getfield 60, 3) := by decide +kernel
theorem dX7_tryPiece_144 : decode cX7_tryPiece 144 = .ok (.iload_n 1, 1) := by decide +kernel
theorem dX7_tryPiece_145 : decode cX7_tryPiece 145 = .ok (.iaload, 1) := by decide +kernel
theorem dX7_tryPiece_146 : decode cX7_tryPiece 146 = .ok (.if_icmp .gt 35, 3) := by decide +kernel
theorem dX7_tryPiece_149 : decode cX7_tryPiece 149 = .ok (.iload 4, 2) := by decide +kernel
theorem dX7_tryPiece_151 : decode cX7_tryPiece 151 = .ok (.aload_n 0, 1) := by decide +kernel
theorem dX7_tryPiece_152 : decode cX7_tryPiece 152 = .ok (.getfield 60, 3) := by decide +kernel
theorem dX7_tryPiece_155 : decode cX7_tryPiece 155 = .ok (.iload_n 1, 1) := by decide +kernel
theorem dX7_tryPiece_156 : decode cX7_tryPiece 156 = .ok (.iaload, 1) := by decide +kernel
theorem dX7_tryPiece_157 : decode cX7_tryPiece 157 = .ok (.if_icmp .ne 14, 3) := by decide +kernel
theorem dX7_tryPiece_160 : decode cX7_tryPiece 160 = .ok (.iload 5, 2) := by decide +kernel
theorem dX7_tryPiece_162 : decode cX7_tryPiece 162 = .ok (.aload_n 0, 1) := by decide +kernel
theorem dX7_tryPiece_163 : decode cX7_tryPiece 163 = .ok (.getfield 63, 3) := by decide +kernel
theorem dX7_tryPiece_166 : decode cX7_tryPiece 166 = .ok (.iload_n 1, 1) := by decide +kernel
theorem dX7_tryPiece_167 : decode cX7_tryPiece 167 = .ok (.iaload, 1) := by decide +kernel
theorem dX7_tryPiece_168 : decode cX7_tryPiece 168 = .ok (.if_icmp .lt 13, 3) := by decide +kernel
theorem dX7_tryPiece_171 : decode cX7_tryPiece 171 = .ok (.iload 7, 2) := by decide +kernel
theorem dX7_tryPiece_173 : decode cX7_tryPiece 173 = .ok (.ifCond .ne 8, 3) := by decide +kernel
theorem dX7_tryPiece_176 : decode cX7_tryPiece 176 = .ok (.iload 6, 2) := by decide +kernel
theorem dX7_tryPiece_178 : decode cX7_tryPiece 178 = .ok (.ifCond .eq 43, 3) := by decide +kernel
theorem dX7_tryPiece_181 : decode cX7_tryPiece 181 = .ok (.aload_n 0, 1) := by decide +kernel
theorem dX7_tryPiece_182 : decode cX7_tryPiece 182 = .ok (.getfield 60, 3) := by decide +kernel
theorem dX7_tryPiece_185 : decode cX7_tryPiece 185 = .ok (.iload_n 1, 1) := by decide +kernel
theorem dX7_tryPiece_186 : decode cX7_tryPiece 186 = .ok (.iload 4, 2) := by decide +kernel
theorem dX7_tryPiece_188 : decode cX7_tryPiece 188 = .ok (.iastore, 1) := by decide +kernel
theorem dX7_tryPiece_189 : decode cX7_tryPiece 189 = .ok (.aload_n 0, 1) := by decide +kernel
theorem dX7_tryPiece_190 : decode cX7_tryPiece 190 = .ok (.getfield 63, 3) := by decide +kernel
theorem dX7_tryPiece_193 : decode cX7_tryPiece 193 = .ok (.iload_n 1, 1) := by decide +kernel
theorem dX7_tryPiece_194 : decode cX7_tryPiece 194 = .ok (.iload 5, 2) := by decide +kernel
theorem dX7_tryPiece_196 : decode cX7_tryPiece 196 = .ok (.iastore, 1) := by decide +kernel
theorem dX7_tryPiece_197 : decode cX7_tryPiece 197 = .ok (.aload_n 0, 1) := by decide +kernel
theorem dX7_tryPiece_198 : decode cX7_tryPiece 198 = .ok (.getfield 66, 3) := by decide +kernel
theorem dX7_tryPiece_201 : decode cX7_tryPiece 201 = .ok (.iload_n 1, 1) := by decide +kernel
theorem dX7_tryPiece_202 : decode cX7_tryPiece 202 = .ok (.iload_n 2, 1) := by decide +kernel
theorem dX7_tryPiece_203 : decode cX7_tryPiece 203 = .ok (.iastore, 1) := by decide +kernel
theorem dX7_tryPiece_204 : decode cX7_tryPiece 204 = .ok (.aload_n 0, 1) := by decide +kernel
theorem dX7_tryPiece_205 : decode cX7_tryPiece 205 = .ok (.getfield 69, 3) := by decide +kernel
theorem dX7_tryPiece_208 : decode cX7_tryPiece 208 = .ok (.iload_n 1, 1) := by decide +kernel
theorem dX7_tryPiece_209 : decode cX7_tryPiece 209 = .ok (.iload_n 3, 1) := by decide +kernel
theorem dX7_tryPiece_210 : decode cX7_tryPiece 210 = .ok (.iastore, 1) := by decide +kernel
theorem dX7_tryPiece_211 : decode cX7_tryPiece 211 = .ok (.aload_n 0, 1) := by decide +kernel
theorem dX7_tryPiece_212 : decode cX7_tryPiece 212 = .ok (.getfield 72, 3) := by decide +kernel
theorem dX7_tryPiece_215 : decode cX7_tryPiece 215 = .ok (.iload_n 1, 1) := by decide +kernel
theorem dX7_tryPiece_216 : decode cX7_tryPiece 216 = .ok (.aload_n 0, 1) := by decide +kernel
theorem dX7_tryPiece_217 : decode cX7_tryPiece 217 = .ok (.getfield 164, 3) := by decide +kernel
theorem dX7_tryPiece_220 : decode cX7_tryPiece 220 = .ok (.iastore, 1) := by decide +kernel
theorem dX7_tryPiece_221 : decode cX7_tryPiece 221 = .ok (.return_, 1) := by decide +kernel
theorem dX7_layCuts_0 : decode cX7_layCuts 0 = .ok (.aload_n 0, 1) := by decide +kernel
theorem dX7_layCuts_1 : decode cX7_layCuts 1 = .ok (.getfield 60, 3) := by decide +kernel
theorem dX7_layCuts_4 : decode cX7_layCuts 4 = .ok (.aload_n 0, 1) := by decide +kernel
theorem dX7_layCuts_5 : decode cX7_layCuts 5 = .ok (.getfield 133, 3) := by decide +kernel
theorem dX7_layCuts_8 : decode cX7_layCuts 8 = .ok (.iconst 0, 1) := by decide +kernel
theorem dX7_layCuts_9 : decode cX7_layCuts 9 = .ok (.iastore, 1) := by decide +kernel
theorem dX7_layCuts_10 : decode cX7_layCuts 10 = .ok (.aload_n 0, 1) := by decide +kernel
theorem dX7_layCuts_11 : decode cX7_layCuts 11 = .ok (.getfield 63, 3) := by decide +kernel
theorem dX7_layCuts_14 : decode cX7_layCuts 14 = .ok (.aload_n 0, 1) := by decide +kernel
theorem dX7_layCuts_15 : decode cX7_layCuts 15 = .ok (.getfield 133, 3) := by decide +kernel
theorem dX7_layCuts_18 : decode cX7_layCuts 18 = .ok (.iconst 0, 1) := by decide +kernel
theorem dX7_layCuts_19 : decode cX7_layCuts 19 = .ok (.iastore, 1) := by decide +kernel
theorem dX7_layCuts_20 : decode cX7_layCuts 20 = .ok (.aload_n 0, 1) := by decide +kernel
theorem dX7_layCuts_21 : decode cX7_layCuts 21 = .ok (.getfield 133, 3) := by decide +kernel
theorem dX7_layCuts_24 : decode cX7_layCuts 24 = .ok (.iconst 1, 1) := by decide +kernel
theorem dX7_layCuts_25 : decode cX7_layCuts 25 = .ok (.isub, 1) := by decide +kernel
theorem dX7_layCuts_26 : decode cX7_layCuts 26 = .ok (.istore_n 1, 1) := by decide +kernel
theorem dX7_layCuts_27 : decode cX7_layCuts 27 = .ok (.iload_n 1, 1) := by decide +kernel
theorem dX7_layCuts_28 : decode cX7_layCuts 28 = .ok (.ifCond .lt 95, 3) := by decide +kernel
theorem dX7_layCuts_31 : decode cX7_layCuts 31 = .ok (.aload_n 0, 1) := by decide +kernel
theorem dX7_layCuts_32 : decode cX7_layCuts 32 = .ok (.getfield 60, 3) := by decide +kernel
theorem dX7_layCuts_35 : decode cX7_layCuts 35 = .ok (.iload_n 1, 1) := by decide +kernel
theorem dX7_layCuts_36 : decode cX7_layCuts 36 = .ok (.ldc 204, 2) := by decide +kernel
theorem dX7_layCuts_38 : decode cX7_layCuts 38 = .ok (.iastore, 1) := by decide +kernel
theorem dX7_layCuts_39 : decode cX7_layCuts 39 = .ok (.aload_n 0, 1) := by decide +kernel
theorem dX7_layCuts_40 : decode cX7_layCuts 40 = .ok (.getfield 63, 3) := by decide +kernel
theorem dX7_layCuts_43 : decode cX7_layCuts 43 = .ok (.iload_n 1, 1) := by decide +kernel
theorem dX7_layCuts_44 : decode cX7_layCuts 44 = .ok (.iconst 0, 1) := by decide +kernel
theorem dX7_layCuts_45 : decode cX7_layCuts 45 = .ok (.iastore, 1) := by decide +kernel
theorem dX7_layCuts_46 : decode cX7_layCuts 46 = .ok (.iconst 0, 1) := by decide +kernel
theorem dX7_layCuts_47 : decode cX7_layCuts 47 = .ok (.istore_n 2, 1) := by decide +kernel
theorem dX7_layCuts_48 : decode cX7_layCuts 48 = .ok (.iload_n 2, 1) := by decide +kernel
theorem dX7_layCuts_49 : decode cX7_layCuts 49 = .ok (.aload_n 0, 1) := by decide +kernel
theorem dX7_layCuts_50 : decode cX7_layCuts 50 = .ok (.getfield 110, 3) := by decide +kernel
theorem dX7_layCuts_53 : decode cX7_layCuts 53 = .ok (.if_icmp .ge 64, 3) := by decide +kernel
theorem dX7_layCuts_56 : decode cX7_layCuts 56 = .ok (.aload_n 0, 1) := by decide +kernel
theorem dX7_layCuts_57 : decode cX7_layCuts 57 = .ok (.invokevirtual 173, 3) := by decide +kernel
theorem dX7_layCuts_60 : decode cX7_layCuts 60 = .ok (.iload_n 1, 1) := by decide +kernel
theorem dX7_layCuts_61 : decode cX7_layCuts 61 = .ok (.istore_n 3, 1) := by decide +kernel
theorem dX7_layCuts_62 : decode cX7_layCuts 62 = .ok (.iload_n 3, 1) := by decide +kernel
theorem dX7_layCuts_63 : decode cX7_layCuts 63 = .ok (.aload_n 0, 1) := by decide +kernel
theorem dX7_layCuts_64 : decode cX7_layCuts 64 = .ok (.getfield 133, 3) := by decide +kernel
theorem dX7_layCuts_67 : decode cX7_layCuts 67 = .ok (.if_icmp .ge 44, 3) := by decide +kernel
theorem dX7_layCuts_70 : decode cX7_layCuts 70 = .ok (.aload_n 0, 1) := by decide +kernel
theorem dX7_layCuts_71 : decode cX7_layCuts 71 = .ok (.getfield 155, 3) := by decide +kernel
theorem dX7_layCuts_74 : decode cX7_layCuts 74 = .ok (.iconst (-1), 1) := by decide +kernel
theorem dX7_layCuts_75 : decode cX7_layCuts 75 = .ok (.if_icmp .eq 36, 3) := by decide +kernel
theorem dX7_layCuts_78 : decode cX7_layCuts 78 = .ok (.aload_n 0, 1) := by decide +kernel
theorem dX7_layCuts_79 : decode cX7_layCuts 79 = .ok (.iload_n 2, 1) := by decide +kernel
theorem dX7_layCuts_80 : decode cX7_layCuts 80 = .ok (.aload_n 0, 1) := by decide +kernel
theorem dX7_layCuts_81 : decode cX7_layCuts 81 = .ok (.getfield 26, 3) := by decide +kernel
theorem dX7_layCuts_84 : decode cX7_layCuts 84 = .ok (.iload_n 3, 1) := by decide +kernel
theorem dX7_layCuts_85 : decode cX7_layCuts 85 = .ok (.iaload, 1) := by decide +kernel
theorem dX7_layCuts_86 : decode cX7_layCuts 86 = .ok (.invokevirtual 176, 3) := by decide +kernel
theorem dX7_layCuts_89 : decode cX7_layCuts 89 = .ok (.aload_n 0, 1) := by decide +kernel
theorem dX7_layCuts_90 : decode cX7_layCuts 90 = .ok (.getfield 155, 3) := by decide +kernel
theorem dX7_layCuts_93 : decode cX7_layCuts 93 = .ok (.ifCond .ne 12, 3) := by decide +kernel
theorem dX7_layCuts_96 : decode cX7_layCuts 96 = .ok (.aload_n 0, 1) := by decide +kernel
theorem dX7_layCuts_97 : decode cX7_layCuts 97 = .ok (.iload_n 1, 1) := by decide +kernel
theorem dX7_layCuts_98 : decode cX7_layCuts 98 = .ok (.iload_n 3, 1) := by decide +kernel
theorem dX7_layCuts_99 : decode cX7_layCuts 99 = .ok (.iconst 1, 1) := by decide +kernel
theorem dX7_layCuts_100 : decode cX7_layCuts 100 = .ok (.iadd, 1) := by decide +kernel
theorem dX7_layCuts_101 : decode cX7_layCuts 101 = .ok (.iload_n 2, 1) := by decide +kernel
theorem dX7_layCuts_102 : decode cX7_layCuts 102 = .ok (.invokevirtual 285, 3) := by decide +kernel
theorem dX7_layCuts_105 : decode cX7_layCuts 105 = .ok (.iinc 3 1, 3) := by decide +kernel
theorem dX7_layCuts_108 : decode cX7_layCuts 108 = .ok (.goto (-46), 3) := by decide +kernel
theorem dX7_layCuts_111 : decode cX7_layCuts 111 = .ok (.iinc 2 1, 3) := by decide +kernel
theorem dX7_layCuts_114 : decode cX7_layCuts 114 = .ok (.goto (-66), 3) := by decide +kernel
theorem dX7_layCuts_117 : decode cX7_layCuts 117 = .ok (.iinc 1 (-1), 3) := by decide +kernel
theorem dX7_layCuts_120 : decode cX7_layCuts 120 = .ok (.goto (-93), 3) := by decide +kernel
theorem dX7_layCuts_123 : decode cX7_layCuts 123 = .ok (.return_, 1) := by decide +kernel
theorem dX7_areCuts_0 : decode cX7_areCuts 0 = .ok (.aload_n 0, 1) := by decide +kernel
theorem dX7_areCuts_1 : decode cX7_areCuts 1 = .ok (.invokevirtual 289, 3) := by decide +kernel
theorem dX7_areCuts_4 : decode cX7_areCuts 4 = .ok (.aload_n 0, 1) := by decide +kernel
theorem dX7_areCuts_5 : decode cX7_areCuts 5 = .ok (.getfield 60, 3) := by decide +kernel
theorem dX7_areCuts_8 : decode cX7_areCuts 8 = .ok (.iconst 0, 1) := by decide +kernel
theorem dX7_areCuts_9 : decode cX7_areCuts 9 = .ok (.iaload, 1) := by decide +kernel
theorem dX7_areCuts_10 : decode cX7_areCuts 10 = .ok (.ldc 204, 2) := by decide +kernel
theorem dX7_areCuts_12 : decode cX7_areCuts 12 = .ok (.if_icmp .eq 7, 3) := by decide +kernel
theorem dX7_areCuts_15 : decode cX7_areCuts 15 = .ok (.iconst 1, 1) := by decide +kernel
theorem dX7_areCuts_16 : decode cX7_areCuts 16 = .ok (.goto 4, 3) := by decide +kernel
theorem dX7_areCuts_19 : decode cX7_areCuts 19 = .ok (.iconst 0, 1) := by decide +kernel
theorem dX7_areCuts_20 : decode cX7_areCuts 20 = .ok (.ireturn, 1) := by decide +kernel
theorem dX7_cuts_0 : decode cX7_cuts 0 = .ok (.iload_n 1, 1) := by decide +kernel
theorem dX7_cuts_1 : decode cX7_cuts 1 = .ok (.iconst 0, 1) := by decide +kernel
theorem dX7_cuts_2 : decode cX7_cuts 2 = .ok (.iconst 1, 1) := by decide +kernel
theorem dX7_cuts_3 : decode cX7_cuts 3 = .ok (.invokestatic 75, 3) := by decide +kernel
theorem dX7_cuts_6 : decode cX7_cuts 6 = .ok (.ifCond .ne 6, 3) := by decide +kernel
theorem dX7_cuts_9 : decode cX7_cuts 9 = .ok (.bipush (-102), 2) := by decide +kernel
theorem dX7_cuts_11 : decode cX7_cuts 11 = .ok (.ireturn, 1) := by decide +kernel
theorem dX7_cuts_12 : decode cX7_cuts 12 = .ok (.aload_n 0, 1) := by decide +kernel
theorem dX7_cuts_13 : decode cX7_cuts 13 = .ok (.invokevirtual 292, 3) := by decide +kernel
theorem dX7_cuts_16 : decode cX7_cuts 16 = .ok (.ifCond .ne 8, 3) := by decide +kernel
theorem dX7_cuts_19 : decode cX7_cuts 19 = .ok (.bipush (-103), 2) := by decide +kernel
theorem dX7_cuts_21 : decode cX7_cuts 21 = .ok (.goto 22, 3) := by decide +kernel
theorem dX7_cuts_24 : decode cX7_cuts 24 = .ok (.iload_n 1, 1) := by decide +kernel
theorem dX7_cuts_25 : decode cX7_cuts 25 = .ok (.ifCond .ne 12, 3) := by decide +kernel
theorem dX7_cuts_28 : decode cX7_cuts 28 = .ok (.aload_n 0, 1) := by decide +kernel
theorem dX7_cuts_29 : decode cX7_cuts 29 = .ok (.getfield 60, 3) := by decide +kernel
theorem dX7_cuts_32 : decode cX7_cuts 32 = .ok (.iconst 0, 1) := by decide +kernel
theorem dX7_cuts_33 : decode cX7_cuts 33 = .ok (.iaload, 1) := by decide +kernel
theorem dX7_cuts_34 : decode cX7_cuts 34 = .ok (.goto 9, 3) := by decide +kernel
theorem dX7_cuts_37 : decode cX7_cuts 37 = .ok (.aload_n 0, 1) := by decide +kernel
theorem dX7_cuts_38 : decode cX7_cuts 38 = .ok (.getfield 63, 3) := by decide +kernel
theorem dX7_cuts_41 : decode cX7_cuts 41 = .ok (.iconst 0, 1) := by decide +kernel
theorem dX7_cuts_42 : decode cX7_cuts 42 = .ok (.iaload, 1) := by decide +kernel
theorem dX7_cuts_43 : decode cX7_cuts 43 = .ok (.ireturn, 1) := by decide +kernel
theorem dX7_pieceNow_0 : decode cX7_pieceNow 0 = .ok (.iconst 0, 1) := by decide +kernel
theorem dX7_pieceNow_1 : decode cX7_pieceNow 1 = .ok (.istore_n 3, 1) := by decide +kernel
theorem dX7_pieceNow_2 : decode cX7_pieceNow 2 = .ok (.iconst 0, 1) := by decide +kernel
theorem dX7_pieceNow_3 : decode cX7_pieceNow 3 = .ok (.istore 4, 2) := by decide +kernel
theorem dX7_pieceNow_5 : decode cX7_pieceNow 5 = .ok (.iload 4, 2) := by decide +kernel
theorem dX7_pieceNow_7 : decode cX7_pieceNow 7 = .ok (.iload_n 1, 1) := by decide +kernel
theorem dX7_pieceNow_8 : decode cX7_pieceNow 8 = .ok (.if_icmp .ge 16, 3) := by decide +kernel
theorem dX7_pieceNow_11 : decode cX7_pieceNow 11 = .ok (.aload_n 0, 1) := by decide +kernel
theorem dX7_pieceNow_12 : decode cX7_pieceNow 12 = .ok (.getfield 66, 3) := by decide +kernel
theorem dX7_pieceNow_15 : decode cX7_pieceNow 15 = .ok (.iload_n 3, 1) := by decide +kernel
theorem dX7_pieceNow_16 : decode cX7_pieceNow 16 = .ok (.iaload, 1) := by decide +kernel
theorem dX7_pieceNow_17 : decode cX7_pieceNow 17 = .ok (.istore_n 3, 1) := by decide +kernel
theorem dX7_pieceNow_18 : decode cX7_pieceNow 18 = .ok (.iinc 4 1, 3) := by decide +kernel
theorem dX7_pieceNow_21 : decode cX7_pieceNow 21 = .ok (.goto (-16), 3) := by decide +kernel
theorem dX7_pieceNow_24 : decode cX7_pieceNow 24 = .ok (.iload_n 2, 1) := by decide +kernel
theorem dX7_pieceNow_25 : decode cX7_pieceNow 25 = .ok (.ifCond .ne 12, 3) := by decide +kernel
theorem dX7_pieceNow_28 : decode cX7_pieceNow 28 = .ok (.aload_n 0, 1) := by decide +kernel
theorem dX7_pieceNow_29 : decode cX7_pieceNow 29 = .ok (.getfield 66, 3) := by decide +kernel
theorem dX7_pieceNow_32 : decode cX7_pieceNow 32 = .ok (.iload_n 3, 1) := by decide +kernel
theorem dX7_pieceNow_33 : decode cX7_pieceNow 33 = .ok (.iaload, 1) := by decide +kernel
theorem dX7_pieceNow_34 : decode cX7_pieceNow 34 = .ok (.goto 23, 3) := by decide +kernel
theorem dX7_pieceNow_37 : decode cX7_pieceNow 37 = .ok (.iload_n 2, 1) := by decide +kernel
theorem dX7_pieceNow_38 : decode cX7_pieceNow 38 = .ok (.iconst 1, 1) := by decide +kernel
theorem dX7_pieceNow_39 : decode cX7_pieceNow 39 = .ok (.if_icmp .ne 12, 3) := by decide +kernel
theorem dX7_pieceNow_42 : decode cX7_pieceNow 42 = .ok (.aload_n 0, 1) := by decide +kernel
theorem dX7_pieceNow_43 : decode cX7_pieceNow 43 = .ok (.getfield 69, 3) := by decide +kernel
theorem dX7_pieceNow_46 : decode cX7_pieceNow 46 = .ok (.iload_n 3, 1) := by decide +kernel
theorem dX7_pieceNow_47 : decode cX7_pieceNow 47 = .ok (.iaload, 1) := by decide +kernel
theorem dX7_pieceNow_48 : decode cX7_pieceNow 48 = .ok (.goto 9, 3) := by decide +kernel
theorem dX7_pieceNow_51 : decode cX7_pieceNow 51 = .ok (.aload_n 0, 1) := by decide +kernel
theorem dX7_pieceNow_52 : decode cX7_pieceNow 52 = .ok (.getfield 72, 3) := by decide +kernel
theorem dX7_pieceNow_55 : decode cX7_pieceNow 55 = .ok (.iload_n 3, 1) := by decide +kernel
theorem dX7_pieceNow_56 : decode cX7_pieceNow 56 = .ok (.iaload, 1) := by decide +kernel
theorem dX7_pieceNow_57 : decode cX7_pieceNow 57 = .ok (.ireturn, 1) := by decide +kernel
theorem dX7_piece_0 : decode cX7_piece 0 = .ok (.aload_n 0, 1) := by decide +kernel
theorem dX7_piece_1 : decode cX7_piece 1 = .ok (.invokevirtual 292, 3) := by decide +kernel
theorem dX7_piece_4 : decode cX7_piece 4 = .ok (.ifCond .eq 19, 3) := by decide +kernel
theorem dX7_piece_7 : decode cX7_piece 7 = .ok (.iload_n 1, 1) := by decide +kernel
theorem dX7_piece_8 : decode cX7_piece 8 = .ok (.iconst 0, 1) := by decide +kernel
theorem dX7_piece_9 : decode cX7_piece 9 = .ok (.aload_n 0, 1) := by decide +kernel
theorem dX7_piece_10 : decode cX7_piece 10 = .ok (.getfield 63, 3) := by decide +kernel
theorem dX7_piece_13 : decode cX7_piece 13 = .ok (.iconst 0, 1) := by decide +kernel
theorem dX7_piece_14 : decode cX7_piece 14 = .ok (.iaload, 1) := by decide +kernel
theorem dX7_piece_15 : decode cX7_piece 15 = .ok (.iconst 1, 1) := by decide +kernel
theorem dX7_piece_16 : decode cX7_piece 16 = .ok (.isub, 1) := by decide +kernel
theorem dX7_piece_17 : decode cX7_piece 17 = .ok (.invokestatic 75, 3) := by decide +kernel
theorem dX7_piece_20 : decode cX7_piece 20 = .ok (.ifCond .ne 6, 3) := by decide +kernel
theorem dX7_piece_23 : decode cX7_piece 23 = .ok (.bipush (-101), 2) := by decide +kernel
theorem dX7_piece_25 : decode cX7_piece 25 = .ok (.ireturn, 1) := by decide +kernel
theorem dX7_piece_26 : decode cX7_piece 26 = .ok (.iload_n 2, 1) := by decide +kernel
theorem dX7_piece_27 : decode cX7_piece 27 = .ok (.iconst 0, 1) := by decide +kernel
theorem dX7_piece_28 : decode cX7_piece 28 = .ok (.iconst 2, 1) := by decide +kernel
theorem dX7_piece_29 : decode cX7_piece 29 = .ok (.invokestatic 75, 3) := by decide +kernel
theorem dX7_piece_32 : decode cX7_piece 32 = .ok (.ifCond .eq 12, 3) := by decide +kernel
theorem dX7_piece_35 : decode cX7_piece 35 = .ok (.aload_n 0, 1) := by decide +kernel
theorem dX7_piece_36 : decode cX7_piece 36 = .ok (.iload_n 1, 1) := by decide +kernel
theorem dX7_piece_37 : decode cX7_piece 37 = .ok (.iload_n 2, 1) := by decide +kernel
theorem dX7_piece_38 : decode cX7_piece 38 = .ok (.invokevirtual 296, 3) := by decide +kernel
theorem dX7_piece_41 : decode cX7_piece 41 = .ok (.goto 5, 3) := by decide +kernel
theorem dX7_piece_44 : decode cX7_piece 44 = .ok (.bipush (-102), 2) := by decide +kernel
theorem dX7_piece_46 : decode cX7_piece 46 = .ok (.ireturn, 1) := by decide +kernel
theorem dX7_aliveMany_0 : decode cX7_aliveMany 0 = .ok (.iconst 0, 1) := by decide +kernel
theorem dX7_aliveMany_1 : decode cX7_aliveMany 1 = .ok (.istore_n 1, 1) := by decide +kernel
theorem dX7_aliveMany_2 : decode cX7_aliveMany 2 = .ok (.iconst 0, 1) := by decide +kernel
theorem dX7_aliveMany_3 : decode cX7_aliveMany 3 = .ok (.istore_n 2, 1) := by decide +kernel
theorem dX7_aliveMany_4 : decode cX7_aliveMany 4 = .ok (.iload_n 2, 1) := by decide +kernel
theorem dX7_aliveMany_5 : decode cX7_aliveMany 5 = .ok (.aload_n 0, 1) := by decide +kernel
theorem dX7_aliveMany_6 : decode cX7_aliveMany 6 = .ok (.getfield 110, 3) := by decide +kernel
theorem dX7_aliveMany_9 : decode cX7_aliveMany 9 = .ok (.if_icmp .ge 25, 3) := by decide +kernel
theorem dX7_aliveMany_12 : decode cX7_aliveMany 12 = .ok (.iload_n 1, 1) := by decide +kernel
theorem dX7_aliveMany_13 : decode cX7_aliveMany 13 = .ok (.aload_n 0, 1) := by decide +kernel
theorem dX7_aliveMany_14 : decode cX7_aliveMany 14 = .ok (.iload_n 2, 1) := by decide +kernel
theorem dX7_aliveMany_15 : decode cX7_aliveMany 15 = .ok (.invokevirtual 230, 3) := by decide +kernel
theorem dX7_aliveMany_18 : decode cX7_aliveMany 18 = .ok (.ifCond .eq 7, 3) := by decide +kernel
theorem dX7_aliveMany_21 : decode cX7_aliveMany 21 = .ok (.iconst 1, 1) := by decide +kernel
theorem dX7_aliveMany_22 : decode cX7_aliveMany 22 = .ok (.goto 4, 3) := by decide +kernel
theorem dX7_aliveMany_25 : decode cX7_aliveMany 25 = .ok (.iconst 0, 1) := by decide +kernel
theorem dX7_aliveMany_26 : decode cX7_aliveMany 26 = .ok (.iadd, 1) := by decide +kernel
theorem dX7_aliveMany_27 : decode cX7_aliveMany 27 = .ok (.istore_n 1, 1) := by decide +kernel
theorem dX7_aliveMany_28 : decode cX7_aliveMany 28 = .ok (.iinc 2 1, 3) := by decide +kernel
theorem dX7_aliveMany_31 : decode cX7_aliveMany 31 = .ok (.goto (-27), 3) := by decide +kernel
theorem dX7_aliveMany_34 : decode cX7_aliveMany 34 = .ok (.iload_n 1, 1) := by decide +kernel
theorem dX7_aliveMany_35 : decode cX7_aliveMany 35 = .ok (.ireturn, 1) := by decide +kernel
theorem dX7_validMany_0 : decode cX7_validMany 0 = .ok (.iconst 0, 1) := by decide +kernel
theorem dX7_validMany_1 : decode cX7_validMany 1 = .ok (.istore_n 1, 1) := by decide +kernel
theorem dX7_validMany_2 : decode cX7_validMany 2 = .ok (.iconst 0, 1) := by decide +kernel
theorem dX7_validMany_3 : decode cX7_validMany 3 = .ok (.istore_n 2, 1) := by decide +kernel
theorem dX7_validMany_4 : decode cX7_validMany 4 = .ok (.iload_n 2, 1) := by decide +kernel
theorem dX7_validMany_5 : decode cX7_validMany 5 = .ok (.aload_n 0, 1) := by decide +kernel
theorem dX7_validMany_6 : decode cX7_validMany 6 = .ok (.getfield 110, 3) := by decide +kernel
theorem dX7_validMany_9 : decode cX7_validMany 9 = .ok (.if_icmp .ge 25, 3) := by decide +kernel
theorem dX7_validMany_12 : decode cX7_validMany 12 = .ok (.iload_n 1, 1) := by decide +kernel
theorem dX7_validMany_13 : decode cX7_validMany 13 = .ok (.aload_n 0, 1) := by decide +kernel
theorem dX7_validMany_14 : decode cX7_validMany 14 = .ok (.iload_n 2, 1) := by decide +kernel
theorem dX7_validMany_15 : decode cX7_validMany 15 = .ok (.invokevirtual 183, 3) := by decide +kernel
theorem dX7_validMany_18 : decode cX7_validMany 18 = .ok (.ifCond .eq 7, 3) := by decide +kernel
theorem dX7_validMany_21 : decode cX7_validMany 21 = .ok (.iconst 1, 1) := by decide +kernel
theorem dX7_validMany_22 : decode cX7_validMany 22 = .ok (.goto 4, 3) := by decide +kernel
theorem dX7_validMany_25 : decode cX7_validMany 25 = .ok (.iconst 0, 1) := by decide +kernel
theorem dX7_validMany_26 : decode cX7_validMany 26 = .ok (.iadd, 1) := by decide +kernel
theorem dX7_validMany_27 : decode cX7_validMany 27 = .ok (.istore_n 1, 1) := by decide +kernel
theorem dX7_validMany_28 : decode cX7_validMany 28 = .ok (.iinc 2 1, 3) := by decide +kernel
theorem dX7_validMany_31 : decode cX7_validMany 31 = .ok (.goto (-27), 3) := by decide +kernel
theorem dX7_validMany_34 : decode cX7_validMany 34 = .ok (.iload_n 1, 1) := by decide +kernel
theorem dX7_validMany_35 : decode cX7_validMany 35 = .ok (.ireturn, 1) := by decide +kernel
theorem dX7_howMany_0 : decode cX7_howMany 0 = .ok (.iload_n 1, 1) := by decide +kernel
theorem dX7_howMany_1 : decode cX7_howMany 1 = .ok (.tableswitch 87 0 7 #[47, 52, 57, 62, 67, 72, 77, 82], 47) := by decide +kernel
theorem dX7_howMany_48 : decode cX7_howMany 48 = .ok (.aload_n 0, 1) := by decide +kernel
theorem dX7_howMany_49 : decode cX7_howMany 49 = .ok (.getfield 110, 3) := by decide +kernel
theorem dX7_howMany_52 : decode cX7_howMany 52 = .ok (.ireturn, 1) := by decide +kernel
theorem dX7_howMany_53 : decode cX7_howMany 53 = .ok (.aload_n 0, 1) := by decide +kernel
theorem dX7_howMany_54 : decode cX7_howMany 54 = .ok (.getfield 133, 3) := by decide +kernel
theorem dX7_howMany_57 : decode cX7_howMany 57 = .ok (.ireturn, 1) := by decide +kernel
theorem dX7_howMany_58 : decode cX7_howMany 58 = .ok (.aload_n 0, 1) := by decide +kernel
theorem dX7_howMany_59 : decode cX7_howMany 59 = .ok (.getfield 22, 3) := by decide +kernel
theorem dX7_howMany_62 : decode cX7_howMany 62 = .ok (.ireturn, 1) := by decide +kernel
theorem dX7_howMany_63 : decode cX7_howMany 63 = .ok (.aload_n 0, 1) := by decide +kernel
theorem dX7_howMany_64 : decode cX7_howMany 64 = .ok (.invokevirtual 299, 3) := by decide +kernel
theorem dX7_howMany_67 : decode cX7_howMany 67 = .ok (.ireturn, 1) := by decide +kernel
theorem dX7_howMany_68 : decode cX7_howMany 68 = .ok (.aload_n 0, 1) := by decide +kernel
theorem dX7_howMany_69 : decode cX7_howMany 69 = .ok (.invokevirtual 302, 3) := by decide +kernel
theorem dX7_howMany_72 : decode cX7_howMany 72 = .ok (.ireturn, 1) := by decide +kernel
theorem dX7_howMany_73 : decode cX7_howMany 73 = .ok (.aload_n 0, 1) := by decide +kernel
theorem dX7_howMany_74 : decode cX7_howMany 74 = .ok (.getfield 79, 3) := by decide +kernel
theorem dX7_howMany_77 : decode cX7_howMany 77 = .ok (.ireturn, 1) := by decide +kernel
theorem dX7_howMany_78 : decode cX7_howMany 78 = .ok (.aload_n 0, 1) := by decide +kernel
theorem dX7_howMany_79 : decode cX7_howMany 79 = .ok (.getfield 117, 3) := by decide +kernel
theorem dX7_howMany_82 : decode cX7_howMany 82 = .ok (.ireturn, 1) := by decide +kernel
theorem dX7_howMany_83 : decode cX7_howMany 83 = .ok (.aload_n 0, 1) := by decide +kernel
theorem dX7_howMany_84 : decode cX7_howMany 84 = .ok (.getfield 136, 3) := by decide +kernel
theorem dX7_howMany_87 : decode cX7_howMany 87 = .ok (.ireturn, 1) := by decide +kernel
theorem dX7_howMany_88 : decode cX7_howMany 88 = .ok (.bipush (-102), 2) := by decide +kernel
theorem dX7_howMany_90 : decode cX7_howMany 90 = .ok (.ireturn, 1) := by decide +kernel
theorem dX7_count_0 : decode cX7_count 0 = .ok (.aload_n 0, 1) := by decide +kernel
theorem dX7_count_1 : decode cX7_count 1 = .ok (.iload_n 1, 1) := by decide +kernel
theorem dX7_count_2 : decode cX7_count 2 = .ok (.invokevirtual 305, 3) := by decide +kernel
theorem dX7_count_5 : decode cX7_count 5 = .ok (.ireturn, 1) := by decide +kernel
theorem dX7_mix_0 : decode cX7_mix 0 = .ok (.aload_n 0, 1) := by decide +kernel
theorem dX7_mix_1 : decode cX7_mix 1 = .ok (.ldc2_w 308, 3) := by decide +kernel
theorem dX7_mix_4 : decode cX7_mix 4 = .ok (.aload_n 0, 1) := by decide +kernel
theorem dX7_mix_5 : decode cX7_mix 5 = .ok (.getfield 310, 3) := by decide +kernel
theorem dX7_mix_8 : decode cX7_mix 8 = .ok (.lmul, 1) := by decide +kernel
theorem dX7_mix_9 : decode cX7_mix 9 = .ok (.lload_n 1, 1) := by decide +kernel
theorem dX7_mix_10 : decode cX7_mix 10 = .ok (.ladd, 1) := by decide +kernel
theorem dX7_mix_11 : decode cX7_mix 11 = .ok (.putfield 310, 3) := by decide +kernel
theorem dX7_mix_14 : decode cX7_mix 14 = .ok (.return_, 1) := by decide +kernel
theorem dX7_mixCode_0 : decode cX7_mixCode 0 = .ok (.iconst 0, 1) := by decide +kernel
theorem dX7_mixCode_1 : decode cX7_mixCode 1 = .ok (.istore_n 2, 1) := by decide +kernel
theorem dX7_mixCode_2 : decode cX7_mixCode 2 = .ok (.iload_n 2, 1) := by decide +kernel
theorem dX7_mixCode_3 : decode cX7_mixCode 3 = .ok (.aload_n 0, 1) := by decide +kernel
theorem dX7_mixCode_4 : decode cX7_mixCode 4 = .ok (.getfield 7, 3) := by decide +kernel
theorem dX7_mixCode_7 : decode cX7_mixCode 7 = .ok (.iload_n 1, 1) := by decide +kernel
theorem dX7_mixCode_8 : decode cX7_mixCode 8 = .ok (.iaload, 1) := by decide +kernel
theorem dX7_mixCode_9 : decode cX7_mixCode 9 = .ok (.invokestatic 107, 3) := by decide +kernel
theorem dX7_mixCode_12 : decode cX7_mixCode 12 = .ok (.if_icmp .ge 20, 3) := by decide +kernel
theorem dX7_mixCode_15 : decode cX7_mixCode 15 = .ok (.aload_n 0, 1) := by decide +kernel
theorem dX7_mixCode_16 : decode cX7_mixCode 16 = .ok (.aload_n 0, 1) := by decide +kernel
theorem dX7_mixCode_17 : decode cX7_mixCode 17 = .ok (.iload_n 1, 1) := by decide +kernel
theorem dX7_mixCode_18 : decode cX7_mixCode 18 = .ok (.iload_n 2, 1) := by decide +kernel
theorem dX7_mixCode_19 : decode cX7_mixCode 19 = .ok (.invokevirtual 130, 3) := by decide +kernel
theorem dX7_mixCode_22 : decode cX7_mixCode 22 = .ok (.i2l, 1) := by decide +kernel
theorem dX7_mixCode_23 : decode cX7_mixCode 23 = .ok (.invokevirtual 314, 3) := by decide +kernel
theorem dX7_mixCode_26 : decode cX7_mixCode 26 = .ok (.iinc 2 1, 3) := by decide +kernel
theorem dX7_mixCode_29 : decode cX7_mixCode 29 = .ok (.goto (-27), 3) := by decide +kernel
theorem dX7_mixCode_32 : decode cX7_mixCode 32 = .ok (.iconst 0, 1) := by decide +kernel
theorem dX7_mixCode_33 : decode cX7_mixCode 33 = .ok (.istore_n 2, 1) := by decide +kernel
theorem dX7_mixCode_34 : decode cX7_mixCode 34 = .ok (.iload_n 2, 1) := by decide +kernel
theorem dX7_mixCode_35 : decode cX7_mixCode 35 = .ok (.bipush 8, 2) := by decide +kernel
theorem dX7_mixCode_37 : decode cX7_mixCode 37 = .ok (.if_icmp .ge 20, 3) := by decide +kernel
theorem dX7_mixCode_40 : decode cX7_mixCode 40 = .ok (.aload_n 0, 1) := by decide +kernel
theorem dX7_mixCode_41 : decode cX7_mixCode 41 = .ok (.aload_n 0, 1) := by decide +kernel
theorem dX7_mixCode_42 : decode cX7_mixCode 42 = .ok (.iload_n 1, 1) := by decide +kernel
theorem dX7_mixCode_43 : decode cX7_mixCode 43 = .ok (.iload_n 2, 1) := by decide +kernel
theorem dX7_mixCode_44 : decode cX7_mixCode 44 = .ok (.invokevirtual 248, 3) := by decide +kernel
theorem dX7_mixCode_47 : decode cX7_mixCode 47 = .ok (.i2l, 1) := by decide +kernel
theorem dX7_mixCode_48 : decode cX7_mixCode 48 = .ok (.invokevirtual 314, 3) := by decide +kernel
theorem dX7_mixCode_51 : decode cX7_mixCode 51 = .ok (.iinc 2 1, 3) := by decide +kernel
theorem dX7_mixCode_54 : decode cX7_mixCode 54 = .ok (.goto (-20), 3) := by decide +kernel
theorem dX7_mixCode_57 : decode cX7_mixCode 57 = .ok (.iconst 0, 1) := by decide +kernel
theorem dX7_mixCode_58 : decode cX7_mixCode 58 = .ok (.istore_n 2, 1) := by decide +kernel
theorem dX7_mixCode_59 : decode cX7_mixCode 59 = .ok (.iload_n 2, 1) := by decide +kernel
theorem dX7_mixCode_60 : decode cX7_mixCode 60 = .ok (.iconst 4, 1) := by decide +kernel
theorem dX7_mixCode_61 : decode cX7_mixCode 61 = .ok (.if_icmp .ge 20, 3) := by decide +kernel
theorem dX7_mixCode_64 : decode cX7_mixCode 64 = .ok (.aload_n 0, 1) := by decide +kernel
theorem dX7_mixCode_65 : decode cX7_mixCode 65 = .ok (.aload_n 0, 1) := by decide +kernel
theorem dX7_mixCode_66 : decode cX7_mixCode 66 = .ok (.iload_n 1, 1) := by decide +kernel
theorem dX7_mixCode_67 : decode cX7_mixCode 67 = .ok (.iload_n 2, 1) := by decide +kernel
theorem dX7_mixCode_68 : decode cX7_mixCode 68 = .ok (.invokevirtual 251, 3) := by decide +kernel
theorem dX7_mixCode_71 : decode cX7_mixCode 71 = .ok (.i2l, 1) := by decide +kernel
theorem dX7_mixCode_72 : decode cX7_mixCode 72 = .ok (.invokevirtual 314, 3) := by decide +kernel
theorem dX7_mixCode_75 : decode cX7_mixCode 75 = .ok (.iinc 2 1, 3) := by decide +kernel
theorem dX7_mixCode_78 : decode cX7_mixCode 78 = .ok (.goto (-19), 3) := by decide +kernel
theorem dX7_mixCode_81 : decode cX7_mixCode 81 = .ok (.aload_n 0, 1) := by decide +kernel
theorem dX7_mixCode_82 : decode cX7_mixCode 82 = .ok (.aload_n 0, 1) := by decide +kernel
theorem dX7_mixCode_83 : decode cX7_mixCode 83 = .ok (.iload_n 1, 1) := by decide +kernel
theorem dX7_mixCode_84 : decode cX7_mixCode 84 = .ok (.iconst 5, 1) := by decide +kernel
theorem dX7_mixCode_85 : decode cX7_mixCode 85 = .ok (.invokevirtual 260, 3) := by decide +kernel
theorem dX7_mixCode_88 : decode cX7_mixCode 88 = .ok (.i2l, 1) := by decide +kernel
theorem dX7_mixCode_89 : decode cX7_mixCode 89 = .ok (.invokevirtual 314, 3) := by decide +kernel
theorem dX7_mixCode_92 : decode cX7_mixCode 92 = .ok (.iconst 0, 1) := by decide +kernel
theorem dX7_mixCode_93 : decode cX7_mixCode 93 = .ok (.istore_n 2, 1) := by decide +kernel
theorem dX7_mixCode_94 : decode cX7_mixCode 94 = .ok (.iload_n 2, 1) := by decide +kernel
theorem dX7_mixCode_95 : decode cX7_mixCode 95 = .ok (.aload_n 0, 1) := by decide +kernel
theorem dX7_mixCode_96 : decode cX7_mixCode 96 = .ok (.getfield 110, 3) := by decide +kernel
theorem dX7_mixCode_99 : decode cX7_mixCode 99 = .ok (.if_icmp .ge 20, 3) := by decide +kernel
theorem dX7_mixCode_102 : decode cX7_mixCode 102 = .ok (.aload_n 0, 1) := by decide +kernel
theorem dX7_mixCode_103 : decode cX7_mixCode 103 = .ok (.aload_n 0, 1) := by decide +kernel
theorem dX7_mixCode_104 : decode cX7_mixCode 104 = .ok (.iload_n 1, 1) := by decide +kernel
theorem dX7_mixCode_105 : decode cX7_mixCode 105 = .ok (.iload_n 2, 1) := by decide +kernel
theorem dX7_mixCode_106 : decode cX7_mixCode 106 = .ok (.invokevirtual 276, 3) := by decide +kernel
theorem dX7_mixCode_109 : decode cX7_mixCode 109 = .ok (.i2l, 1) := by decide +kernel
theorem dX7_mixCode_110 : decode cX7_mixCode 110 = .ok (.invokevirtual 314, 3) := by decide +kernel
theorem dX7_mixCode_113 : decode cX7_mixCode 113 = .ok (.iinc 2 1, 3) := by decide +kernel
theorem dX7_mixCode_116 : decode cX7_mixCode 116 = .ok (.goto (-22), 3) := by decide +kernel
theorem dX7_mixCode_119 : decode cX7_mixCode 119 = .ok (.return_, 1) := by decide +kernel
theorem dX7_mixCuts_0 : decode cX7_mixCuts 0 = .ok (.aload_n 0, 1) := by decide +kernel
theorem dX7_mixCuts_1 : decode cX7_mixCuts 1 = .ok (.aload_n 0, 1) := by decide +kernel
theorem dX7_mixCuts_2 : decode cX7_mixCuts 2 = .ok (.getfield 60, 3) := by decide +kernel
theorem dX7_mixCuts_5 : decode cX7_mixCuts 5 = .ok (.iconst 0, 1) := by decide +kernel
theorem dX7_mixCuts_6 : decode cX7_mixCuts 6 = .ok (.iaload, 1) := by decide +kernel
theorem dX7_mixCuts_7 : decode cX7_mixCuts 7 = .ok (.i2l, 1) := by decide +kernel
theorem dX7_mixCuts_8 : decode cX7_mixCuts 8 = .ok (.invokevirtual 314, 3) := by decide +kernel
theorem dX7_mixCuts_11 : decode cX7_mixCuts 11 = .ok (.aload_n 0, 1) := by decide +kernel
theorem dX7_mixCuts_12 : decode cX7_mixCuts 12 = .ok (.aload_n 0, 1) := by decide +kernel
theorem dX7_mixCuts_13 : decode cX7_mixCuts 13 = .ok (.getfield 63, 3) := by decide +kernel
theorem dX7_mixCuts_16 : decode cX7_mixCuts 16 = .ok (.iconst 0, 1) := by decide +kernel
theorem dX7_mixCuts_17 : decode cX7_mixCuts 17 = .ok (.iaload, 1) := by decide +kernel
theorem dX7_mixCuts_18 : decode cX7_mixCuts 18 = .ok (.i2l, 1) := by decide +kernel
theorem dX7_mixCuts_19 : decode cX7_mixCuts 19 = .ok (.invokevirtual 314, 3) := by decide +kernel
theorem dX7_mixCuts_22 : decode cX7_mixCuts 22 = .ok (.iconst 0, 1) := by decide +kernel
theorem dX7_mixCuts_23 : decode cX7_mixCuts 23 = .ok (.istore_n 1, 1) := by decide +kernel
theorem dX7_mixCuts_24 : decode cX7_mixCuts 24 = .ok (.iload_n 1, 1) := by decide +kernel
theorem dX7_mixCuts_25 : decode cX7_mixCuts 25 = .ok (.iconst 3, 1) := by decide +kernel
theorem dX7_mixCuts_26 : decode cX7_mixCuts 26 = .ok (.aload_n 0, 1) := by decide +kernel
theorem dX7_mixCuts_27 : decode cX7_mixCuts 27 = .ok (.getfield 63, 3) := by decide +kernel
theorem dX7_mixCuts_30 : decode cX7_mixCuts 30 = .ok (.iconst 0, 1) := by decide +kernel
theorem dX7_mixCuts_31 : decode cX7_mixCuts 31 = .ok (.iaload, 1) := by decide +kernel
theorem dX7_mixCuts_32 : decode cX7_mixCuts 32 = .ok (.imul, 1) := by decide +kernel
theorem dX7_mixCuts_33 : decode cX7_mixCuts 33 = .ok (.if_icmp .ge 24, 3) := by decide +kernel
theorem dX7_mixCuts_36 : decode cX7_mixCuts 36 = .ok (.aload_n 0, 1) := by decide +kernel
theorem dX7_mixCuts_37 : decode cX7_mixCuts 37 = .ok (.aload_n 0, 1) := by decide +kernel
theorem dX7_mixCuts_38 : decode cX7_mixCuts 38 = .ok (.iload_n 1, 1) := by decide +kernel
theorem dX7_mixCuts_39 : decode cX7_mixCuts 39 = .ok (.iconst 3, 1) := by decide +kernel
theorem dX7_mixCuts_40 : decode cX7_mixCuts 40 = .ok (.idiv, 1) := by decide +kernel
theorem dX7_mixCuts_41 : decode cX7_mixCuts 41 = .ok (.iload_n 1, 1) := by decide +kernel
theorem dX7_mixCuts_42 : decode cX7_mixCuts 42 = .ok (.iconst 3, 1) := by decide +kernel
theorem dX7_mixCuts_43 : decode cX7_mixCuts 43 = .ok (.irem, 1) := by decide +kernel
theorem dX7_mixCuts_44 : decode cX7_mixCuts 44 = .ok (.invokevirtual 296, 3) := by decide +kernel
theorem dX7_mixCuts_47 : decode cX7_mixCuts 47 = .ok (.i2l, 1) := by decide +kernel
theorem dX7_mixCuts_48 : decode cX7_mixCuts 48 = .ok (.invokevirtual 314, 3) := by decide +kernel
theorem dX7_mixCuts_51 : decode cX7_mixCuts 51 = .ok (.iinc 1 1, 3) := by decide +kernel
theorem dX7_mixCuts_54 : decode cX7_mixCuts 54 = .ok (.goto (-30), 3) := by decide +kernel
theorem dX7_mixCuts_57 : decode cX7_mixCuts 57 = .ok (.return_, 1) := by decide +kernel
theorem dX7_digest_0 : decode cX7_digest 0 = .ok (.aload_n 0, 1) := by decide +kernel
theorem dX7_digest_1 : decode cX7_digest 1 = .ok (.ldc2_w 318, 3) := by decide +kernel
theorem dX7_digest_4 : decode cX7_digest 4 = .ok (.putfield 310, 3) := by decide +kernel
theorem dX7_digest_7 : decode cX7_digest 7 = .ok (.iconst 0, 1) := by decide +kernel
theorem dX7_digest_8 : decode cX7_digest 8 = .ok (.istore_n 1, 1) := by decide +kernel
theorem dX7_digest_9 : decode cX7_digest 9 = .ok (.iload_n 1, 1) := by decide +kernel
theorem dX7_digest_10 : decode cX7_digest 10 = .ok (.aload_n 0, 1) := by decide +kernel
theorem dX7_digest_11 : decode cX7_digest 11 = .ok (.getfield 110, 3) := by decide +kernel
theorem dX7_digest_14 : decode cX7_digest 14 = .ok (.if_icmp .ge 14, 3) := by decide +kernel
theorem dX7_digest_17 : decode cX7_digest 17 = .ok (.aload_n 0, 1) := by decide +kernel
theorem dX7_digest_18 : decode cX7_digest 18 = .ok (.iload_n 1, 1) := by decide +kernel
theorem dX7_digest_19 : decode cX7_digest 19 = .ok (.invokevirtual 320, 3) := by decide +kernel
theorem dX7_digest_22 : decode cX7_digest 22 = .ok (.iinc 1 1, 3) := by decide +kernel
theorem dX7_digest_25 : decode cX7_digest 25 = .ok (.goto (-16), 3) := by decide +kernel
theorem dX7_digest_28 : decode cX7_digest 28 = .ok (.iconst 0, 1) := by decide +kernel
theorem dX7_digest_29 : decode cX7_digest 29 = .ok (.istore_n 1, 1) := by decide +kernel
theorem dX7_digest_30 : decode cX7_digest 30 = .ok (.iload_n 1, 1) := by decide +kernel
theorem dX7_digest_31 : decode cX7_digest 31 = .ok (.aload_n 0, 1) := by decide +kernel
theorem dX7_digest_32 : decode cX7_digest 32 = .ok (.getfield 133, 3) := by decide +kernel
theorem dX7_digest_35 : decode cX7_digest 35 = .ok (.if_icmp .ge 20, 3) := by decide +kernel
theorem dX7_digest_38 : decode cX7_digest 38 = .ok (.aload_n 0, 1) := by decide +kernel
theorem dX7_digest_39 : decode cX7_digest 39 = .ok (.aload_n 0, 1) := by decide +kernel
theorem dX7_digest_40 : decode cX7_digest 40 = .ok (.getfield 26, 3) := by decide +kernel
theorem dX7_digest_43 : decode cX7_digest 43 = .ok (.iload_n 1, 1) := by decide +kernel
theorem dX7_digest_44 : decode cX7_digest 44 = .ok (.iaload, 1) := by decide +kernel
theorem dX7_digest_45 : decode cX7_digest 45 = .ok (.i2l, 1) := by decide +kernel
theorem dX7_digest_46 : decode cX7_digest 46 = .ok (.invokevirtual 314, 3) := by decide +kernel
theorem dX7_digest_49 : decode cX7_digest 49 = .ok (.iinc 1 1, 3) := by decide +kernel
theorem dX7_digest_52 : decode cX7_digest 52 = .ok (.goto (-22), 3) := by decide +kernel
theorem dX7_digest_55 : decode cX7_digest 55 = .ok (.aload_n 0, 1) := by decide +kernel
theorem dX7_digest_56 : decode cX7_digest 56 = .ok (.aload_n 0, 1) := by decide +kernel
theorem dX7_digest_57 : decode cX7_digest 57 = .ok (.invokevirtual 254, 3) := by decide +kernel
theorem dX7_digest_60 : decode cX7_digest 60 = .ok (.i2l, 1) := by decide +kernel
theorem dX7_digest_61 : decode cX7_digest 61 = .ok (.invokevirtual 314, 3) := by decide +kernel
theorem dX7_digest_64 : decode cX7_digest 64 = .ok (.aload_n 0, 1) := by decide +kernel
theorem dX7_digest_65 : decode cX7_digest 65 = .ok (.invokevirtual 292, 3) := by decide +kernel
theorem dX7_digest_68 : decode cX7_digest 68 = .ok (.ifCond .eq 7, 3) := by decide +kernel
theorem dX7_digest_71 : decode cX7_digest 71 = .ok (.aload_n 0, 1) := by decide +kernel
theorem dX7_digest_72 : decode cX7_digest 72 = .ok (.invokevirtual 323, 3) := by decide +kernel
theorem dX7_digest_75 : decode cX7_digest 75 = .ok (.iconst 0, 1) := by decide +kernel
theorem dX7_digest_76 : decode cX7_digest 76 = .ok (.istore_n 1, 1) := by decide +kernel
theorem dX7_digest_77 : decode cX7_digest 77 = .ok (.iload_n 1, 1) := by decide +kernel
theorem dX7_digest_78 : decode cX7_digest 78 = .ok (.aload_n 0, 1) := by decide +kernel
theorem dX7_digest_79 : decode cX7_digest 79 = .ok (.getfield 79, 3) := by decide +kernel
theorem dX7_digest_82 : decode cX7_digest 82 = .ok (.if_icmp .ge 20, 3) := by decide +kernel
theorem dX7_digest_85 : decode cX7_digest 85 = .ok (.aload_n 0, 1) := by decide +kernel
theorem dX7_digest_86 : decode cX7_digest 86 = .ok (.aload_n 0, 1) := by decide +kernel
theorem dX7_digest_87 : decode cX7_digest 87 = .ok (.getfield 29, 3) := by decide +kernel
theorem dX7_digest_90 : decode cX7_digest 90 = .ok (.iload_n 1, 1) := by decide +kernel
theorem dX7_digest_91 : decode cX7_digest 91 = .ok (.iaload, 1) := by decide +kernel
theorem dX7_digest_92 : decode cX7_digest 92 = .ok (.i2l, 1) := by decide +kernel
theorem dX7_digest_93 : decode cX7_digest 93 = .ok (.invokevirtual 314, 3) := by decide +kernel
theorem dX7_digest_96 : decode cX7_digest 96 = .ok (.iinc 1 1, 3) := by decide +kernel
theorem dX7_digest_99 : decode cX7_digest 99 = .ok (.goto (-22), 3) := by decide +kernel
theorem dX7_digest_102 : decode cX7_digest 102 = .ok (.iconst 0, 1) := by decide +kernel
theorem dX7_digest_103 : decode cX7_digest 103 = .ok (.istore_n 1, 1) := by decide +kernel
theorem dX7_digest_104 : decode cX7_digest 104 = .ok (.iload_n 1, 1) := by decide +kernel
theorem dX7_digest_105 : decode cX7_digest 105 = .ok (.bipush 8, 2) := by decide +kernel
theorem dX7_digest_107 : decode cX7_digest 107 = .ok (.if_icmp .ge 19, 3) := by decide +kernel
theorem dX7_digest_110 : decode cX7_digest 110 = .ok (.aload_n 0, 1) := by decide +kernel
theorem dX7_digest_111 : decode cX7_digest 111 = .ok (.aload_n 0, 1) := by decide +kernel
theorem dX7_digest_112 : decode cX7_digest 112 = .ok (.iload_n 1, 1) := by decide +kernel
theorem dX7_digest_113 : decode cX7_digest 113 = .ok (.invokevirtual 305, 3) := by decide +kernel
theorem dX7_digest_116 : decode cX7_digest 116 = .ok (.i2l, 1) := by decide +kernel
theorem dX7_digest_117 : decode cX7_digest 117 = .ok (.invokevirtual 314, 3) := by decide +kernel
theorem dX7_digest_120 : decode cX7_digest 120 = .ok (.iinc 1 1, 3) := by decide +kernel
theorem dX7_digest_123 : decode cX7_digest 123 = .ok (.goto (-19), 3) := by decide +kernel
theorem dX7_digest_126 : decode cX7_digest 126 = .ok (.aload_n 0, 1) := by decide +kernel
theorem dX7_digest_127 : decode cX7_digest 127 = .ok (.getfield 310, 3) := by decide +kernel
theorem dX7_digest_130 : decode cX7_digest 130 = .ok (.lreturn, 1) := by decide +kernel
theorem dJ9_max_7cf53_0 : decode cJ9_max_7cf53 0 = .ok (.iload_n 0, 1) := by decide +kernel
theorem dJ9_max_7cf53_1 : decode cJ9_max_7cf53 1 = .ok (.iload_n 1, 1) := by decide +kernel
theorem dJ9_max_7cf53_2 : decode cJ9_max_7cf53 2 = .ok (.if_icmp .lt 7, 3) := by decide +kernel
theorem dJ9_max_7cf53_5 : decode cJ9_max_7cf53 5 = .ok (.iload_n 0, 1) := by decide +kernel
theorem dJ9_max_7cf53_6 : decode cJ9_max_7cf53 6 = .ok (.goto 4, 3) := by decide +kernel
theorem dJ9_max_7cf53_9 : decode cJ9_max_7cf53 9 = .ok (.iload_n 1, 1) := by decide +kernel
theorem dJ9_max_7cf53_10 : decode cJ9_max_7cf53 10 = .ok (.ireturn, 1) := by decide +kernel
theorem dJ9_min_7cf53_0 : decode cJ9_min_7cf53 0 = .ok (.iload_n 0, 1) := by decide +kernel
theorem dJ9_min_7cf53_1 : decode cJ9_min_7cf53 1 = .ok (.iload_n 1, 1) := by decide +kernel
theorem dJ9_min_7cf53_2 : decode cJ9_min_7cf53 2 = .ok (.if_icmp .gt 7, 3) := by decide +kernel
theorem dJ9_min_7cf53_5 : decode cJ9_min_7cf53 5 = .ok (.iload_n 0, 1) := by decide +kernel
theorem dJ9_min_7cf53_6 : decode cJ9_min_7cf53 6 = .ok (.goto 4, 3) := by decide +kernel
theorem dJ9_min_7cf53_9 : decode cJ9_min_7cf53 9 = .ok (.iload_n 1, 1) := by decide +kernel
theorem dJ9_min_7cf53_10 : decode cJ9_min_7cf53 10 = .ok (.ireturn, 1) := by decide +kernel
theorem dJ7_fill_53178_0 : decode cJ7_fill_53178 0 = .ok (.iconst 0, 1) := by decide +kernel
theorem dJ7_fill_53178_1 : decode cJ7_fill_53178 1 = .ok (.istore_n 2, 1) := by decide +kernel
theorem dJ7_fill_53178_2 : decode cJ7_fill_53178 2 = .ok (.aload_n 0, 1) := by decide +kernel
theorem dJ7_fill_53178_3 : decode cJ7_fill_53178 3 = .ok (.arraylength, 1) := by decide +kernel
theorem dJ7_fill_53178_4 : decode cJ7_fill_53178 4 = .ok (.istore_n 3, 1) := by decide +kernel
theorem dJ7_fill_53178_5 : decode cJ7_fill_53178 5 = .ok (.iload_n 2, 1) := by decide +kernel
theorem dJ7_fill_53178_6 : decode cJ7_fill_53178 6 = .ok (.iload_n 3, 1) := by decide +kernel
theorem dJ7_fill_53178_7 : decode cJ7_fill_53178 7 = .ok (.if_icmp .ge 13, 3) := by decide +kernel
theorem dJ7_fill_53178_10 : decode cJ7_fill_53178 10 = .ok (.aload_n 0, 1) := by decide +kernel
theorem dJ7_fill_53178_11 : decode cJ7_fill_53178 11 = .ok (.iload_n 2, 1) := by decide +kernel
theorem dJ7_fill_53178_12 : decode cJ7_fill_53178 12 = .ok (.iload_n 1, 1) := by decide +kernel
theorem dJ7_fill_53178_13 : decode cJ7_fill_53178 13 = .ok (.iastore, 1) := by decide +kernel
theorem dJ7_fill_53178_14 : decode cJ7_fill_53178 14 = .ok (.iinc 2 1, 3) := by decide +kernel
theorem dJ7_fill_53178_17 : decode cJ7_fill_53178 17 = .ok (.goto (-12), 3) := by decide +kernel
theorem dJ7_fill_53178_20 : decode cJ7_fill_53178 20 = .ok (.return_, 1) := by decide +kernel
theorem dL_law_0 : decode cL_law 0 = .ok (.new 7, 3) := by decide +kernel
theorem dL_law_3 : decode cL_law 3 = .ok (.dup, 1) := by decide +kernel
theorem dL_law_4 : decode cL_law 4 = .ok (.invokespecial 9, 3) := by decide +kernel
theorem dL_law_7 : decode cL_law 7 = .ok (.astore_n 1, 1) := by decide +kernel
theorem dL_law_8 : decode cL_law 8 = .ok (.new 10, 3) := by decide +kernel
theorem dL_law_11 : decode cL_law 11 = .ok (.dup, 1) := by decide +kernel
theorem dL_law_12 : decode cL_law 12 = .ok (.invokespecial 12, 3) := by decide +kernel
theorem dL_law_15 : decode cL_law 15 = .ok (.astore_n 2, 1) := by decide +kernel
theorem dL_law_16 : decode cL_law 16 = .ok (.iconst 0, 1) := by decide +kernel
theorem dL_law_17 : decode cL_law 17 = .ok (.istore_n 3, 1) := by decide +kernel
theorem dL_law_18 : decode cL_law 18 = .ok (.iload_n 3, 1) := by decide +kernel
theorem dL_law_19 : decode cL_law 19 = .ok (.aload_n 0, 1) := by decide +kernel
theorem dL_law_20 : decode cL_law 20 = .ok (.arraylength, 1) := by decide +kernel
theorem dL_law_21 : decode cL_law 21 = .ok (.iconst 4, 1) := by decide +kernel
theorem dL_law_22 : decode cL_law 22 = .ok (.isub, 1) := by decide +kernel
theorem dL_law_23 : decode cL_law 23 = .ok (.if_icmp .gt 663, 3) := by decide +kernel
theorem dL_law_26 : decode cL_law 26 = .ok (.aload_n 0, 1) := by decide +kernel
theorem dL_law_27 : decode cL_law 27 = .ok (.iload_n 3, 1) := by decide +kernel
theorem dL_law_28 : decode cL_law 28 = .ok (.iaload, 1) := by decide +kernel
theorem dL_law_29 : decode cL_law 29 = .ok (.bipush 31, 2) := by decide +kernel
theorem dL_law_31 : decode cL_law 31 = .ok (.iand, 1) := by decide +kernel
theorem dL_law_32 : decode cL_law 32 = .ok (.tableswitch 648 0 22 #[108, 131, 144, 157, 170, 183, 216, 239, 262, 275, 288, 311, 344, 377, 410, 423, 446, 479, 512, 555, 578, 611, 634], 108) := by decide +kernel
theorem dL_law_140 : decode cL_law 140 = .ok (.aload_n 1, 1) := by decide +kernel
theorem dL_law_141 : decode cL_law 141 = .ok (.aload_n 0, 1) := by decide +kernel
theorem dL_law_142 : decode cL_law 142 = .ok (.iload_n 3, 1) := by decide +kernel
theorem dL_law_143 : decode cL_law 143 = .ok (.iconst 1, 1) := by decide +kernel
theorem dL_law_144 : decode cL_law 144 = .ok (.iadd, 1) := by decide +kernel
theorem dL_law_145 : decode cL_law 145 = .ok (.iaload, 1) := by decide +kernel
theorem dL_law_146 : decode cL_law 146 = .ok (.invokevirtual 13, 3) := by decide +kernel
theorem dL_law_149 : decode cL_law 149 = .ok (.aload_n 2, 1) := by decide +kernel
theorem dL_law_150 : decode cL_law 150 = .ok (.aload_n 0, 1) := by decide +kernel
theorem dL_law_151 : decode cL_law 151 = .ok (.iload_n 3, 1) := by decide +kernel
theorem dL_law_152 : decode cL_law 152 = .ok (.iconst 1, 1) := by decide +kernel
theorem dL_law_153 : decode cL_law 153 = .ok (.iadd, 1) := by decide +kernel
theorem dL_law_154 : decode cL_law 154 = .ok (.iaload, 1) := by decide +kernel
theorem dL_law_155 : decode cL_law 155 = .ok (.invokevirtual 17, 3) := by decide +kernel
theorem dL_law_158 : decode cL_law 158 = .ok (.if_icmp .eq 522, 3) := by decide +kernel
theorem dL_law_161 : decode cL_law 161 = .ok (.iconst 0, 1) := by decide +kernel
theorem dL_law_162 : decode cL_law 162 = .ok (.ireturn, 1) := by decide +kernel
theorem dL_law_163 : decode cL_law 163 = .ok (.aload_n 1, 1) := by decide +kernel
theorem dL_law_164 : decode cL_law 164 = .ok (.invokevirtual 18, 3) := by decide +kernel
theorem dL_law_167 : decode cL_law 167 = .ok (.aload_n 2, 1) := by decide +kernel
theorem dL_law_168 : decode cL_law 168 = .ok (.invokevirtual 22, 3) := by decide +kernel
theorem dL_law_171 : decode cL_law 171 = .ok (.if_icmp .eq 509, 3) := by decide +kernel
theorem dL_law_174 : decode cL_law 174 = .ok (.iconst 0, 1) := by decide +kernel
theorem dL_law_175 : decode cL_law 175 = .ok (.ireturn, 1) := by decide +kernel
theorem dL_law_176 : decode cL_law 176 = .ok (.aload_n 1, 1) := by decide +kernel
theorem dL_law_177 : decode cL_law 177 = .ok (.invokevirtual 23, 3) := by decide +kernel
theorem dL_law_180 : decode cL_law 180 = .ok (.aload_n 2, 1) := by decide +kernel
theorem dL_law_181 : decode cL_law 181 = .ok (.invokevirtual 26, 3) := by decide +kernel
theorem dL_law_184 : decode cL_law 184 = .ok (.if_icmp .eq 496, 3) := by decide +kernel
theorem dL_law_187 : decode cL_law 187 = .ok (.iconst 0, 1) := by decide +kernel
theorem dL_law_188 : decode cL_law 188 = .ok (.ireturn, 1) := by decide +kernel
theorem dL_law_189 : decode cL_law 189 = .ok (.aload_n 1, 1) := by decide +kernel
theorem dL_law_190 : decode cL_law 190 = .ok (.invokevirtual 27, 3) := by decide +kernel
theorem dL_law_193 : decode cL_law 193 = .ok (.aload_n 2, 1) := by decide +kernel
theorem dL_law_194 : decode cL_law 194 = .ok (.invokevirtual 30, 3) := by decide +kernel
theorem dL_law_197 : decode cL_law 197 = .ok (.if_icmp .eq 483, 3) := by decide +kernel
theorem dL_law_200 : decode cL_law 200 = .ok (.iconst 0, 1) := by decide +kernel
theorem dL_law_201 : decode cL_law 201 = .ok (.ireturn, 1) := by decide +kernel
theorem dL_law_202 : decode cL_law 202 = .ok (.aload_n 1, 1) := by decide +kernel
theorem dL_law_203 : decode cL_law 203 = .ok (.invokevirtual 31, 3) := by decide +kernel
theorem dL_law_206 : decode cL_law 206 = .ok (.aload_n 2, 1) := by decide +kernel
theorem dL_law_207 : decode cL_law 207 = .ok (.invokevirtual 34, 3) := by decide +kernel
theorem dL_law_210 : decode cL_law 210 = .ok (.if_icmp .eq 470, 3) := by decide +kernel
theorem dL_law_213 : decode cL_law 213 = .ok (.iconst 0, 1) := by decide +kernel
theorem dL_law_214 : decode cL_law 214 = .ok (.ireturn, 1) := by decide +kernel
theorem dL_law_215 : decode cL_law 215 = .ok (.aload_n 1, 1) := by decide +kernel
theorem dL_law_216 : decode cL_law 216 = .ok (.aload_n 0, 1) := by decide +kernel
theorem dL_law_217 : decode cL_law 217 = .ok (.iload_n 3, 1) := by decide +kernel
theorem dL_law_218 : decode cL_law 218 = .ok (.iconst 1, 1) := by decide +kernel
theorem dL_law_219 : decode cL_law 219 = .ok (.iadd, 1) := by decide +kernel
theorem dL_law_220 : decode cL_law 220 = .ok (.iaload, 1) := by decide +kernel
theorem dL_law_221 : decode cL_law 221 = .ok (.aload_n 0, 1) := by decide +kernel
theorem dL_law_222 : decode cL_law 222 = .ok (.iload_n 3, 1) := by decide +kernel
theorem dL_law_223 : decode cL_law 223 = .ok (.iconst 2, 1) := by decide +kernel
theorem dL_law_224 : decode cL_law 224 = .ok (.iadd, 1) := by decide +kernel
theorem dL_law_225 : decode cL_law 225 = .ok (.iaload, 1) := by decide +kernel
theorem dL_law_226 : decode cL_law 226 = .ok (.invokevirtual 35, 3) := by decide +kernel
theorem dL_law_229 : decode cL_law 229 = .ok (.aload_n 2, 1) := by decide +kernel
theorem dL_law_230 : decode cL_law 230 = .ok (.aload_n 0, 1) := by decide +kernel
theorem dL_law_231 : decode cL_law 231 = .ok (.iload_n 3, 1) := by decide +kernel
theorem dL_law_232 : decode cL_law 232 = .ok (.iconst 1, 1) := by decide +kernel
theorem dL_law_233 : decode cL_law 233 = .ok (.iadd, 1) := by decide +kernel
theorem dL_law_234 : decode cL_law 234 = .ok (.iaload, 1) := by decide +kernel
theorem dL_law_235 : decode cL_law 235 = .ok (.aload_n 0, 1) := by decide +kernel
theorem dL_law_236 : decode cL_law 236 = .ok (.iload_n 3, 1) := by decide +kernel
theorem dL_law_237 : decode cL_law 237 = .ok (.iconst 2, 1) := by decide +kernel
theorem dL_law_238 : decode cL_law 238 = .ok (.iadd, 1) := by decide +kernel
theorem dL_law_239 : decode cL_law 239 = .ok (.iaload, 1) := by decide +kernel
theorem dL_law_240 : decode cL_law 240 = .ok (.invokevirtual 39, 3) := by decide +kernel
theorem dL_law_243 : decode cL_law 243 = .ok (.if_icmp .eq 437, 3) := by decide +kernel
theorem dL_law_246 : decode cL_law 246 = .ok (.iconst 0, 1) := by decide +kernel
theorem dL_law_247 : decode cL_law 247 = .ok (.ireturn, 1) := by decide +kernel
theorem dL_law_248 : decode cL_law 248 = .ok (.aload_n 1, 1) := by decide +kernel
theorem dL_law_249 : decode cL_law 249 = .ok (.aload_n 0, 1) := by decide +kernel
theorem dL_law_250 : decode cL_law 250 = .ok (.iload_n 3, 1) := by decide +kernel
theorem dL_law_251 : decode cL_law 251 = .ok (.iconst 1, 1) := by decide +kernel
theorem dL_law_252 : decode cL_law 252 = .ok (.iadd, 1) := by decide +kernel
theorem dL_law_253 : decode cL_law 253 = .ok (.iaload, 1) := by decide +kernel
theorem dL_law_254 : decode cL_law 254 = .ok (.invokevirtual 40, 3) := by decide +kernel
theorem dL_law_257 : decode cL_law 257 = .ok (.aload_n 2, 1) := by decide +kernel
theorem dL_law_258 : decode cL_law 258 = .ok (.aload_n 0, 1) := by decide +kernel
theorem dL_law_259 : decode cL_law 259 = .ok (.iload_n 3, 1) := by decide +kernel
theorem dL_law_260 : decode cL_law 260 = .ok (.iconst 1, 1) := by decide +kernel
theorem dL_law_261 : decode cL_law 261 = .ok (.iadd, 1) := by decide +kernel
theorem dL_law_262 : decode cL_law 262 = .ok (.iaload, 1) := by decide +kernel
theorem dL_law_263 : decode cL_law 263 = .ok (.invokevirtual 43, 3) := by decide +kernel
theorem dL_law_266 : decode cL_law 266 = .ok (.if_icmp .eq 414, 3) := by decide +kernel
theorem dL_law_269 : decode cL_law 269 = .ok (.iconst 0, 1) := by decide +kernel
theorem dL_law_270 : decode cL_law 270 = .ok (.ireturn, 1) := by decide +kernel
theorem dL_law_271 : decode cL_law 271 = .ok (.aload_n 1, 1) := by decide +kernel
theorem dL_law_272 : decode cL_law 272 = .ok (.aload_n 0, 1) := by decide +kernel
theorem dL_law_273 : decode cL_law 273 = .ok (.iload_n 3, 1) := by decide +kernel
theorem dL_law_274 : decode cL_law 274 = .ok (.iconst 1, 1) := by decide +kernel
theorem dL_law_275 : decode cL_law 275 = .ok (.iadd, 1) := by decide +kernel
theorem dL_law_276 : decode cL_law 276 = .ok (.iaload, 1) := by decide +kernel
theorem dL_law_277 : decode cL_law 277 = .ok (.invokevirtual 44, 3) := by decide +kernel
theorem dL_law_280 : decode cL_law 280 = .ok (.aload_n 2, 1) := by decide +kernel
theorem dL_law_281 : decode cL_law 281 = .ok (.aload_n 0, 1) := by decide +kernel
theorem dL_law_282 : decode cL_law 282 = .ok (.iload_n 3, 1) := by decide +kernel
theorem dL_law_283 : decode cL_law 283 = .ok (.iconst 1, 1) := by decide +kernel
theorem dL_law_284 : decode cL_law 284 = .ok (.iadd, 1) := by decide +kernel
theorem dL_law_285 : decode cL_law 285 = .ok (.iaload, 1) := by decide +kernel
theorem dL_law_286 : decode cL_law 286 = .ok (.invokevirtual 47, 3) := by decide +kernel
theorem dL_law_289 : decode cL_law 289 = .ok (.if_icmp .eq 391, 3) := by decide +kernel
theorem dL_law_292 : decode cL_law 292 = .ok (.iconst 0, 1) := by decide +kernel
theorem dL_law_293 : decode cL_law 293 = .ok (.ireturn, 1) := by decide +kernel
theorem dL_law_294 : decode cL_law 294 = .ok (.aload_n 1, 1) := by decide +kernel
theorem dL_law_295 : decode cL_law 295 = .ok (.invokevirtual 48, 3) := by decide +kernel
theorem dL_law_298 : decode cL_law 298 = .ok (.aload_n 2, 1) := by decide +kernel
theorem dL_law_299 : decode cL_law 299 = .ok (.invokevirtual 51, 3) := by decide +kernel
theorem dL_law_302 : decode cL_law 302 = .ok (.if_icmp .eq 378, 3) := by decide +kernel
theorem dL_law_305 : decode cL_law 305 = .ok (.iconst 0, 1) := by decide +kernel
theorem dL_law_306 : decode cL_law 306 = .ok (.ireturn, 1) := by decide +kernel
theorem dL_law_307 : decode cL_law 307 = .ok (.aload_n 1, 1) := by decide +kernel
theorem dL_law_308 : decode cL_law 308 = .ok (.invokevirtual 52, 3) := by decide +kernel
theorem dL_law_311 : decode cL_law 311 = .ok (.aload_n 2, 1) := by decide +kernel
theorem dL_law_312 : decode cL_law 312 = .ok (.invokevirtual 55, 3) := by decide +kernel
theorem dL_law_315 : decode cL_law 315 = .ok (.if_icmp .eq 365, 3) := by decide +kernel
theorem dL_law_318 : decode cL_law 318 = .ok (.iconst 0, 1) := by decide +kernel
theorem dL_law_319 : decode cL_law 319 = .ok (.ireturn, 1) := by decide +kernel
theorem dL_law_320 : decode cL_law 320 = .ok (.aload_n 1, 1) := by decide +kernel
theorem dL_law_321 : decode cL_law 321 = .ok (.aload_n 0, 1) := by decide +kernel
theorem dL_law_322 : decode cL_law 322 = .ok (.iload_n 3, 1) := by decide +kernel
theorem dL_law_323 : decode cL_law 323 = .ok (.iconst 1, 1) := by decide +kernel
theorem dL_law_324 : decode cL_law 324 = .ok (.iadd, 1) := by decide +kernel
theorem dL_law_325 : decode cL_law 325 = .ok (.iaload, 1) := by decide +kernel
theorem dL_law_326 : decode cL_law 326 = .ok (.invokevirtual 56, 3) := by decide +kernel
theorem dL_law_329 : decode cL_law 329 = .ok (.aload_n 2, 1) := by decide +kernel
theorem dL_law_330 : decode cL_law 330 = .ok (.aload_n 0, 1) := by decide +kernel
theorem dL_law_331 : decode cL_law 331 = .ok (.iload_n 3, 1) := by decide +kernel
theorem dL_law_332 : decode cL_law 332 = .ok (.iconst 1, 1) := by decide +kernel
theorem dL_law_333 : decode cL_law 333 = .ok (.iadd, 1) := by decide +kernel
theorem dL_law_334 : decode cL_law 334 = .ok (.iaload, 1) := by decide +kernel
theorem dL_law_335 : decode cL_law 335 = .ok (.invokevirtual 59, 3) := by decide +kernel
theorem dL_law_338 : decode cL_law 338 = .ok (.if_icmp .eq 342, 3) := by decide +kernel
theorem dL_law_341 : decode cL_law 341 = .ok (.iconst 0, 1) := by decide +kernel
theorem dL_law_342 : decode cL_law 342 = .ok (.ireturn, 1) := by decide +kernel
theorem dL_law_343 : decode cL_law 343 = .ok (.aload_n 1, 1) := by decide +kernel
theorem dL_law_344 : decode cL_law 344 = .ok (.aload_n 0, 1) := by decide +kernel
theorem dL_law_345 : decode cL_law 345 = .ok (.iload_n 3, 1) := by decide +kernel
theorem dL_law_346 : decode cL_law 346 = .ok (.iconst 1, 1) := by decide +kernel
theorem dL_law_347 : decode cL_law 347 = .ok (.iadd, 1) := by decide +kernel
theorem dL_law_348 : decode cL_law 348 = .ok (.iaload, 1) := by decide +kernel
theorem dL_law_349 : decode cL_law 349 = .ok (.aload_n 0, 1) := by decide +kernel
theorem dL_law_350 : decode cL_law 350 = .ok (.iload_n 3, 1) := by decide +kernel
theorem dL_law_351 : decode cL_law 351 = .ok (.iconst 2, 1) := by decide +kernel
theorem dL_law_352 : decode cL_law 352 = .ok (.iadd, 1) := by decide +kernel
theorem dL_law_353 : decode cL_law 353 = .ok (.iaload, 1) := by decide +kernel
theorem dL_law_354 : decode cL_law 354 = .ok (.invokevirtual 60, 3) := by decide +kernel
theorem dL_law_357 : decode cL_law 357 = .ok (.aload_n 2, 1) := by decide +kernel
theorem dL_law_358 : decode cL_law 358 = .ok (.aload_n 0, 1) := by decide +kernel
theorem dL_law_359 : decode cL_law 359 = .ok (.iload_n 3, 1) := by decide +kernel
theorem dL_law_360 : decode cL_law 360 = .ok (.iconst 1, 1) := by decide +kernel
theorem dL_law_361 : decode cL_law 361 = .ok (.iadd, 1) := by decide +kernel
theorem dL_law_362 : decode cL_law 362 = .ok (.iaload, 1) := by decide +kernel
theorem dL_law_363 : decode cL_law 363 = .ok (.aload_n 0, 1) := by decide +kernel
theorem dL_law_364 : decode cL_law 364 = .ok (.iload_n 3, 1) := by decide +kernel
theorem dL_law_365 : decode cL_law 365 = .ok (.iconst 2, 1) := by decide +kernel
theorem dL_law_366 : decode cL_law 366 = .ok (.iadd, 1) := by decide +kernel
theorem dL_law_367 : decode cL_law 367 = .ok (.iaload, 1) := by decide +kernel
theorem dL_law_368 : decode cL_law 368 = .ok (.invokevirtual 63, 3) := by decide +kernel
theorem dL_law_371 : decode cL_law 371 = .ok (.if_icmp .eq 309, 3) := by decide +kernel
theorem dL_law_374 : decode cL_law 374 = .ok (.iconst 0, 1) := by decide +kernel
theorem dL_law_375 : decode cL_law 375 = .ok (.ireturn, 1) := by decide +kernel
theorem dL_law_376 : decode cL_law 376 = .ok (.aload_n 1, 1) := by decide +kernel
theorem dL_law_377 : decode cL_law 377 = .ok (.aload_n 0, 1) := by decide +kernel
theorem dL_law_378 : decode cL_law 378 = .ok (.iload_n 3, 1) := by decide +kernel
theorem dL_law_379 : decode cL_law 379 = .ok (.iconst 1, 1) := by decide +kernel
theorem dL_law_380 : decode cL_law 380 = .ok (.iadd, 1) := by decide +kernel
theorem dL_law_381 : decode cL_law 381 = .ok (.iaload, 1) := by decide +kernel
theorem dL_law_382 : decode cL_law 382 = .ok (.aload_n 0, 1) := by decide +kernel
theorem dL_law_383 : decode cL_law 383 = .ok (.iload_n 3, 1) := by decide +kernel
theorem dL_law_384 : decode cL_law 384 = .ok (.iconst 2, 1) := by decide +kernel
theorem dL_law_385 : decode cL_law 385 = .ok (.iadd, 1) := by decide +kernel
theorem dL_law_386 : decode cL_law 386 = .ok (.iaload, 1) := by decide +kernel
theorem dL_law_387 : decode cL_law 387 = .ok (.invokevirtual 64, 3) := by decide +kernel
theorem dL_law_390 : decode cL_law 390 = .ok (.aload_n 2, 1) := by decide +kernel
theorem dL_law_391 : decode cL_law 391 = .ok (.aload_n 0, 1) := by decide +kernel
theorem dL_law_392 : decode cL_law 392 = .ok (.iload_n 3, 1) := by decide +kernel
theorem dL_law_393 : decode cL_law 393 = .ok (.iconst 1, 1) := by decide +kernel
theorem dL_law_394 : decode cL_law 394 = .ok (.iadd, 1) := by decide +kernel
theorem dL_law_395 : decode cL_law 395 = .ok (.iaload, 1) := by decide +kernel
theorem dL_law_396 : decode cL_law 396 = .ok (.aload_n 0, 1) := by decide +kernel
theorem dL_law_397 : decode cL_law 397 = .ok (.iload_n 3, 1) := by decide +kernel
theorem dL_law_398 : decode cL_law 398 = .ok (.iconst 2, 1) := by decide +kernel
theorem dL_law_399 : decode cL_law 399 = .ok (.iadd, 1) := by decide +kernel
theorem dL_law_400 : decode cL_law 400 = .ok (.iaload, 1) := by decide +kernel
theorem dL_law_401 : decode cL_law 401 = .ok (.invokevirtual 67, 3) := by decide +kernel
theorem dL_law_404 : decode cL_law 404 = .ok (.if_icmp .eq 276, 3) := by decide +kernel
theorem dL_law_407 : decode cL_law 407 = .ok (.iconst 0, 1) := by decide +kernel
theorem dL_law_408 : decode cL_law 408 = .ok (.ireturn, 1) := by decide +kernel
theorem dL_law_409 : decode cL_law 409 = .ok (.aload_n 1, 1) := by decide +kernel
theorem dL_law_410 : decode cL_law 410 = .ok (.aload_n 0, 1) := by decide +kernel
theorem dL_law_411 : decode cL_law 411 = .ok (.iload_n 3, 1) := by decide +kernel
theorem dL_law_412 : decode cL_law 412 = .ok (.iconst 1, 1) := by decide +kernel
theorem dL_law_413 : decode cL_law 413 = .ok (.iadd, 1) := by decide +kernel
theorem dL_law_414 : decode cL_law 414 = .ok (.iaload, 1) := by decide +kernel
theorem dL_law_415 : decode cL_law 415 = .ok (.aload_n 0, 1) := by decide +kernel
theorem dL_law_416 : decode cL_law 416 = .ok (.iload_n 3, 1) := by decide +kernel
theorem dL_law_417 : decode cL_law 417 = .ok (.iconst 2, 1) := by decide +kernel
theorem dL_law_418 : decode cL_law 418 = .ok (.iadd, 1) := by decide +kernel
theorem dL_law_419 : decode cL_law 419 = .ok (.iaload, 1) := by decide +kernel
theorem dL_law_420 : decode cL_law 420 = .ok (.invokevirtual 68, 3) := by decide +kernel
theorem dL_law_423 : decode cL_law 423 = .ok (.aload_n 2, 1) := by decide +kernel
theorem dL_law_424 : decode cL_law 424 = .ok (.aload_n 0, 1) := by decide +kernel
theorem dL_law_425 : decode cL_law 425 = .ok (.iload_n 3, 1) := by decide +kernel
theorem dL_law_426 : decode cL_law 426 = .ok (.iconst 1, 1) := by decide +kernel
theorem dL_law_427 : decode cL_law 427 = .ok (.iadd, 1) := by decide +kernel
theorem dL_law_428 : decode cL_law 428 = .ok (.iaload, 1) := by decide +kernel
theorem dL_law_429 : decode cL_law 429 = .ok (.aload_n 0, 1) := by decide +kernel
theorem dL_law_430 : decode cL_law 430 = .ok (.iload_n 3, 1) := by decide +kernel
theorem dL_law_431 : decode cL_law 431 = .ok (.iconst 2, 1) := by decide +kernel
theorem dL_law_432 : decode cL_law 432 = .ok (.iadd, 1) := by decide +kernel
theorem dL_law_433 : decode cL_law 433 = .ok (.iaload, 1) := by decide +kernel
theorem dL_law_434 : decode cL_law 434 = .ok (.invokevirtual 71, 3) := by decide +kernel
theorem dL_law_437 : decode cL_law 437 = .ok (.if_icmp .eq 243, 3) := by decide +kernel
theorem dL_law_440 : decode cL_law 440 = .ok (.iconst 0, 1) := by decide +kernel
theorem dL_law_441 : decode cL_law 441 = .ok (.ireturn, 1) := by decide +kernel
theorem dL_law_442 : decode cL_law 442 = .ok (.aload_n 1, 1) := by decide +kernel
theorem dL_law_443 : decode cL_law 443 = .ok (.invokevirtual 72, 3) := by decide +kernel
theorem dL_law_446 : decode cL_law 446 = .ok (.aload_n 2, 1) := by decide +kernel
theorem dL_law_447 : decode cL_law 447 = .ok (.invokevirtual 75, 3) := by decide +kernel
theorem dL_law_450 : decode cL_law 450 = .ok (.if_icmp .eq 230, 3) := by decide +kernel
theorem dL_law_453 : decode cL_law 453 = .ok (.iconst 0, 1) := by decide +kernel
theorem dL_law_454 : decode cL_law 454 = .ok (.ireturn, 1) := by decide +kernel
theorem dL_law_455 : decode cL_law 455 = .ok (.aload_n 1, 1) := by decide +kernel
theorem dL_law_456 : decode cL_law 456 = .ok (.aload_n 0, 1) := by decide +kernel
theorem dL_law_457 : decode cL_law 457 = .ok (.iload_n 3, 1) := by decide +kernel
theorem dL_law_458 : decode cL_law 458 = .ok (.iconst 1, 1) := by decide +kernel
theorem dL_law_459 : decode cL_law 459 = .ok (.iadd, 1) := by decide +kernel
theorem dL_law_460 : decode cL_law 460 = .ok (.iaload, 1) := by decide +kernel
theorem dL_law_461 : decode cL_law 461 = .ok (.invokevirtual 76, 3) := by decide +kernel
theorem dL_law_464 : decode cL_law 464 = .ok (.aload_n 2, 1) := by decide +kernel
theorem dL_law_465 : decode cL_law 465 = .ok (.aload_n 0, 1) := by decide +kernel
theorem dL_law_466 : decode cL_law 466 = .ok (.iload_n 3, 1) := by decide +kernel
theorem dL_law_467 : decode cL_law 467 = .ok (.iconst 1, 1) := by decide +kernel
theorem dL_law_468 : decode cL_law 468 = .ok (.iadd, 1) := by decide +kernel
theorem dL_law_469 : decode cL_law 469 = .ok (.iaload, 1) := by decide +kernel
theorem dL_law_470 : decode cL_law 470 = .ok (.invokevirtual 79, 3) := by decide +kernel
theorem dL_law_473 : decode cL_law 473 = .ok (.if_icmp .eq 207, 3) := by decide +kernel
theorem dL_law_476 : decode cL_law 476 = .ok (.iconst 0, 1) := by decide +kernel
theorem dL_law_477 : decode cL_law 477 = .ok (.ireturn, 1) := by decide +kernel
theorem dL_law_478 : decode cL_law 478 = .ok (.aload_n 1, 1) := by decide +kernel
theorem dL_law_479 : decode cL_law 479 = .ok (.aload_n 0, 1) := by decide +kernel
theorem dL_law_480 : decode cL_law 480 = .ok (.iload_n 3, 1) := by decide +kernel
theorem dL_law_481 : decode cL_law 481 = .ok (.iconst 1, 1) := by decide +kernel
theorem dL_law_482 : decode cL_law 482 = .ok (.iadd, 1) := by decide +kernel
theorem dL_law_483 : decode cL_law 483 = .ok (.iaload, 1) := by decide +kernel
theorem dL_law_484 : decode cL_law 484 = .ok (.aload_n 0, 1) := by decide +kernel
theorem dL_law_485 : decode cL_law 485 = .ok (.iload_n 3, 1) := by decide +kernel
theorem dL_law_486 : decode cL_law 486 = .ok (.iconst 2, 1) := by decide +kernel
theorem dL_law_487 : decode cL_law 487 = .ok (.iadd, 1) := by decide +kernel
theorem dL_law_488 : decode cL_law 488 = .ok (.iaload, 1) := by decide +kernel
theorem dL_law_489 : decode cL_law 489 = .ok (.invokevirtual 80, 3) := by decide +kernel
theorem dL_law_492 : decode cL_law 492 = .ok (.aload_n 2, 1) := by decide +kernel
theorem dL_law_493 : decode cL_law 493 = .ok (.aload_n 0, 1) := by decide +kernel
theorem dL_law_494 : decode cL_law 494 = .ok (.iload_n 3, 1) := by decide +kernel
theorem dL_law_495 : decode cL_law 495 = .ok (.iconst 1, 1) := by decide +kernel
theorem dL_law_496 : decode cL_law 496 = .ok (.iadd, 1) := by decide +kernel
theorem dL_law_497 : decode cL_law 497 = .ok (.iaload, 1) := by decide +kernel
theorem dL_law_498 : decode cL_law 498 = .ok (.aload_n 0, 1) := by decide +kernel
theorem dL_law_499 : decode cL_law 499 = .ok (.iload_n 3, 1) := by decide +kernel
theorem dL_law_500 : decode cL_law 500 = .ok (.iconst 2, 1) := by decide +kernel
theorem dL_law_501 : decode cL_law 501 = .ok (.iadd, 1) := by decide +kernel
theorem dL_law_502 : decode cL_law 502 = .ok (.iaload, 1) := by decide +kernel
theorem dL_law_503 : decode cL_law 503 = .ok (.invokevirtual 83, 3) := by decide +kernel
theorem dL_law_506 : decode cL_law 506 = .ok (.if_icmp .eq 174, 3) := by decide +kernel
theorem dL_law_509 : decode cL_law 509 = .ok (.iconst 0, 1) := by decide +kernel
theorem dL_law_510 : decode cL_law 510 = .ok (.ireturn, 1) := by decide +kernel
theorem dL_law_511 : decode cL_law 511 = .ok (.aload_n 1, 1) := by decide +kernel
theorem dL_law_512 : decode cL_law 512 = .ok (.aload_n 0, 1) := by decide +kernel
theorem dL_law_513 : decode cL_law 513 = .ok (.iload_n 3, 1) := by decide +kernel
theorem dL_law_514 : decode cL_law 514 = .ok (.iconst 1, 1) := by decide +kernel
theorem dL_law_515 : decode cL_law 515 = .ok (.iadd, 1) := by decide +kernel
theorem dL_law_516 : decode cL_law 516 = .ok (.iaload, 1) := by decide +kernel
theorem dL_law_517 : decode cL_law 517 = .ok (.aload_n 0, 1) := by decide +kernel
theorem dL_law_518 : decode cL_law 518 = .ok (.iload_n 3, 1) := by decide +kernel
theorem dL_law_519 : decode cL_law 519 = .ok (.iconst 2, 1) := by decide +kernel
theorem dL_law_520 : decode cL_law 520 = .ok (.iadd, 1) := by decide +kernel
theorem dL_law_521 : decode cL_law 521 = .ok (.iaload, 1) := by decide +kernel
theorem dL_law_522 : decode cL_law 522 = .ok (.invokevirtual 84, 3) := by decide +kernel
theorem dL_law_525 : decode cL_law 525 = .ok (.aload_n 2, 1) := by decide +kernel
theorem dL_law_526 : decode cL_law 526 = .ok (.aload_n 0, 1) := by decide +kernel
theorem dL_law_527 : decode cL_law 527 = .ok (.iload_n 3, 1) := by decide +kernel
theorem dL_law_528 : decode cL_law 528 = .ok (.iconst 1, 1) := by decide +kernel
theorem dL_law_529 : decode cL_law 529 = .ok (.iadd, 1) := by decide +kernel
theorem dL_law_530 : decode cL_law 530 = .ok (.iaload, 1) := by decide +kernel
theorem dL_law_531 : decode cL_law 531 = .ok (.aload_n 0, 1) := by decide +kernel
theorem dL_law_532 : decode cL_law 532 = .ok (.iload_n 3, 1) := by decide +kernel
theorem dL_law_533 : decode cL_law 533 = .ok (.iconst 2, 1) := by decide +kernel
theorem dL_law_534 : decode cL_law 534 = .ok (.iadd, 1) := by decide +kernel
theorem dL_law_535 : decode cL_law 535 = .ok (.iaload, 1) := by decide +kernel
theorem dL_law_536 : decode cL_law 536 = .ok (.invokevirtual 87, 3) := by decide +kernel
theorem dL_law_539 : decode cL_law 539 = .ok (.if_icmp .eq 141, 3) := by decide +kernel
theorem dL_law_542 : decode cL_law 542 = .ok (.iconst 0, 1) := by decide +kernel
theorem dL_law_543 : decode cL_law 543 = .ok (.ireturn, 1) := by decide +kernel
theorem dL_law_544 : decode cL_law 544 = .ok (.aload_n 1, 1) := by decide +kernel
theorem dL_law_545 : decode cL_law 545 = .ok (.aload_n 0, 1) := by decide +kernel
theorem dL_law_546 : decode cL_law 546 = .ok (.iload_n 3, 1) := by decide +kernel
theorem dL_law_547 : decode cL_law 547 = .ok (.iconst 1, 1) := by decide +kernel
theorem dL_law_548 : decode cL_law 548 = .ok (.iadd, 1) := by decide +kernel
theorem dL_law_549 : decode cL_law 549 = .ok (.iaload, 1) := by decide +kernel
theorem dL_law_550 : decode cL_law 550 = .ok (.aload_n 0, 1) := by decide +kernel
theorem dL_law_551 : decode cL_law 551 = .ok (.iload_n 3, 1) := by decide +kernel
theorem dL_law_552 : decode cL_law 552 = .ok (.iconst 2, 1) := by decide +kernel
theorem dL_law_553 : decode cL_law 553 = .ok (.iadd, 1) := by decide +kernel
theorem dL_law_554 : decode cL_law 554 = .ok (.iaload, 1) := by decide +kernel
theorem dL_law_555 : decode cL_law 555 = .ok (.aload_n 0, 1) := by decide +kernel
theorem dL_law_556 : decode cL_law 556 = .ok (.iload_n 3, 1) := by decide +kernel
theorem dL_law_557 : decode cL_law 557 = .ok (.iconst 3, 1) := by decide +kernel
theorem dL_law_558 : decode cL_law 558 = .ok (.iadd, 1) := by decide +kernel
theorem dL_law_559 : decode cL_law 559 = .ok (.iaload, 1) := by decide +kernel
theorem dL_law_560 : decode cL_law 560 = .ok (.invokevirtual 88, 3) := by decide +kernel
theorem dL_law_563 : decode cL_law 563 = .ok (.aload_n 2, 1) := by decide +kernel
theorem dL_law_564 : decode cL_law 564 = .ok (.aload_n 0, 1) := by decide +kernel
theorem dL_law_565 : decode cL_law 565 = .ok (.iload_n 3, 1) := by decide +kernel
theorem dL_law_566 : decode cL_law 566 = .ok (.iconst 1, 1) := by decide +kernel
theorem dL_law_567 : decode cL_law 567 = .ok (.iadd, 1) := by decide +kernel
theorem dL_law_568 : decode cL_law 568 = .ok (.iaload, 1) := by decide +kernel
theorem dL_law_569 : decode cL_law 569 = .ok (.aload_n 0, 1) := by decide +kernel
theorem dL_law_570 : decode cL_law 570 = .ok (.iload_n 3, 1) := by decide +kernel
theorem dL_law_571 : decode cL_law 571 = .ok (.iconst 2, 1) := by decide +kernel
theorem dL_law_572 : decode cL_law 572 = .ok (.iadd, 1) := by decide +kernel
theorem dL_law_573 : decode cL_law 573 = .ok (.iaload, 1) := by decide +kernel
theorem dL_law_574 : decode cL_law 574 = .ok (.aload_n 0, 1) := by decide +kernel
theorem dL_law_575 : decode cL_law 575 = .ok (.iload_n 3, 1) := by decide +kernel
theorem dL_law_576 : decode cL_law 576 = .ok (.iconst 3, 1) := by decide +kernel
theorem dL_law_577 : decode cL_law 577 = .ok (.iadd, 1) := by decide +kernel
theorem dL_law_578 : decode cL_law 578 = .ok (.iaload, 1) := by decide +kernel
theorem dL_law_579 : decode cL_law 579 = .ok (.invokevirtual 92, 3) := by decide +kernel
theorem dL_law_582 : decode cL_law 582 = .ok (.if_icmp .eq 98, 3) := by decide +kernel
theorem dL_law_585 : decode cL_law 585 = .ok (.iconst 0, 1) := by decide +kernel
theorem dL_law_586 : decode cL_law 586 = .ok (.ireturn, 1) := by decide +kernel
theorem dL_law_587 : decode cL_law 587 = .ok (.aload_n 1, 1) := by decide +kernel
theorem dL_law_588 : decode cL_law 588 = .ok (.aload_n 0, 1) := by decide +kernel
theorem dL_law_589 : decode cL_law 589 = .ok (.iload_n 3, 1) := by decide +kernel
theorem dL_law_590 : decode cL_law 590 = .ok (.iconst 1, 1) := by decide +kernel
theorem dL_law_591 : decode cL_law 591 = .ok (.iadd, 1) := by decide +kernel
theorem dL_law_592 : decode cL_law 592 = .ok (.iaload, 1) := by decide +kernel
theorem dL_law_593 : decode cL_law 593 = .ok (.invokevirtual 93, 3) := by decide +kernel
theorem dL_law_596 : decode cL_law 596 = .ok (.aload_n 2, 1) := by decide +kernel
theorem dL_law_597 : decode cL_law 597 = .ok (.aload_n 0, 1) := by decide +kernel
theorem dL_law_598 : decode cL_law 598 = .ok (.iload_n 3, 1) := by decide +kernel
theorem dL_law_599 : decode cL_law 599 = .ok (.iconst 1, 1) := by decide +kernel
theorem dL_law_600 : decode cL_law 600 = .ok (.iadd, 1) := by decide +kernel
theorem dL_law_601 : decode cL_law 601 = .ok (.iaload, 1) := by decide +kernel
theorem dL_law_602 : decode cL_law 602 = .ok (.invokevirtual 96, 3) := by decide +kernel
theorem dL_law_605 : decode cL_law 605 = .ok (.if_icmp .eq 75, 3) := by decide +kernel
theorem dL_law_608 : decode cL_law 608 = .ok (.iconst 0, 1) := by decide +kernel
theorem dL_law_609 : decode cL_law 609 = .ok (.ireturn, 1) := by decide +kernel
theorem dL_law_610 : decode cL_law 610 = .ok (.aload_n 1, 1) := by decide +kernel
theorem dL_law_611 : decode cL_law 611 = .ok (.aload_n 0, 1) := by decide +kernel
theorem dL_law_612 : decode cL_law 612 = .ok (.iload_n 3, 1) := by decide +kernel
theorem dL_law_613 : decode cL_law 613 = .ok (.iconst 1, 1) := by decide +kernel
theorem dL_law_614 : decode cL_law 614 = .ok (.iadd, 1) := by decide +kernel
theorem dL_law_615 : decode cL_law 615 = .ok (.iaload, 1) := by decide +kernel
theorem dL_law_616 : decode cL_law 616 = .ok (.aload_n 0, 1) := by decide +kernel
theorem dL_law_617 : decode cL_law 617 = .ok (.iload_n 3, 1) := by decide +kernel
theorem dL_law_618 : decode cL_law 618 = .ok (.iconst 2, 1) := by decide +kernel
theorem dL_law_619 : decode cL_law 619 = .ok (.iadd, 1) := by decide +kernel
theorem dL_law_620 : decode cL_law 620 = .ok (.iaload, 1) := by decide +kernel
theorem dL_law_621 : decode cL_law 621 = .ok (.invokevirtual 97, 3) := by decide +kernel
theorem dL_law_624 : decode cL_law 624 = .ok (.aload_n 2, 1) := by decide +kernel
theorem dL_law_625 : decode cL_law 625 = .ok (.aload_n 0, 1) := by decide +kernel
theorem dL_law_626 : decode cL_law 626 = .ok (.iload_n 3, 1) := by decide +kernel
theorem dL_law_627 : decode cL_law 627 = .ok (.iconst 1, 1) := by decide +kernel
theorem dL_law_628 : decode cL_law 628 = .ok (.iadd, 1) := by decide +kernel
theorem dL_law_629 : decode cL_law 629 = .ok (.iaload, 1) := by decide +kernel
theorem dL_law_630 : decode cL_law 630 = .ok (.aload_n 0, 1) := by decide +kernel
theorem dL_law_631 : decode cL_law 631 = .ok (.iload_n 3, 1) := by decide +kernel
theorem dL_law_632 : decode cL_law 632 = .ok (.iconst 2, 1) := by decide +kernel
theorem dL_law_633 : decode cL_law 633 = .ok (.iadd, 1) := by decide +kernel
theorem dL_law_634 : decode cL_law 634 = .ok (.iaload, 1) := by decide +kernel
theorem dL_law_635 : decode cL_law 635 = .ok (.invokevirtual 100, 3) := by decide +kernel
theorem dL_law_638 : decode cL_law 638 = .ok (.if_icmp .eq 42, 3) := by decide +kernel
theorem dL_law_641 : decode cL_law 641 = .ok (.iconst 0, 1) := by decide +kernel
theorem dL_law_642 : decode cL_law 642 = .ok (.ireturn, 1) := by decide +kernel
theorem dL_law_643 : decode cL_law 643 = .ok (.aload_n 1, 1) := by decide +kernel
theorem dL_law_644 : decode cL_law 644 = .ok (.aload_n 0, 1) := by decide +kernel
theorem dL_law_645 : decode cL_law 645 = .ok (.iload_n 3, 1) := by decide +kernel
theorem dL_law_646 : decode cL_law 646 = .ok (.iconst 1, 1) := by decide +kernel
theorem dL_law_647 : decode cL_law 647 = .ok (.iadd, 1) := by decide +kernel
theorem dL_law_648 : decode cL_law 648 = .ok (.iaload, 1) := by decide +kernel
theorem dL_law_649 : decode cL_law 649 = .ok (.invokevirtual 101, 3) := by decide +kernel
theorem dL_law_652 : decode cL_law 652 = .ok (.aload_n 2, 1) := by decide +kernel
theorem dL_law_653 : decode cL_law 653 = .ok (.aload_n 0, 1) := by decide +kernel
theorem dL_law_654 : decode cL_law 654 = .ok (.iload_n 3, 1) := by decide +kernel
theorem dL_law_655 : decode cL_law 655 = .ok (.iconst 1, 1) := by decide +kernel
theorem dL_law_656 : decode cL_law 656 = .ok (.iadd, 1) := by decide +kernel
theorem dL_law_657 : decode cL_law 657 = .ok (.iaload, 1) := by decide +kernel
theorem dL_law_658 : decode cL_law 658 = .ok (.invokevirtual 104, 3) := by decide +kernel
theorem dL_law_661 : decode cL_law 661 = .ok (.if_icmp .eq 19, 3) := by decide +kernel
theorem dL_law_664 : decode cL_law 664 = .ok (.iconst 0, 1) := by decide +kernel
theorem dL_law_665 : decode cL_law 665 = .ok (.ireturn, 1) := by decide +kernel
theorem dL_law_666 : decode cL_law 666 = .ok (.aload_n 1, 1) := by decide +kernel
theorem dL_law_667 : decode cL_law 667 = .ok (.invokevirtual 105, 3) := by decide +kernel
theorem dL_law_670 : decode cL_law 670 = .ok (.aload_n 2, 1) := by decide +kernel
theorem dL_law_671 : decode cL_law 671 = .ok (.invokevirtual 109, 3) := by decide +kernel
theorem dL_law_674 : decode cL_law 674 = .ok (.lcmp, 1) := by decide +kernel
theorem dL_law_675 : decode cL_law 675 = .ok (.ifCond .eq 5, 3) := by decide +kernel
theorem dL_law_678 : decode cL_law 678 = .ok (.iconst 0, 1) := by decide +kernel
theorem dL_law_679 : decode cL_law 679 = .ok (.ireturn, 1) := by decide +kernel
theorem dL_law_680 : decode cL_law 680 = .ok (.iinc 3 4, 3) := by decide +kernel
theorem dL_law_683 : decode cL_law 683 = .ok (.goto (-665), 3) := by decide +kernel
theorem dL_law_686 : decode cL_law 686 = .ok (.iconst 1, 1) := by decide +kernel
theorem dL_law_687 : decode cL_law 687 = .ok (.ireturn, 1) := by decide +kernel
end
section
/-! The world: every cell that the class and the reference hold, by group and place; its numbers are a function. -/
/-- the class (its number in vwCl) of the object at the head of group g; 7: none. Groups: 0 CodeJudge, 1 to 4 Code, 5 to 8 Reading, 9 Outlook, 10 Parting, 11 Division, 12 CodeJudgeModel -/
def kl (g : Nat) : Nat := if g = 0 then 5 else if g ≤ 4 then 0 else if g ≤ 8 then 4 else if g = 9 then 2 else if g = 10 then 3 else if g = 11 then 1 else if g = 12 then 6 else 7
/-- the length of the int array at place o of a group of class c; 0: there is none -/
def il (c o : Nat) : Nat := match c, o with
  | 0, 1 => 22 | 0, 2 => 40 | 0, 3 => 120 | 0, 4 => 120 | 0, 5 => 5 | 0, 6 => 5
  | 1, 1 => 41 | 1, 2 => 41 | 1, 3 => 41 | 1, 4 => 41 | 1, 5 => 41
  | 2, 1 => 225 | 2, 2 => 225
  | 3, 1 => 30 | 3, 2 => 30 | 3, 3 => 30 | 3, 4 => 30
  | 4, 1 => 41 | 4, 2 => 41 | 4, 3 => 4
  | 5, 1 => 40 | 5, 2 => 40
  | 6, 1 => 4 | 6, 2 => 4 | 6, 3 => 64 | 6, 4 => 16 | 6, 5 => 40 | 6, 6 => 40 | 6, 7 => 4 | 6, 8 => 225 | 6, 9 => 225
  | 6, 13 => 5 | 6, 14 => 5 | 6, 15 => 31 | 6, 16 => 41 | 6, 17 => 41 | 6, 18 => 41 | 6, 19 => 41 | 6, 20 => 41
  | _, _ => 0
/-- the length of the boolean array there -/
def zl (c o : Nat) : Nat := match c, o with
  | 6, 10 => 41 | 6, 11 => 5 | 6, 12 => 5
  | _, _ => 0
/-- what a field is: 0 an int, 1 a boolean, 2 the long, 10 + o the group's own array at place o, 101 a Reading's Code, 100 + g the head of group g -/
def fk (c k : Nat) : Nat := match c, k with
  | 0, 0 => 11 | 0, 1 => 0 | 0, 2 => 0 | 0, 3 => 0 | 0, 4 => 0 | 0, 5 => 12 | 0, 6 => 13 | 0, 7 => 14 | 0, 8 => 15 | 0, 9 => 16
  | 1, 0 => 11 | 1, 1 => 12 | 1, 2 => 13 | 1, 3 => 14 | 1, 4 => 15
  | 2, 0 => 11 | 2, 1 => 12
  | 3, 0 => 11 | 3, 1 => 12 | 3, 2 => 13 | 3, 3 => 14 | 3, 4 => 0 | 3, 5 => 0
  | 4, 0 => 101 | 4, 1 => 11 | 4, 2 => 12 | 4, 3 => 13 | 4, 4 => 0 | 4, 5 => 0 | 4, 6 => 1
  | 5, 0 => 11 | 5, 1 => 0 | 5, 2 => 12 | 5, 3 => 0 | 5, 4 => 0 | 5, 5 => 13 | 5, 6 => 14 | 5, 7 => 0 | 5, 8 => 0 | 5, 9 => 0 | 5, 10 => 109 | 5, 11 => 110 | 5, 12 => 111
  | 6, 0 => 0 | 6, 1 => 11 | 6, 2 => 12 | 6, 3 => 13 | 6, 4 => 14 | 6, 5 => 0 | 6, 6 => 0 | 6, 7 => 0 | 6, 8 => 0 | 6, 9 => 15 | 6, 10 => 0 | 6, 11 => 16
  | 6, 12 => 0 | 6, 13 => 0 | 6, 14 => 0 | 6, 15 => 0 | 6, 16 => 0 | 6, 17 => 0 | 6, 18 => 0 | 6, 19 => 17 | 6, 20 => 18 | 6, 21 => 19 | 6, 22 => 20 | 6, 23 => 21 | 6, 24 => 22
  | 6, 25 => 0 | 6, 26 => 23 | 6, 27 => 24 | 6, 28 => 25 | 6, 29 => 26 | 6, 30 => 27 | 6, 31 => 28 | 6, 32 => 29 | 6, 33 => 30 | 6, 34 => 2
  | _, _ => 99
/-- the numbers of all cells (group, place, slot; an object is at place 0), and the one long -/
abbrev Wd : Type := (Nat → Nat → Nat → Int32) × Int64
def rd (w : Wd) (g o j : Nat) : Int32 := w.1 g o j
def wr (w : Wd) (g o j : Nat) (v : Int32) : Wd := (fun a b i => if a = g ∧ b = o ∧ i = j then v else w.1 a b i, w.2)
def wrl (w : Wd) (v : Int64) : Wd := (w.1, v)
/-- Arrays.fill of n numbers; System.arraycopy of the first n -/
def wfill (w : Wd) (g o n : Nat) (v : Int32) : Wd := (fun a b i => if a = g ∧ b = o ∧ i < n then v else w.1 a b i, w.2)
def wcopy (w : Wd) (g o g' o' n : Nat) : Wd := (fun a b i => if a = g' ∧ b = o' ∧ i < n then w.1 g o i else w.1 a b i, w.2)
def fval (ad : Nat → Nat → Nat) (w : Wd) (g k f : Nat) : Value := if f ≤ 1 then .int (rd w g 0 k) else if f = 2 then .long w.2 else if f = 101 then .ref (ad (g - 4) 0) else if 109 ≤ f then .ref (ad (f - 100) 0) else .ref (ad g (f - 10))
def fv (ad : Nat → Nat → Nat) (w : Wd) (g k : Nat) : Value := fval ad w g k (fk (kl g) k)
abbrev vCs : Type := ClassId × ClassId × ClassId × ClassId
/-- the heap holds the numbers w -/
def WH (D : va_G) (cs : vCs) (ad : Nat → Nat → Nat) (w : Wd) (H : Heap) : Prop :=
  (∀ g, kl g < 7 → ∃ r, vwCl[kl g]? = some r ∧ t_OB (ad g 0) (D.1 (kl g)) r.2.2 (D.2 (kl g)) H (fv ad w g)) ∧
  (∀ g o, 0 < il (kl g) o → H[ad g o]? = some (arrV cs.1 (il (kl g) o) (fun j => .int (rd w g o j)))) ∧
  (∀ g o, 0 < zl (kl g) o → H[ad g o]? = some (arrV cs.2.1 (zl (kl g) o) (fun j => .int (rd w g o j)))) ∧
  H[ad 0 3]? = some (arrV cs.2.2.1 4 (fun j => .ref (ad (j + 1) 0))) ∧ H[ad 0 4]? = some (arrV cs.2.2.2 4 (fun j => .ref (ad (j + 5) 0)))
/-- there is a cell at this place -/
def xA (g o : Nat) : Prop := (o = 0 ∧ kl g < 7) ∨ 0 < il (kl g) o ∨ 0 < zl (kl g) o ∨ (g = 0 ∧ (o = 3 ∨ o = 4))
def xF (ad : Nat → Nat → Nat) : Nat → Prop := fun q => ∃ g o, xA g o ∧ q = ad g o
abbrev nw1 : Cond := .methodLinkNest RX0 89 yX6_isUnit RX6
abbrev nw2 : Cond := .methodLinkNest RX5 73 yX6_isSortPair RX6
abbrev nw3 : Cond := .fieldLinkNest RX3 29 RX5 "code" "LCodeJudge$Code;" RX6
/-- what stays: classes, arrays' classes, links among nest mates, and that the cells are apart -/
def WK (D : va_G) (cs : vCs) (ad : Nat → Nat → Nat) (U : State) : Prop :=
  (∀ (c : Nat) (q : vw_C), vwCl[c]? = some q → u_Kn U q.1 q.2.1 q.2.2 (D.1 c) (D.2 c)) ∧
  (ArrOfT U cs.1 .int ∧ ArrOfT U cs.2.1 .boolean ∧ ArrOfT U cs.2.2.1 (.object RX0) ∧ ArrOfT U cs.2.2.2 (.object RX5)) ∧
  (va_Nw nw1 U ∧ va_Nw nw2 U ∧ va_Nw nw3 U) ∧
  ∀ g o g' o', xA g o → xA g' o' → ad g o = ad g' o' → g = g' ∧ o = o'
theorem WK.moved {D : va_G} {cs : vCs} {ad : Nat → Nat → Nat} {s U : State} (hW : s.WarmedH U.vm) (h : WK D cs ad s) : WK D cs ad U :=
  ⟨fun c q hq => u_Kn_moved hW.alike (h.1 c q hq), ⟨arrOfT_moved hW.alike h.2.1.1, arrOfT_moved hW.alike h.2.1.2.1, arrOfT_moved hW.alike h.2.1.2.2.1, arrOfT_moved hW.alike h.2.1.2.2.2⟩, ⟨va_Nw.warmM hW h.2.2.1.1, va_Nw.warmM hW h.2.2.1.2.1, va_Nw.warmF hW h.2.2.1.2.2⟩, h.2.2.2⟩
theorem WK.same {D : va_G} {cs : vCs} {ad : Nat → Nat → Nat} {u U : State} (hv : u.vm = U.vm) (h : WK D cs ad u) : WK D cs ad U := by
  have ha : u.vm.Alike U.vm := by rw [hv]; exact Vm.Alike.refl _
  exact ⟨fun c q hq => u_Kn_moved ha (h.1 c q hq), ⟨arrOfT_moved ha h.2.1.1, arrOfT_moved ha h.2.1.2.1, arrOfT_moved ha h.2.1.2.2.1, arrOfT_moved ha h.2.1.2.2.2⟩, ⟨va_Nw.same rfl hv h.2.2.1.1, va_Nw.same rfl hv h.2.2.1.2.1, va_Nw.same rfl hv h.2.2.1.2.2⟩, h.2.2.2⟩
-- the words of all methods: one list
theorem gw_all {w : Cond} (h : w ∈ wsG) : goodWord w = true := (List.mem_filter.mp h).2
abbrev wsM (y : MethodName) (cc : ByteArray) (nL : Nat) (ret : Option FieldType) : List Cond := .code y cc nL ret :: wsG
theorem gw_in {y y' : MethodName} {cc cc' : ByteArray} {nL nL' : Nat} {ret ret' : Option FieldType} (h : Cond.code y' cc' nL' ret' ∈ wsG) : GoodIn (wsM y cc nL ret) (wsM y' cc' nL' ret') := by
  intro w hw
  have hm : w ∈ wsG := by
    rcases List.mem_cons.mp hw with e | e
    · rw [e]; exact h
    · exact e
  exact ⟨List.mem_cons_of_mem _ hm, good_of_word (gw_all hm)⟩
def xP (D : va_G) (cs : vCs) (ad : Nat → Nat → Nat) (w : Wd) : State → Prop := fun U => WK D cs ad U ∧ WH D cs ad w U.heap
def xQ (D : va_G) (cs : vCs) (ad : Nat → Nat → Nat) (rv : Option Value) (w' : Wd) : Array Value → State → Outcome → State → Prop := fun _ st oc t => (oc = .returned rv ∧ WH D cs ad w' t.heap) ∧ va_F (xF ad) st t
/-- a method's contract: from the numbers w it returns rv, the numbers are w' then, no cell is made, no other cell changes -/
def Mc (l : Launch) (y : MethodName) (cc : ByteArray) (nL : Nat) (ret : Option FieldType) (fr lo : Nat) (D : va_G) (cs : vCs) (ad : Nat → Nat → Nat) (av : List Value) (w : Wd) (rv : Option Value) (w' : Wd) : Prop :=
  Met l y (wsM y cc nL ret) { frames := fr, cells := 0, slots := 0, locals := lo } (va_Pc av (xP D cs ad w)) (xQ D cs ad rv w') 0 0 (xF ad)
theorem xP_blind {D : va_G} {cs : vCs} {ad : Nat → Nat → Nat} {w : Wd} {av : List Value} : FrameBlind (va_Pc av (xP D cs ad w)) := fun _ _ _ _ h => ⟨h.1, WK.same rfl h.2.1, h.2.2⟩
/-- the machine's fixed part in a method -/
abbrev EV (p : Program) (m : MethodId) (c : Code) (cc : ByteArray) (nL : Nat) (s : State) (args : Array Value) (own : String) (y : MethodName) (ret : Option FieldType) (meth : Method) (D : va_G) (cs : vCs) (ad : Nat → Nat → Nat) : Prop :=
  CallFix p m c cc nL s args (wsM y cc nL ret) own ∧ WK D cs ad s ∧ meth.sig.returnType = ret ∧ meth.locks = false
def XV (p : Program) (l : Launch) (e : Env) (R : Room) (s : State) (m : MethodId) (args : Array Value) (below : List Frame) (meth : Method) (c : Code) (nL : Nat) (D : va_G) (cs : vCs) (ad : Nat → Nat → Nat) (Q : State → Prop) (pc : Nat) (lv : List (Nat × Value)) (st : List Value) (w : Wd) : Prop :=
  ∀ ls H locs, lv_has ls nL lv → WH D cs ad w H → va_S (xF ad) s.heap H locs → W p l e R s m args below meth c H locs 0 0 Q (F0 m pc ls st)
theorem Mc.of {l : Launch} {y : MethodName} {cc : ByteArray} {nL : Nat} {ret : Option FieldType} {fr lo : Nat} {D : va_G} {cs : vCs} {ad : Nat → Nat → Nat} {av : List Value} {w : Wd} {rv : Option Value} {w' : Wd} (hy : plainName y.cls = true) (hn : (lg_sl av).length ≤ nL)
    (body : ∀ p e s m args below meth c, EV p m c cc nL s args y.cls y ret meth D cs ad → XV p l e { frames := fr, cells := 0, slots := 0, locals := lo } s m args below meth c nL D cs ad (MQ below (xQ D cs ad rv w') args s 0 0 (xF ad)) 0 (lv_args 0 av) [] w) : Mc l y cc nL ret fr lo D cs ad av w rv w' := by
  refine Met.ofW (cc := cc) (maxL := nL) (ret := ret) hy rfl ?_
  intro p e s m args below meth c s₁ B hml hv
  obtain ⟨rfl, hK, hH⟩ := hv
  have hts := atoms_spec (ws := wsM y cc nL ret) B.pre
  have hown : s.vm.findClass y.cls = some m.cls := findClass_of_methodNamed B.named
  rw [lg_entry_eq]
  exact body p e s m _ below meth c ⟨⟨B.exec, B.bytes, hml, hown, hts⟩, hK, B.returns, B.notSynchronized⟩ _ _ _ (lv_entry av hn) hH va_S.rf
end
section
/-! How a store changes what the heap holds. -/
theorem vwCl_lt {c : Nat} {q : vw_C} (h : vwCl[c]? = some q) : c < 7 := (List.getElem?_eq_some_iff.mp h).1
theorem il0 (c : Nat) : il c 0 = 0 := by unfold il; split <;> simp_all
theorem zl0 (c : Nat) : zl c 0 = 0 := by unfold zl; split <;> simp_all
theorem il_zl {c o : Nat} (h : 0 < il c o) : zl c o = 0 := by
  unfold zl; split
  · exact absurd h (by decide)
  · exact absurd h (by decide)
  · exact absurd h (by decide)
  · rfl
theorem il_50 {o : Nat} (h : 0 < il 5 o) : o ≠ 3 ∧ o ≠ 4 := ⟨fun e => by subst e; exact absurd h (by decide), fun e => by subst e; exact absurd h (by decide)⟩
theorem rd_ne {w : Wd} {g o j g' o' j' : Nat} {v : Int32} (h : ¬ (g' = g ∧ o' = o ∧ j' = j)) : rd (wr w g o j v) g' o' j' = rd w g' o' j' := by
  show (if g' = g ∧ o' = o ∧ j' = j then v else w.1 g' o' j') = w.1 g' o' j'
  rw [if_neg h]
theorem rd_eq {w : Wd} {g o j : Nat} {v : Int32} : rd (wr w g o j v) g o j = v := by
  show (if g = g ∧ o = o ∧ j = j then v else w.1 g o j) = v
  rw [if_pos ⟨rfl, rfl, rfl⟩]
theorem fv_same {ad : Nat → Nat → Nat} {w w' : Wd} {g k : Nat} (h : rd w' g 0 k = rd w g 0 k) (h2 : w'.2 = w.2) : fv ad w' g k = fv ad w g k := by
  unfold fv fval; rw [h, h2]
section CELLS
variable {D : va_G} {cs : vCs} {ad : Nat → Nat → Nat} {w w' : Wd} {H H1 : Heap} {s : State}
theorem WH.arr (hK : WK D cs ad s) (h : WH D cs ad w H) {g o : Nat} (hn : 0 < il (kl g) o) (oq : ∀ q : Nat, q ≠ ad g o → H1[q]? = H[q]?) (he : H1[ad g o]? = some (arrV cs.1 (il (kl g) o) (fun j => .int (rd w' g o j))))
    (hw : ∀ g' o' j, ¬ (g' = g ∧ o' = o) → rd w' g' o' j = rd w g' o' j) (h2 : w'.2 = w.2) : WH D cs ad w' H1 := by
  have hx : xA g o := Or.inr (Or.inl hn)
  have ne : ∀ g' o', xA g' o' → ¬ (g' = g ∧ o' = o) → H1[ad g' o']? = H[ad g' o']? := fun g' o' ha hne => oq _ (fun e => hne (hK.2.2.2 g' o' g o ha hx e))
  have o0 : o ≠ 0 := fun e => by rw [e, il0] at hn; exact absurd hn (by decide)
  obtain ⟨a1, a2, a3, a4, a5⟩ := h
  refine ⟨fun g' hg => ?_, fun g' o' hg => ?_, fun g' o' hg => ?_, ?_, ?_⟩
  · obtain ⟨r, h1, h3⟩ := a1 g' hg
    exact ⟨r, h1, (h3.kept (ne g' 0 (Or.inl ⟨rfl, hg⟩) (fun e => o0 e.2.symm))).to (fun k _ => (fv_same (hw g' 0 k (fun e => o0 e.2.symm)) h2).symm)⟩
  · by_cases e : g' = g ∧ o' = o
    · obtain ⟨rfl, rfl⟩ := e; exact he
    · rw [ne g' o' (Or.inr (Or.inl hg)) e, a2 g' o' hg]
      congr 2; funext j; rw [hw g' o' j e]
  · have e : ¬ (g' = g ∧ o' = o) := by rintro ⟨rfl, rfl⟩; rw [il_zl hn] at hg; exact absurd hg (by decide)
    rw [ne g' o' (Or.inr (Or.inr (Or.inl hg))) e, a3 g' o' hg]
    congr 2; funext j; rw [hw g' o' j e]
  · rw [ne 0 3 (Or.inr (Or.inr (Or.inr ⟨rfl, Or.inl rfl⟩))) (by rintro ⟨rfl, rfl⟩; exact (il_50 hn).1 rfl)]; exact a4
  · rw [ne 0 4 (Or.inr (Or.inr (Or.inr ⟨rfl, Or.inr rfl⟩))) (by rintro ⟨rfl, rfl⟩; exact (il_50 hn).2 rfl)]; exact a5
theorem WH.arrZ (hK : WK D cs ad s) (h : WH D cs ad w H) {g o : Nat} (hn : 0 < zl (kl g) o) (oq : ∀ q : Nat, q ≠ ad g o → H1[q]? = H[q]?) (he : H1[ad g o]? = some (arrV cs.2.1 (zl (kl g) o) (fun j => .int (rd w' g o j))))
    (hw : ∀ g' o' j, ¬ (g' = g ∧ o' = o) → rd w' g' o' j = rd w g' o' j) (h2 : w'.2 = w.2) : WH D cs ad w' H1 := by
  have hx : xA g o := Or.inr (Or.inr (Or.inl hn))
  have ne : ∀ g' o', xA g' o' → ¬ (g' = g ∧ o' = o) → H1[ad g' o']? = H[ad g' o']? := fun g' o' ha hne => oq _ (fun e => hne (hK.2.2.2 g' o' g o ha hx e))
  have o0 : o ≠ 0 := fun e => by rw [e, zl0] at hn; exact absurd hn (by decide)
  have z5 : ∀ o : Nat, zl 5 o = 0 := fun o => rfl
  obtain ⟨a1, a2, a3, a4, a5⟩ := h
  refine ⟨fun g' hg => ?_, fun g' o' hg => ?_, fun g' o' hg => ?_, ?_, ?_⟩
  · obtain ⟨r, h1, h3⟩ := a1 g' hg
    exact ⟨r, h1, (h3.kept (ne g' 0 (Or.inl ⟨rfl, hg⟩) (fun e => o0 e.2.symm))).to (fun k _ => (fv_same (hw g' 0 k (fun e => o0 e.2.symm)) h2).symm)⟩
  · have e : ¬ (g' = g ∧ o' = o) := by rintro ⟨rfl, rfl⟩; rw [il_zl hg] at hn; exact absurd hn (by decide)
    rw [ne g' o' (Or.inr (Or.inl hg)) e, a2 g' o' hg]
    congr 2; funext j; rw [hw g' o' j e]
  · by_cases e : g' = g ∧ o' = o
    · obtain ⟨rfl, rfl⟩ := e; exact he
    · rw [ne g' o' (Or.inr (Or.inr (Or.inl hg))) e, a3 g' o' hg]
      congr 2; funext j; rw [hw g' o' j e]
  · rw [ne 0 3 (Or.inr (Or.inr (Or.inr ⟨rfl, Or.inl rfl⟩))) (by rintro ⟨rfl, rfl⟩; exact absurd hn (by rw [show kl 0 = 5 from rfl, z5]; decide))]; exact a4
  · rw [ne 0 4 (Or.inr (Or.inr (Or.inr ⟨rfl, Or.inr rfl⟩))) (by rintro ⟨rfl, rfl⟩; exact absurd hn (by rw [show kl 0 = 5 from rfl, z5]; decide))]; exact a5
theorem WH.obj (hK : WK D cs ad s) (h : WH D cs ad w H) {g : Nat} (hg0 : kl g < 7) (oq : ∀ q : Nat, q ≠ ad g 0 → H1[q]? = H[q]?) {r : vw_C} (hr : vwCl[kl g]? = some r) (he : t_OB (ad g 0) (D.1 (kl g)) r.2.2 (D.2 (kl g)) H1 (fv ad w' g))
    (hw : ∀ g' o' j, ¬ (g' = g ∧ o' = 0) → rd w' g' o' j = rd w g' o' j) (h2 : ∀ g', g' ≠ g → ∀ k, fv ad w' g' k = fv ad w g' k) : WH D cs ad w' H1 := by
  have hx : xA g 0 := Or.inl ⟨rfl, hg0⟩
  have ne : ∀ g' o', xA g' o' → ¬ (g' = g ∧ o' = 0) → H1[ad g' o']? = H[ad g' o']? := fun g' o' ha hne => oq _ (fun e => hne (hK.2.2.2 g' o' g 0 ha hx e))
  obtain ⟨a1, a2, a3, a4, a5⟩ := h
  refine ⟨fun g' hg => ?_, fun g' o' hg => ?_, fun g' o' hg => ?_, ?_, ?_⟩
  · by_cases e : g' = g
    · subst e; exact ⟨r, hr, he⟩
    · obtain ⟨r', h1, h3⟩ := a1 g' hg
      exact ⟨r', h1, (h3.kept (ne g' 0 (Or.inl ⟨rfl, hg⟩) (fun z => e z.1))).to (fun k _ => (h2 g' e k).symm)⟩
  · have e : ¬ (g' = g ∧ o' = 0) := by rintro ⟨rfl, rfl⟩; rw [il0] at hg; exact absurd hg (by decide)
    rw [ne g' o' (Or.inr (Or.inl hg)) e, a2 g' o' hg]
    congr 2; funext j; rw [hw g' o' j e]
  · have e : ¬ (g' = g ∧ o' = 0) := by rintro ⟨rfl, rfl⟩; rw [zl0] at hg; exact absurd hg (by decide)
    rw [ne g' o' (Or.inr (Or.inr (Or.inl hg))) e, a3 g' o' hg]
    congr 2; funext j; rw [hw g' o' j e]
  · rw [ne 0 3 (Or.inr (Or.inr (Or.inr ⟨rfl, Or.inl rfl⟩))) (fun z => by cases z.2)]; exact a4
  · rw [ne 0 4 (Or.inr (Or.inr (Or.inr ⟨rfl, Or.inr rfl⟩))) (fun z => by cases z.2)]; exact a5
end CELLS
/-- a field as an instruction names it: own class, place in its pool; the class and the slot of the field -/
def FR (own : String) (idx c k : Nat) (ty : FieldType) (fin : Bool) : Prop := ∃ (N0 : String) (T : u_T) (N : Nat) (ty0 : Nat → FieldType), vwCl[c]? = some (N0, T, N) ∧ k < N ∧ Cond.fieldLink own idx (T k).1 (T k).2.1 (T k).2.2.1 ∈ wsG ∧
  (∀ w ∈ u_ws N0 T N, w ∈ wsG) ∧ (∀ k, k < N → parseFieldDescriptor (T k).2.2.1 = some (ty0 k)) ∧ (∀ a, a < N → ∀ b, b < N → a ≠ b → (T a).2.1 ≠ (T b).2.1) ∧ ty0 k = ty ∧ (T k).2.2.2 = fin
/-- a method as a callee -/
def MYV (y : MethodName) (cc : ByteArray) (nL : Nat) (ret : Option FieldType) (n : Nat) : Prop := Cond.instanceMethod y ∈ wsG ∧ Cond.selects y.cls y y ∈ wsG ∧ Cond.initialized y.cls ∈ wsG ∧ Cond.code y cc nL ret ∈ wsG ∧ y.cls ≠ "java/lang/invoke/MethodHandle" ∧ y.cls ≠ "java/lang/invoke/VarHandle" ∧ (parseMethodDescriptor y.desc).map (fun d => d.parameters.length) = some n
def MYS (y : MethodName) (cc : ByteArray) (nL : Nat) (ret : Option FieldType) (n : Nat) : Prop := Cond.static y ∈ wsG ∧ Cond.initialized y.cls ∈ wsG ∧ Cond.code y cc nL ret ∈ wsG ∧ y.cls ≠ "java/lang/invoke/MethodHandle" ∧ y.cls ≠ "java/lang/invoke/VarHandle" ∧ (parseMethodDescriptor y.desc).map (fun d => d.parameters.length) = some n
end
section
/-! A row an instruction. -/
/-- a name for a number -/
def bnd {α ρ : Type} (v : α) (k : α → ρ) : ρ := k v
/-- reading and writing a row: nothing if the index is outside -/
def ga {ρ : Type} (w : Wd) (g o n : Nat) (i : Int32) (k : Int32 → Option ρ) : Option ρ := if ¬ (i < 0 ∨ n ≤ i.toNatClampNeg) then k (rd w g o i.toNatClampNeg) else none
def pa {ρ : Type} (w : Wd) (g o n : Nat) (i v : Int32) (k : Wd → Option ρ) : Option ρ := if ¬ (i < 0 ∨ n ≤ i.toNatClampNeg) then k (wr w g o i.toNatClampNeg v) else none
/-- an index is looked at -/
def ix {ρ : Type} (n : Nat) (i : Int32) (k : Nat → Option ρ) : Option ρ := if ¬ (i < 0 ∨ n ≤ i.toNatClampNeg) then k i.toNatClampNeg else none
/-- a call that may have none: of a number, of the numbers, of both -/
def ob {α ρ : Type} (o : Option α) (k : α → Option ρ) : Option ρ := match o with
  | none => none
  | some a => k a
def bI {α ρ : Type} (o : Option (α × Wd)) (k : α → Wd → Option ρ) : Option ρ := match o with
  | none => none
  | some a => k a.1 a.2
theorem ob_inv {α ρ : Type} {o : Option α} {k : α → Option ρ} {r : ρ} (h : ob o k = some r) : ∃ a, o = some a ∧ k a = some r := by
  cases o with
  | none => cases h
  | some a => exact ⟨a, rfl, h⟩
theorem bI_inv {α ρ : Type} {o : Option (α × Wd)} {k : α → Wd → Option ρ} {r : ρ} (h : bI o k = some r) : ∃ a w', o = some (a, w') ∧ k a w' = some r := by
  cases o with
  | none => cases h
  | some a => exact ⟨a.1, a.2, rfl, h⟩
/-- a truth value -/
def isB (x : Int32) : Prop := x = 0 ∨ x = 1
def zb {ρ : Type} (x : Int32) (k : Option ρ) : Option ρ := if x = 0 then k else if x = 1 then k else none
theorem zb_inv {ρ : Type} {x : Int32} {k : Option ρ} {r : ρ} (h : zb x k = some r) : isB x ∧ k = some r := by
  unfold zb at h
  split at h
  · rename_i e; exact ⟨Or.inl e, h⟩
  · split at h
    · rename_i e; exact ⟨Or.inr e, h⟩
    · cases h
theorem isB_nar {x : Int32} (h : isB x) : narrow .boolean (.int x) = .int x := by rcases h with rfl | rfl <;> rfl
theorem fk2 {c k : Nat} (h : fk c k = 2) : c = 6 ∧ k = 34 := by
  unfold fk at h
  split at h <;> first | exact ⟨rfl, rfl⟩ | exact absurd h (by decide)
theorem kl6 {g : Nat} (h : kl g = 6) : g = 12 := by
  unfold kl at h
  repeat' split at h
  all_goals first | omega | (exact absurd h (by decide))
def irm (x y : Int32) : Int32 := x - x / y * y
def imax (x y : Int32) : Int32 := if x < y then y else x
def imin (x y : Int32) : Int32 := if y < x then y else x
section ROWS
variable {p : Program} {l : Launch} {e : Env} {R : Room} {s : State} {m : MethodId} {args : Array Value} {below : List Frame} {meth : Method} {c : Code} {cc : ByteArray} {nL : Nat} {own : String} {y : MethodName} {ret : Option FieldType} {D : va_G} {cs : vCs} {ad : Nat → Nat → Nat} {Q : State → Prop}
variable {pc : Nat} {lv : List (Nat × Value)} {st : List Value} {w : Wd}
theorem x_iconst (E : EV p m c cc nL s args own y ret meth D cs ad) {n : Int} {v : Int32} (d : decode cc pc = .ok (.iconst n, 1)) (hv : Int32.ofInt n = v) (k : XV p l e R s m args below meth c nL D cs ad Q (pc + 1) lv (.int v :: st) w) : XV p l e R s m args below meth c nL D cs ad Q pc lv st w := fun ls H locs hl hh hs => lv_iconst E.1.1 E.1.2.1 d hv (k ls H locs hl hh hs)
theorem x_bipush (E : EV p m c cc nL s args own y ret meth D cs ad) {n : Int} {v : Int32} (d : decode cc pc = .ok (.bipush n, 2)) (hv : (Int8.ofInt n).toInt32 = v) (k : XV p l e R s m args below meth c nL D cs ad Q (pc + 2) lv (.int v :: st) w) : XV p l e R s m args below meth c nL D cs ad Q pc lv st w := fun ls H locs hl hh hs => lv_bipush E.1.1 E.1.2.1 d hv (k ls H locs hl hh hs)
theorem x_sipush (E : EV p m c cc nL s args own y ret meth D cs ad) {n : Int} {v : Int32} (d : decode cc pc = .ok (.sipush n, 3)) (hv : (Int16.ofInt n).toInt32 = v) (k : XV p l e R s m args below meth c nL D cs ad Q (pc + 3) lv (.int v :: st) w) : XV p l e R s m args below meth c nL D cs ad Q pc lv st w := fun ls H locs hl hh hs => lv_sipush E.1.1 E.1.2.1 d hv (k ls H locs hl hh hs)
theorem x_ldc (E : EV p m c cc nL s args own y ret meth D cs ad) {idx : Nat} {v : Int32} (hw : Cond.constant own idx v ∈ wsG) (d : decode cc pc = .ok (.ldc idx, 2)) (k : XV p l e R s m args below meth c nL D cs ad Q (pc + 2) lv (.int v :: st) w) : XV p l e R s m args below meth c nL D cs ad Q pc lv st w := fun ls H locs hl hh hs => lv_ldc E.1.1 E.1.2.1 E.1.2.2.2.1 (E.1.2.2.2.2 _ (List.mem_cons_of_mem _ hw)) d (k ls H locs hl hh hs)
theorem x_ldc2 (E : EV p m c cc nL s args own y ret meth D cs ad) {idx : Nat} {v : Int64} (hw : Cond.constantLong own idx v ∈ wsG) (d : decode cc pc = .ok (.ldc2_w idx, 3)) (k : XV p l e R s m args below meth c nL D cs ad Q (pc + 3) lv (.long v :: st) w) : XV p l e R s m args below meth c nL D cs ad Q pc lv st w := fun ls H locs hl hh hs => lv_ldc2 E.1.1 E.1.2.1 E.1.2.2.2.1 (E.1.2.2.2.2 _ (List.mem_cons_of_mem _ hw)) d (k ls H locs hl hh hs)
theorem x_iload_n (E : EV p m c cc nL s args own y ret meth D cs ad) {k0 : Fin 4} {i : Nat} {x : Int32} (d : decode cc pc = .ok (.iload_n k0, 1)) (hi : (k0 : Nat) = i) (j : Nat) (hj : lv[j]? = some (i, .int x)) (k : XV p l e R s m args below meth c nL D cs ad Q (pc + 1) lv (.int x :: st) w) : XV p l e R s m args below meth c nL D cs ad Q pc lv st w := fun ls H locs hl hh hs => lv_iload_n E.1.1 E.1.2.1 d hi (lv_at hl j hj) (k ls H locs hl hh hs)
theorem x_iload (E : EV p m c cc nL s args own y ret meth D cs ad) {i : Nat} {x : Int32} (d : decode cc pc = .ok (.iload i, 2)) (j : Nat) (hj : lv[j]? = some (i, .int x)) (k : XV p l e R s m args below meth c nL D cs ad Q (pc + 2) lv (.int x :: st) w) : XV p l e R s m args below meth c nL D cs ad Q pc lv st w := fun ls H locs hl hh hs => lv_iload E.1.1 E.1.2.1 d (lv_at hl j hj) (k ls H locs hl hh hs)
theorem x_istore_n (E : EV p m c cc nL s args own y ret meth D cs ad) {k0 : Fin 4} {i : Nat} {x : Int32} {lv' : List (Nat × Value)} (d : decode cc pc = .ok (.istore_n k0, 1)) (hi : (k0 : Nat) = i) (hn : i < nL) (hl2 : (i, Value.int x) :: lv.filter (fun q => !(q.1 == i) && !(q.1 + 1 == i && q.2.category == 2)) = lv') (k : XV p l e R s m args below meth c nL D cs ad Q (pc + 1) lv' st w) : XV p l e R s m args below meth c nL D cs ad Q pc lv (.int x :: st) w := fun ls H locs hl hh hs => lv_istore_n E.1.1 E.1.2.1 d hi hl hn hl2 (fun ls hl => k ls H locs hl hh hs)
theorem x_istore (E : EV p m c cc nL s args own y ret meth D cs ad) {i : Nat} {x : Int32} {lv' : List (Nat × Value)} (d : decode cc pc = .ok (.istore i, 2)) (hn : i < nL) (hl2 : (i, Value.int x) :: lv.filter (fun q => !(q.1 == i) && !(q.1 + 1 == i && q.2.category == 2)) = lv') (k : XV p l e R s m args below meth c nL D cs ad Q (pc + 2) lv' st w) : XV p l e R s m args below meth c nL D cs ad Q pc lv (.int x :: st) w := fun ls H locs hl hh hs => lv_istore E.1.1 E.1.2.1 d hl hn hl2 (fun ls hl => k ls H locs hl hh hs)
theorem x_lload_n (E : EV p m c cc nL s args own y ret meth D cs ad) {k0 : Fin 4} {i : Nat} {x : Int64} (d : decode cc pc = .ok (.lload_n k0, 1)) (hi : (k0 : Nat) = i) (j : Nat) (hj : lv[j]? = some (i, .long x)) (k : XV p l e R s m args below meth c nL D cs ad Q (pc + 1) lv (.long x :: st) w) : XV p l e R s m args below meth c nL D cs ad Q pc lv st w := fun ls H locs hl hh hs => lv_lload_n E.1.1 E.1.2.1 d hi (lv_at hl j hj) (k ls H locs hl hh hs)
theorem x_lload (E : EV p m c cc nL s args own y ret meth D cs ad) {i : Nat} {x : Int64} (d : decode cc pc = .ok (.lload i, 2)) (j : Nat) (hj : lv[j]? = some (i, .long x)) (k : XV p l e R s m args below meth c nL D cs ad Q (pc + 2) lv (.long x :: st) w) : XV p l e R s m args below meth c nL D cs ad Q pc lv st w := fun ls H locs hl hh hs => lv_lload E.1.1 E.1.2.1 d (lv_at hl j hj) (k ls H locs hl hh hs)
theorem x_lstore_n (E : EV p m c cc nL s args own y ret meth D cs ad) {k0 : Fin 4} {i : Nat} {x : Int64} {lv' : List (Nat × Value)} (d : decode cc pc = .ok (.lstore_n k0, 1)) (hi : (k0 : Nat) = i) (hn : i + 1 < nL) (hl2 : (i, Value.long x) :: lv.filter (fun q => !(q.1 == i) && (!(q.1 == i + 1) && !(q.1 + 1 == i && q.2.category == 2))) = lv') (k : XV p l e R s m args below meth c nL D cs ad Q (pc + 1) lv' st w) : XV p l e R s m args below meth c nL D cs ad Q pc lv (.long x :: st) w := fun ls H locs hl hh hs => lv_lstore_n E.1.1 E.1.2.1 d hi hl hn hl2 (fun ls hl => k ls H locs hl hh hs)
theorem x_lstore (E : EV p m c cc nL s args own y ret meth D cs ad) {i : Nat} {x : Int64} {lv' : List (Nat × Value)} (d : decode cc pc = .ok (.lstore i, 2)) (hn : i + 1 < nL) (hl2 : (i, Value.long x) :: lv.filter (fun q => !(q.1 == i) && (!(q.1 == i + 1) && !(q.1 + 1 == i && q.2.category == 2))) = lv') (k : XV p l e R s m args below meth c nL D cs ad Q (pc + 2) lv' st w) : XV p l e R s m args below meth c nL D cs ad Q pc lv (.long x :: st) w := fun ls H locs hl hh hs => lv_lstore E.1.1 E.1.2.1 d hl hn hl2 (fun ls hl => k ls H locs hl hh hs)
theorem x_aload_n (E : EV p m c cc nL s args own y ret meth D cs ad) {k0 : Fin 4} {i : Nat} {x : Nat} (d : decode cc pc = .ok (.aload_n k0, 1)) (hi : (k0 : Nat) = i) (j : Nat) (hj : lv[j]? = some (i, .ref x)) (k : XV p l e R s m args below meth c nL D cs ad Q (pc + 1) lv (.ref x :: st) w) : XV p l e R s m args below meth c nL D cs ad Q pc lv st w := fun ls H locs hl hh hs => lv_aload_n E.1.1 E.1.2.1 d hi (lv_at hl j hj) (k ls H locs hl hh hs)
theorem x_aload (E : EV p m c cc nL s args own y ret meth D cs ad) {i : Nat} {x : Nat} (d : decode cc pc = .ok (.aload i, 2)) (j : Nat) (hj : lv[j]? = some (i, .ref x)) (k : XV p l e R s m args below meth c nL D cs ad Q (pc + 2) lv (.ref x :: st) w) : XV p l e R s m args below meth c nL D cs ad Q pc lv st w := fun ls H locs hl hh hs => lv_aload E.1.1 E.1.2.1 d (lv_at hl j hj) (k ls H locs hl hh hs)
theorem x_astore_n (E : EV p m c cc nL s args own y ret meth D cs ad) {k0 : Fin 4} {i : Nat} {x : Nat} {lv' : List (Nat × Value)} (d : decode cc pc = .ok (.astore_n k0, 1)) (hi : (k0 : Nat) = i) (hn : i < nL) (hl2 : (i, Value.ref x) :: lv.filter (fun q => !(q.1 == i) && !(q.1 + 1 == i && q.2.category == 2)) = lv') (k : XV p l e R s m args below meth c nL D cs ad Q (pc + 1) lv' st w) : XV p l e R s m args below meth c nL D cs ad Q pc lv (.ref x :: st) w := fun ls H locs hl hh hs => lv_astore_n E.1.1 E.1.2.1 d hi hl hn hl2 (fun ls hl => k ls H locs hl hh hs)
theorem x_astore (E : EV p m c cc nL s args own y ret meth D cs ad) {i : Nat} {x : Nat} {lv' : List (Nat × Value)} (d : decode cc pc = .ok (.astore i, 2)) (hn : i < nL) (hl2 : (i, Value.ref x) :: lv.filter (fun q => !(q.1 == i) && !(q.1 + 1 == i && q.2.category == 2)) = lv') (k : XV p l e R s m args below meth c nL D cs ad Q (pc + 2) lv' st w) : XV p l e R s m args below meth c nL D cs ad Q pc lv (.ref x :: st) w := fun ls H locs hl hh hs => lv_astore E.1.1 E.1.2.1 d hl hn hl2 (fun ls hl => k ls H locs hl hh hs)
theorem x_iinc (E : EV p m c cc nL s args own y ret meth D cs ad) {i j : Nat} {n : Int} {x v : Int32} {lv' : List (Nat × Value)} (d : decode cc pc = .ok (.iinc i n, 3)) (hj : lv[j]? = some (i, .int x)) (hv : x + Int32.ofInt n = v) (hn : i < nL) (hl2 : (i, Value.int v) :: lv.filter (fun q => !(q.1 == i) && !(q.1 + 1 == i && q.2.category == 2)) = lv') (k : XV p l e R s m args below meth c nL D cs ad Q (pc + 3) lv' st w) : XV p l e R s m args below meth c nL D cs ad Q pc lv st w := fun ls H locs hl hh hs => lv_iinc E.1.1 E.1.2.1 d hl hj hv hn hl2 (fun ls hl => k ls H locs hl hh hs)
theorem x_iadd (E : EV p m c cc nL s args own y ret meth D cs ad) {x y2 : Int32} (d : decode cc pc = .ok (.iadd, 1)) (k : XV p l e R s m args below meth c nL D cs ad Q (pc + 1) lv (.int (x + y2) :: st) w) : XV p l e R s m args below meth c nL D cs ad Q pc lv (.int y2 :: .int x :: st) w := fun ls H locs hl hh hs => lv_iadd E.1.1 E.1.2.1 d (k ls H locs hl hh hs)
theorem x_isub (E : EV p m c cc nL s args own y ret meth D cs ad) {x y2 : Int32} (d : decode cc pc = .ok (.isub, 1)) (k : XV p l e R s m args below meth c nL D cs ad Q (pc + 1) lv (.int (x - y2) :: st) w) : XV p l e R s m args below meth c nL D cs ad Q pc lv (.int y2 :: .int x :: st) w := fun ls H locs hl hh hs => lv_isub E.1.1 E.1.2.1 d (k ls H locs hl hh hs)
theorem x_imul (E : EV p m c cc nL s args own y ret meth D cs ad) {x y2 : Int32} (d : decode cc pc = .ok (.imul, 1)) (k : XV p l e R s m args below meth c nL D cs ad Q (pc + 1) lv (.int (x * y2) :: st) w) : XV p l e R s m args below meth c nL D cs ad Q pc lv (.int y2 :: .int x :: st) w := fun ls H locs hl hh hs => lv_imul E.1.1 E.1.2.1 d (k ls H locs hl hh hs)
theorem x_iand (E : EV p m c cc nL s args own y ret meth D cs ad) {x y2 : Int32} (d : decode cc pc = .ok (.iand, 1)) (k : XV p l e R s m args below meth c nL D cs ad Q (pc + 1) lv (.int (x &&& y2) :: st) w) : XV p l e R s m args below meth c nL D cs ad Q pc lv (.int y2 :: .int x :: st) w := fun ls H locs hl hh hs => lv_iand E.1.1 E.1.2.1 d (k ls H locs hl hh hs)
theorem x_ior (E : EV p m c cc nL s args own y ret meth D cs ad) {x y2 : Int32} (d : decode cc pc = .ok (.ior, 1)) (k : XV p l e R s m args below meth c nL D cs ad Q (pc + 1) lv (.int (x ||| y2) :: st) w) : XV p l e R s m args below meth c nL D cs ad Q pc lv (.int y2 :: .int x :: st) w := fun ls H locs hl hh hs => lv_ior E.1.1 E.1.2.1 d (k ls H locs hl hh hs)
theorem x_ishl (E : EV p m c cc nL s args own y ret meth D cs ad) {x y2 : Int32} (d : decode cc pc = .ok (.ishl, 1)) (k : XV p l e R s m args below meth c nL D cs ad Q (pc + 1) lv (.int (x <<< (y2 &&& 31)) :: st) w) : XV p l e R s m args below meth c nL D cs ad Q pc lv (.int y2 :: .int x :: st) w := fun ls H locs hl hh hs => lv_ishl E.1.1 E.1.2.1 d (k ls H locs hl hh hs)
theorem x_ishr (E : EV p m c cc nL s args own y ret meth D cs ad) {x y2 : Int32} (d : decode cc pc = .ok (.ishr, 1)) (k : XV p l e R s m args below meth c nL D cs ad Q (pc + 1) lv (.int (x >>> (y2 &&& 31)) :: st) w) : XV p l e R s m args below meth c nL D cs ad Q pc lv (.int y2 :: .int x :: st) w := fun ls H locs hl hh hs => lv_ishr E.1.1 E.1.2.1 d (k ls H locs hl hh hs)
theorem x_ladd (E : EV p m c cc nL s args own y ret meth D cs ad) {x y2 : Int64} (d : decode cc pc = .ok (.ladd, 1)) (k : XV p l e R s m args below meth c nL D cs ad Q (pc + 1) lv (.long (x + y2) :: st) w) : XV p l e R s m args below meth c nL D cs ad Q pc lv (.long y2 :: .long x :: st) w := fun ls H locs hl hh hs => lv_ladd E.1.1 E.1.2.1 d (k ls H locs hl hh hs)
theorem x_lmul (E : EV p m c cc nL s args own y ret meth D cs ad) {x y2 : Int64} (d : decode cc pc = .ok (.lmul, 1)) (k : XV p l e R s m args below meth c nL D cs ad Q (pc + 1) lv (.long (x * y2) :: st) w) : XV p l e R s m args below meth c nL D cs ad Q pc lv (.long y2 :: .long x :: st) w := fun ls H locs hl hh hs => lv_lmul E.1.1 E.1.2.1 d (k ls H locs hl hh hs)
theorem x_idiv (E : EV p m c cc nL s args own y ret meth D cs ad) {x y2 : Int32} (d : decode cc pc = .ok (.idiv, 1)) (hne : ¬ y2 = 0) (k : XV p l e R s m args below meth c nL D cs ad Q (pc + 1) lv (.int (x / y2) :: st) w) : XV p l e R s m args below meth c nL D cs ad Q pc lv (.int y2 :: .int x :: st) w := fun ls H locs hl hh hs => lv_idiv E.1.1 E.1.2.1 d hne (k ls H locs hl hh hs)
theorem x_irem (E : EV p m c cc nL s args own y ret meth D cs ad) {x y2 : Int32} (d : decode cc pc = .ok (.irem, 1)) (hne : ¬ y2 = 0) (k : XV p l e R s m args below meth c nL D cs ad Q (pc + 1) lv (.int (irm x y2) :: st) w) : XV p l e R s m args below meth c nL D cs ad Q pc lv (.int y2 :: .int x :: st) w := fun ls H locs hl hh hs => lv_irem E.1.1 E.1.2.1 d hne (k ls H locs hl hh hs)
theorem x_i2l (E : EV p m c cc nL s args own y ret meth D cs ad) {x : Int32} (d : decode cc pc = .ok (.i2l, 1)) (k : XV p l e R s m args below meth c nL D cs ad Q (pc + 1) lv (.long x.toInt64 :: st) w) : XV p l e R s m args below meth c nL D cs ad Q pc lv (.int x :: st) w := fun ls H locs hl hh hs => lv_i2l E.1.1 E.1.2.1 d rfl (k ls H locs hl hh hs)
theorem x_dup (E : EV p m c cc nL s args own y ret meth D cs ad) {va : Value} (d : decode cc pc = .ok (.dup, 1)) (h1 : va.category = 1) (k : XV p l e R s m args below meth c nL D cs ad Q (pc + 1) lv (va :: va :: st) w) : XV p l e R s m args below meth c nL D cs ad Q pc lv (va :: st) w := fun ls H locs hl hh hs => lv_dup E.1.1 E.1.2.1 d h1 (k ls H locs hl hh hs)
theorem x_dup2 (E : EV p m c cc nL s args own y ret meth D cs ad) {va vb : Value} (d : decode cc pc = .ok (.dup2, 1)) (h1 : va.category = 1) (h2 : vb.category = 1) (k : XV p l e R s m args below meth c nL D cs ad Q (pc + 1) lv (va :: vb :: va :: vb :: st) w) : XV p l e R s m args below meth c nL D cs ad Q pc lv (va :: vb :: st) w := fun ls H locs hl hh hs => lv_dup2_11 E.1.1 E.1.2.1 d h1 h2 (k ls H locs hl hh hs)
theorem x_pop (E : EV p m c cc nL s args own y ret meth D cs ad) {va : Value} (d : decode cc pc = .ok (.pop, 1)) (h1 : va.category = 1) (k : XV p l e R s m args below meth c nL D cs ad Q (pc + 1) lv st w) : XV p l e R s m args below meth c nL D cs ad Q pc lv (va :: st) w := fun ls H locs hl hh hs => lv_pop E.1.1 E.1.2.1 d h1 (k ls H locs hl hh hs)
theorem x_dup_x1 (E : EV p m c cc nL s args own y ret meth D cs ad) {va vb : Value} (d : decode cc pc = .ok (.dup_x1, 1)) (h1 : va.category = 1) (h2 : vb.category = 1) (k : XV p l e R s m args below meth c nL D cs ad Q (pc + 1) lv (va :: vb :: va :: st) w) : XV p l e R s m args below meth c nL D cs ad Q pc lv (va :: vb :: st) w := fun ls H locs hl hh hs => lv_dup_x1 E.1.1 E.1.2.1 d h1 h2 (k ls H locs hl hh hs)
theorem x_goto (E : EV p m c cc nL s args own y ret meth D cs ad) {off : Int} {tgt : Nat} (d : decode cc pc = .ok (.goto off, 3)) (ht : (pc : Int) + off = (tgt : Int)) (k : XV p l e R s m args below meth c nL D cs ad Q tgt lv st w) : XV p l e R s m args below meth c nL D cs ad Q pc lv st w := fun ls H locs hl hh hs => lv_goto E.1.1 E.1.2.1 d ht (k ls H locs hl hh hs)
theorem x_if_eq (E : EV p m c cc nL s args own y ret meth D cs ad) {x : Int32} {ρ : Type} {A B r : ρ} {off : Int} {tgt : Nat} (d : decode cc pc = .ok (.ifCond .eq off, 3)) (ht : (pc : Int) + off = (tgt : Int)) (hm : (if x = 0 then A else B) = r) (kt : x = 0 → A = r → XV p l e R s m args below meth c nL D cs ad Q tgt lv st w) (kf : ¬ (x = 0) → B = r → XV p l e R s m args below meth c nL D cs ad Q (pc + 3) lv st w) : XV p l e R s m args below meth c nL D cs ad Q pc lv (.int x :: st) w := fun ls H locs hl hh hs => lv_if_eq E.1.1 E.1.2.1 d ht (fun h => kt h ((if_pos h).symm.trans hm) ls H locs hl hh hs) (fun h => kf h ((if_neg h).symm.trans hm) ls H locs hl hh hs)
theorem x_icmp_eq (E : EV p m c cc nL s args own y ret meth D cs ad) {x y2 : Int32} {ρ : Type} {A B r : ρ} {off : Int} {tgt : Nat} (d : decode cc pc = .ok (.if_icmp .eq off, 3)) (ht : (pc : Int) + off = (tgt : Int)) (hm : (if x = y2 then A else B) = r) (kt : x = y2 → A = r → XV p l e R s m args below meth c nL D cs ad Q tgt lv st w) (kf : ¬ (x = y2) → B = r → XV p l e R s m args below meth c nL D cs ad Q (pc + 3) lv st w) : XV p l e R s m args below meth c nL D cs ad Q pc lv (.int y2 :: .int x :: st) w := fun ls H locs hl hh hs => lv_icmp_eq E.1.1 E.1.2.1 d ht (fun h => kt h ((if_pos h).symm.trans hm) ls H locs hl hh hs) (fun h => kf h ((if_neg h).symm.trans hm) ls H locs hl hh hs)
theorem x_if_ne (E : EV p m c cc nL s args own y ret meth D cs ad) {x : Int32} {ρ : Type} {A B r : ρ} {off : Int} {tgt : Nat} (d : decode cc pc = .ok (.ifCond .ne off, 3)) (ht : (pc : Int) + off = (tgt : Int)) (hm : (if x = 0 then B else A) = r) (kt : ¬ x = 0 → A = r → XV p l e R s m args below meth c nL D cs ad Q tgt lv st w) (kf : x = 0 → B = r → XV p l e R s m args below meth c nL D cs ad Q (pc + 3) lv st w) : XV p l e R s m args below meth c nL D cs ad Q pc lv (.int x :: st) w := fun ls H locs hl hh hs => lv_if_ne E.1.1 E.1.2.1 d ht (fun h => kt h ((if_neg h).symm.trans hm) ls H locs hl hh hs) (fun h => kf h ((if_pos h).symm.trans hm) ls H locs hl hh hs)
theorem x_icmp_ne (E : EV p m c cc nL s args own y ret meth D cs ad) {x y2 : Int32} {ρ : Type} {A B r : ρ} {off : Int} {tgt : Nat} (d : decode cc pc = .ok (.if_icmp .ne off, 3)) (ht : (pc : Int) + off = (tgt : Int)) (hm : (if x = y2 then B else A) = r) (kt : ¬ x = y2 → A = r → XV p l e R s m args below meth c nL D cs ad Q tgt lv st w) (kf : x = y2 → B = r → XV p l e R s m args below meth c nL D cs ad Q (pc + 3) lv st w) : XV p l e R s m args below meth c nL D cs ad Q pc lv (.int y2 :: .int x :: st) w := fun ls H locs hl hh hs => lv_icmp_ne E.1.1 E.1.2.1 d ht (fun h => kt h ((if_neg h).symm.trans hm) ls H locs hl hh hs) (fun h => kf h ((if_pos h).symm.trans hm) ls H locs hl hh hs)
theorem x_if_lt (E : EV p m c cc nL s args own y ret meth D cs ad) {x : Int32} {ρ : Type} {A B r : ρ} {off : Int} {tgt : Nat} (d : decode cc pc = .ok (.ifCond .lt off, 3)) (ht : (pc : Int) + off = (tgt : Int)) (hm : (if x < 0 then A else B) = r) (kt : x < 0 → A = r → XV p l e R s m args below meth c nL D cs ad Q tgt lv st w) (kf : ¬ (x < 0) → B = r → XV p l e R s m args below meth c nL D cs ad Q (pc + 3) lv st w) : XV p l e R s m args below meth c nL D cs ad Q pc lv (.int x :: st) w := fun ls H locs hl hh hs => lv_if_lt E.1.1 E.1.2.1 d ht (fun h => kt h ((if_pos h).symm.trans hm) ls H locs hl hh hs) (fun h => kf h ((if_neg h).symm.trans hm) ls H locs hl hh hs)
theorem x_icmp_lt (E : EV p m c cc nL s args own y ret meth D cs ad) {x y2 : Int32} {ρ : Type} {A B r : ρ} {off : Int} {tgt : Nat} (d : decode cc pc = .ok (.if_icmp .lt off, 3)) (ht : (pc : Int) + off = (tgt : Int)) (hm : (if x < y2 then A else B) = r) (kt : x < y2 → A = r → XV p l e R s m args below meth c nL D cs ad Q tgt lv st w) (kf : ¬ (x < y2) → B = r → XV p l e R s m args below meth c nL D cs ad Q (pc + 3) lv st w) : XV p l e R s m args below meth c nL D cs ad Q pc lv (.int y2 :: .int x :: st) w := fun ls H locs hl hh hs => lv_icmp_lt E.1.1 E.1.2.1 d ht (fun h => kt h ((if_pos h).symm.trans hm) ls H locs hl hh hs) (fun h => kf h ((if_neg h).symm.trans hm) ls H locs hl hh hs)
theorem x_if_ge (E : EV p m c cc nL s args own y ret meth D cs ad) {x : Int32} {ρ : Type} {A B r : ρ} {off : Int} {tgt : Nat} (d : decode cc pc = .ok (.ifCond .ge off, 3)) (ht : (pc : Int) + off = (tgt : Int)) (hm : (if 0 ≤ x then A else B) = r) (kt : 0 ≤ x → A = r → XV p l e R s m args below meth c nL D cs ad Q tgt lv st w) (kf : ¬ (0 ≤ x) → B = r → XV p l e R s m args below meth c nL D cs ad Q (pc + 3) lv st w) : XV p l e R s m args below meth c nL D cs ad Q pc lv (.int x :: st) w := fun ls H locs hl hh hs => lv_if_ge E.1.1 E.1.2.1 d ht (fun h => kt h ((if_pos h).symm.trans hm) ls H locs hl hh hs) (fun h => kf h ((if_neg h).symm.trans hm) ls H locs hl hh hs)
theorem x_icmp_ge (E : EV p m c cc nL s args own y ret meth D cs ad) {x y2 : Int32} {ρ : Type} {A B r : ρ} {off : Int} {tgt : Nat} (d : decode cc pc = .ok (.if_icmp .ge off, 3)) (ht : (pc : Int) + off = (tgt : Int)) (hm : (if y2 ≤ x then A else B) = r) (kt : y2 ≤ x → A = r → XV p l e R s m args below meth c nL D cs ad Q tgt lv st w) (kf : ¬ (y2 ≤ x) → B = r → XV p l e R s m args below meth c nL D cs ad Q (pc + 3) lv st w) : XV p l e R s m args below meth c nL D cs ad Q pc lv (.int y2 :: .int x :: st) w := fun ls H locs hl hh hs => lv_icmp_ge E.1.1 E.1.2.1 d ht (fun h => kt h ((if_pos h).symm.trans hm) ls H locs hl hh hs) (fun h => kf h ((if_neg h).symm.trans hm) ls H locs hl hh hs)
theorem x_if_gt (E : EV p m c cc nL s args own y ret meth D cs ad) {x : Int32} {ρ : Type} {A B r : ρ} {off : Int} {tgt : Nat} (d : decode cc pc = .ok (.ifCond .gt off, 3)) (ht : (pc : Int) + off = (tgt : Int)) (hm : (if 0 < x then A else B) = r) (kt : 0 < x → A = r → XV p l e R s m args below meth c nL D cs ad Q tgt lv st w) (kf : ¬ (0 < x) → B = r → XV p l e R s m args below meth c nL D cs ad Q (pc + 3) lv st w) : XV p l e R s m args below meth c nL D cs ad Q pc lv (.int x :: st) w := fun ls H locs hl hh hs => lv_if_gt E.1.1 E.1.2.1 d ht (fun h => kt h ((if_pos h).symm.trans hm) ls H locs hl hh hs) (fun h => kf h ((if_neg h).symm.trans hm) ls H locs hl hh hs)
theorem x_icmp_gt (E : EV p m c cc nL s args own y ret meth D cs ad) {x y2 : Int32} {ρ : Type} {A B r : ρ} {off : Int} {tgt : Nat} (d : decode cc pc = .ok (.if_icmp .gt off, 3)) (ht : (pc : Int) + off = (tgt : Int)) (hm : (if y2 < x then A else B) = r) (kt : y2 < x → A = r → XV p l e R s m args below meth c nL D cs ad Q tgt lv st w) (kf : ¬ (y2 < x) → B = r → XV p l e R s m args below meth c nL D cs ad Q (pc + 3) lv st w) : XV p l e R s m args below meth c nL D cs ad Q pc lv (.int y2 :: .int x :: st) w := fun ls H locs hl hh hs => lv_icmp_gt E.1.1 E.1.2.1 d ht (fun h => kt h ((if_pos h).symm.trans hm) ls H locs hl hh hs) (fun h => kf h ((if_neg h).symm.trans hm) ls H locs hl hh hs)
theorem x_if_le (E : EV p m c cc nL s args own y ret meth D cs ad) {x : Int32} {ρ : Type} {A B r : ρ} {off : Int} {tgt : Nat} (d : decode cc pc = .ok (.ifCond .le off, 3)) (ht : (pc : Int) + off = (tgt : Int)) (hm : (if x ≤ 0 then A else B) = r) (kt : x ≤ 0 → A = r → XV p l e R s m args below meth c nL D cs ad Q tgt lv st w) (kf : ¬ (x ≤ 0) → B = r → XV p l e R s m args below meth c nL D cs ad Q (pc + 3) lv st w) : XV p l e R s m args below meth c nL D cs ad Q pc lv (.int x :: st) w := fun ls H locs hl hh hs => lv_if_le E.1.1 E.1.2.1 d ht (fun h => kt h ((if_pos h).symm.trans hm) ls H locs hl hh hs) (fun h => kf h ((if_neg h).symm.trans hm) ls H locs hl hh hs)
theorem x_icmp_le (E : EV p m c cc nL s args own y ret meth D cs ad) {x y2 : Int32} {ρ : Type} {A B r : ρ} {off : Int} {tgt : Nat} (d : decode cc pc = .ok (.if_icmp .le off, 3)) (ht : (pc : Int) + off = (tgt : Int)) (hm : (if x ≤ y2 then A else B) = r) (kt : x ≤ y2 → A = r → XV p l e R s m args below meth c nL D cs ad Q tgt lv st w) (kf : ¬ (x ≤ y2) → B = r → XV p l e R s m args below meth c nL D cs ad Q (pc + 3) lv st w) : XV p l e R s m args below meth c nL D cs ad Q pc lv (.int y2 :: .int x :: st) w := fun ls H locs hl hh hs => lv_icmp_le E.1.1 E.1.2.1 d ht (fun h => kt h ((if_pos h).symm.trans hm) ls H locs hl hh hs) (fun h => kf h ((if_neg h).symm.trans hm) ls H locs hl hh hs)
theorem x_hts (E : EV p m c cc nL s args own y ret meth D cs ad) : ∀ w ∈ wsG, w.before args s = true := fun w h => E.1.2.2.2.2 w (List.mem_cons_of_mem _ h)
theorem x_gf (E : EV p m c cc nL s args own y ret meth D cs ad) {idx ci k0 : Nat} {ty : FieldType} {fin : Bool} (fr : FR own idx ci k0 ty fin) {g : Nat} (hkl : kl g = ci) {v : Value} (hv : fval ad w g k0 (fk ci k0) = v) (d : decode cc pc = .ok (.getfield idx, 3)) (k : XV p l e R s m args below meth c nL D cs ad Q (pc + 3) lv (v :: st) w) : XV p l e R s m args below meth c nL D cs ad Q pc lv (.ref (ad g 0) :: st) w := by
  intro ls H locs hl hh hs
  obtain ⟨N0, T, N, ty0, hc, hk, hlink, hin, -⟩ := fr
  have h7 : kl g < 7 := by rw [hkl]; exact vwCl_lt hc
  obtain ⟨r, h1, cell, q1, q2, q3, q4⟩ := hh.1 g h7
  rw [hkl] at h1 q2 q4
  have hr : r = (N0, T, N) := Option.some.inj (h1.symm.trans hc)
  subst hr
  obtain ⟨hS, hfc, kC, hkC, -⟩ := E.2.1.1 ci _ hc
  obtain ⟨cf, kf, fi, f, hi, hsl⟩ := hS k0 hk
  refine W.getf E.1.1 E.1.2.1 E.1.2.2.2.1 (x_hts E _ hlink) hi (u_facts hfc hkC (u_lays (x_hts E) hin hk) hi).1 q1 (by rw [q3]; exact fun h => by cases h) (v := v) ?_ rfl rfl d (k ls H locs hl hh hs)
  rw [hsl, q4 k0 hk, ← hv]
  unfold fv
  rw [hkl]
/-- a nest mate's field: a Reading's Code, read by Outlook -/
theorem x_gfN (E : EV p m c cc nL s args own y ret meth D cs ad) (hown0 : own = RX3) {g : Nat} (hkl : kl g = 4) (d : decode cc pc = .ok (.getfield 29, 3)) (k : XV p l e R s m args below meth c nL D cs ad Q (pc + 3) lv (.ref (ad (g - 4) 0) :: st) w) : XV p l e R s m args below meth c nL D cs ad Q pc lv (.ref (ad g 0) :: st) w := by
  intro ls H locs hl hh hs
  subst hown0
  have hc : vwCl[4]? = some (RX5, TX5, 7) := rfl
  have h7 : kl g < 7 := by rw [hkl]; decide
  obtain ⟨r, h1, cell, q1, q2, q3, q4⟩ := hh.1 g h7
  rw [hkl] at h1 q2 q4
  have hr : r = (RX5, TX5, 7) := Option.some.inj (h1.symm.trans hc)
  subst hr
  obtain ⟨hS, hfc, kC, hkC, -⟩ := E.2.1.1 4 _ hc
  obtain ⟨cf, kf, fi, f, hi, hsl⟩ := hS 0 (by decide)
  refine va_Wgetf E.1.1 E.1.2.1 E.1.2.2.2.1 (va_Nw.use rfl E.2.1.2.2.1.2.2) hi (u_facts hfc hkC (u_lays (x_hts E) wG_X5 (by decide)) hi).1 q1 (by rw [q3]; exact fun h => by cases h) (v := .ref (ad (g - 4) 0)) ?_ rfl rfl d (k ls H locs hl hh hs)
  rw [hsl, q4 0 (by decide)]
  unfold fv
  rw [hkl]
  rfl
theorem x_pf (E : EV p m c cc nL s args own y ret meth D cs ad) {idx ci k0 : Nat} {ty : FieldType} (fr : FR own idx ci k0 ty false) {g : Nat} (hkl : kl g = ci) (hf : fk ci k0 ≤ 1) {v : Int32} (hn : narrow ty (.int v) = .int v) (hfit : fits ty (.int v) = true) (d : decode cc pc = .ok (.putfield idx, 3)) (k : XV p l e R s m args below meth c nL D cs ad Q (pc + 3) lv st (wr w g 0 k0 v)) : XV p l e R s m args below meth c nL D cs ad Q pc lv (.int v :: .ref (ad g 0) :: st) w := by
  intro ls H locs hl hh hs
  obtain ⟨N0, T, N, ty0, hc, hk, hlink, hin, hty, hnm, hte, hfin⟩ := fr
  have h7 : kl g < 7 := by rw [hkl]; exact vwCl_lt hc
  obtain ⟨r, h1, cell, q1, q2, q3, q4⟩ := hh.1 g h7
  have h10 := h1
  rw [hkl] at h1 q2 q4
  have hr : r = (N0, T, N) := Option.some.inj (h1.symm.trans hc)
  subst hr
  have hap : ∀ x y, x < N → y < N → x ≠ y → (D.2 ci) x ≠ (D.2 ci) y := by
    intro x y hx hy hne
    obtain ⟨hS, -⟩ := E.2.1.1 ci _ hc
    obtain ⟨_, _, _, fa, hia, ea⟩ := hS x hx
    obtain ⟨_, _, _, fb, hib, eb⟩ := hS y hy
    rw [← ea, ← eb]
    refine u_apart (u_lays (x_hts E) hin hx) (u_lays (x_hts E) hin hy) hia hib ?_
    rw [(State.fieldFound?_type hia (hty x hx)).1, (State.fieldFound?_type hib (hty y hy)).1]
    exact hnm x hx y hy hne
  obtain ⟨hS, hfc, kC, hkC, hkind⟩ := E.2.1.1 ci _ hc
  obtain ⟨cf, kf, fi, f, hi, hsl⟩ := hS k0 hk
  have hlay := x_hts E _ (hin _ (u_in_lay hk))
  unfold u_lay at hlay
  rw [if_neg (by rw [hfin]; decide)] at hlay
  have hst := (u_facts hfc hkC (u_lays (x_hts E) hin hk) hi).1
  have h6 := u_store hfc hkC hkind hlay hi (by rw [hty k0 hk, hte]) hn hfit
  refine W.putK E.1.1 E.1.2.1 (f := f) ⟨E.1.2.2.2.1, x_hts E _ hlink, ⟨_, _, _, hi⟩, hst⟩ (by rw [q2]; exact h6) q1 q3 (by rw [hsl]; exact k2_hasslot (q4 k0 hk)) rfl rfl d fun H' e1 e2 e3 => ?_
  rw [hsl] at e1 ⊢
  refine k ls H' _ hl (hh.obj E.2.1 h7 e3 h10 ?_ ?_ ?_) (hs.put e2 e3 ⟨g, 0, Or.inl ⟨rfl, h7⟩, rfl⟩)
  · rw [hkl]
    refine t_OB.to (V := updV (fv ad w g) k0 (.int v)) ⟨_, e1, q2, q3, t_set q4 hap hk (.int v)⟩ (fun j _ => ?_)
    unfold updV
    by_cases hj : j = k0
    · subst hj
      rw [if_pos rfl]
      unfold fv fval
      rw [hkl, if_pos hf, rd_eq]
    · rw [if_neg hj]
      exact (fv_same (rd_ne (fun z => hj z.2.2)) rfl).symm
  · intro g' o' j hne
    exact rd_ne (fun z => hne ⟨z.1, z.2.1⟩)
  · intro g' hg' k1
    exact fv_same (rd_ne (fun z => hg' z.1)) rfl
theorem x_pl (E : EV p m c cc nL s args own y ret meth D cs ad) (hown0 : own = RX7) {idx : Nat} (fr : FR own idx 6 34 .long false) {v : Int64} (d : decode cc pc = .ok (.putfield idx, 3)) (k : XV p l e R s m args below meth c nL D cs ad Q (pc + 3) lv st (wrl w v)) : XV p l e R s m args below meth c nL D cs ad Q pc lv (.long v :: .ref (ad 12 0) :: st) w := by
  intro ls H locs hl hh hs
  obtain ⟨N0, T, N, ty0, hc, hk, hlink, hin, hty, hnm, hte, hfin⟩ := fr
  have hkl : kl 12 = 6 := rfl
  have h7 : kl 12 < 7 := by decide
  obtain ⟨r, h1, cell, q1, q2, q3, q4⟩ := hh.1 12 h7
  have h10 := h1
  rw [hkl] at h1 q2 q4
  have hr : r = (N0, T, N) := Option.some.inj (h1.symm.trans hc)
  subst hr
  have hap : ∀ x y, x < N → y < N → x ≠ y → (D.2 6) x ≠ (D.2 6) y := by
    intro x y hx hy hne
    obtain ⟨hS, -⟩ := E.2.1.1 6 _ hc
    obtain ⟨_, _, _, fa, hia, ea⟩ := hS x hx
    obtain ⟨_, _, _, fb, hib, eb⟩ := hS y hy
    rw [← ea, ← eb]
    refine u_apart (u_lays (x_hts E) hin hx) (u_lays (x_hts E) hin hy) hia hib ?_
    rw [(State.fieldFound?_type hia (hty x hx)).1, (State.fieldFound?_type hib (hty y hy)).1]
    exact hnm x hx y hy hne
  obtain ⟨hS, hfc, kC, hkC, hkind⟩ := E.2.1.1 6 _ hc
  obtain ⟨cf, kf, fi, f, hi, hsl⟩ := hS 34 hk
  have hlay := x_hts E _ (hin _ (u_in_lay hk))
  unfold u_lay at hlay
  rw [if_neg (by rw [hfin]; decide)] at hlay
  have hst := (u_facts hfc hkC (u_lays (x_hts E) hin hk) hi).1
  have h6 := u_store hfc hkC hkind hlay hi (by rw [hty 34 hk, hte]) (ty := .long) (v := .long v) rfl rfl
  refine W.putK E.1.1 E.1.2.1 (f := f) ⟨E.1.2.2.2.1, x_hts E _ hlink, ⟨_, _, _, hi⟩, hst⟩ (by rw [q2]; exact h6) q1 q3 (by rw [hsl]; exact k2_hasslot (q4 34 hk)) rfl rfl d fun H' e1 e2 e3 => ?_
  rw [hsl] at e1 ⊢
  refine k ls H' _ hl (hh.obj E.2.1 h7 e3 h10 ?_ ?_ ?_) (hs.put e2 e3 ⟨12, 0, Or.inl ⟨rfl, h7⟩, rfl⟩)
  · rw [hkl]
    refine t_OB.to (V := updV (fv ad w 12) 34 (.long v)) ⟨_, e1, q2, q3, t_set q4 hap hk (.long v)⟩ (fun j _ => ?_)
    unfold updV
    by_cases hj : j = 34
    · subst hj
      rw [if_pos rfl]
      rfl
    · rw [if_neg hj]
      unfold fv fval
      have hne : ¬ fk (kl 12) j = 2 := fun h => hj (fk2 h).2
      rw [if_neg hne, if_neg hne]
      rfl
  · intro g' o' j _
    rfl
  · intro g' hg' k1
    unfold fv fval
    have hne : ¬ fk (kl g') k1 = 2 := fun h => hg' (kl6 (fk2 h).1)
    rw [if_neg hne, if_neg hne]
    rfl
theorem x_iald (E : EV p m c cc nL s args own y ret meth D cs ad) {ρ : Type} {r : ρ} {g o0 n ci : Nat} (hkl : kl g = ci) (hn : il ci o0 = n) (hp : 0 < n) {i : Int32} (d : decode cc pc = .ok (.iaload, 1)) {K : Int32 → Option ρ} (hm : ga w g o0 n i K = some r) (k : ∀ x, K x = some r → XV p l e R s m args below meth c nL D cs ad Q (pc + 1) lv (.int x :: st) w) : XV p l e R s m args below meth c nL D cs ad Q pc lv (.int i :: .ref (ad g o0) :: st) w := by
  intro ls H locs hl hh hs
  unfold ga at hm
  split at hm
  · rename_i hin
    subst hkl; subst hn
    have hlt : i.toNatClampNeg < il (kl g) o0 := Nat.not_le.mp fun q => hin (Or.inr q)
    exact W.iald (v := .int (rd w g o0 i.toNatClampNeg)) E.1.1 E.1.2.1 (hh.2.1 g o0 hp) (E.2.1.2.1.1 _ _) (fun q => by cases q) (by rw [arrV_size]; exact hin) (by rw [arrV_read _ _ hlt]) rfl rfl d (k _ hm ls H locs hl hh hs)
  · cases hm
theorem x_zald (E : EV p m c cc nL s args own y ret meth D cs ad) {ρ : Type} {r : ρ} {g o0 n ci : Nat} (hkl : kl g = ci) (hn : zl ci o0 = n) (hp : 0 < n) {i : Int32} (d : decode cc pc = .ok (.baload, 1)) {K : Int32 → Option ρ} (hm : ga w g o0 n i K = some r) (k : ∀ x, K x = some r → XV p l e R s m args below meth c nL D cs ad Q (pc + 1) lv (.int x :: st) w) : XV p l e R s m args below meth c nL D cs ad Q pc lv (.int i :: .ref (ad g o0) :: st) w := by
  intro ls H locs hl hh hs
  unfold ga at hm
  split at hm
  · rename_i hin
    subst hkl; subst hn
    have hlt : i.toNatClampNeg < zl (kl g) o0 := Nat.not_le.mp fun q => hin (Or.inr q)
    exact W.zald (v := .int (rd w g o0 i.toNatClampNeg)) E.1.1 E.1.2.1 (hh.2.2.1 g o0 hp) (E.2.1.2.1.2.1 _ _) (fun q => by cases q) (by rw [arrV_size]; exact hin) (by rw [arrV_read _ _ hlt]) rfl rfl d (k _ hm ls H locs hl hh hs)
  · cases hm
theorem arr_wr {cA : ClassId} {n : Nat} {w : Wd} {g o i : Nat} {v : Int32} : (arrV cA n (fun j => .int (rd w g o j))).setSlot i (.int v) = arrV cA n (fun j => .int (rd (wr w g o i v) g o j)) := by
  rw [arrV_store]
  congr 1
  funext q
  by_cases hq : q = i
  · subst hq; simp [updV, rd_eq]
  · simp [updV, hq, rd_ne (w := w) (g := g) (o := o) (j := i) (g' := g) (o' := o) (j' := q) (v := v) (fun z => hq z.2.2)]
theorem x_iast (E : EV p m c cc nL s args own y ret meth D cs ad) {ρ : Type} {r : ρ} {g o0 n ci : Nat} (hkl : kl g = ci) (hn : il ci o0 = n) (hp : 0 < n) {i v : Int32} (d : decode cc pc = .ok (.iastore, 1)) {K : Wd → Option ρ} (hm : pa w g o0 n i v K = some r) (k : ∀ w', K w' = some r → XV p l e R s m args below meth c nL D cs ad Q (pc + 1) lv st w') : XV p l e R s m args below meth c nL D cs ad Q pc lv (.int v :: .int i :: .ref (ad g o0) :: st) w := by
  intro ls H locs hl hh hs
  unfold pa at hm
  split at hm
  · rename_i hin
    subst hkl; subst hn
    refine W.iast E.1.1 E.1.2.1 (hh.2.1 g o0 hp) (E.2.1.2.1.1 _ _) (fun q => by cases q) (by rw [arrV_size]; exact hin) rfl rfl d fun H1 e1 z oq => ?_
    refine k _ hm ls H1 _ hl (hh.arr E.2.1 hp oq (by rw [e1, arr_wr]) (fun g' o' j hne => rd_ne (fun z => hne ⟨z.1, z.2.1⟩)) rfl) (hs.put z oq ⟨g, o0, Or.inr (Or.inl hp), rfl⟩)
  · cases hm
def nz (x : Int32) : Int32 := vp_nar .boolean x
theorem nz_nar (x : Int32) : narrow .boolean (.int x) = .int (nz x) := rfl
theorem x_zast (E : EV p m c cc nL s args own y ret meth D cs ad) {ρ : Type} {r : ρ} {g o0 n ci : Nat} (hkl : kl g = ci) (hn : zl ci o0 = n) (hp : 0 < n) {i v : Int32} (d : decode cc pc = .ok (.bastore, 1)) {K : Wd → Option ρ} (hm : pa w g o0 n i (nz v) K = some r) (k : ∀ w', K w' = some r → XV p l e R s m args below meth c nL D cs ad Q (pc + 1) lv st w') : XV p l e R s m args below meth c nL D cs ad Q pc lv (.int v :: .int i :: .ref (ad g o0) :: st) w := by
  intro ls H locs hl hh hs
  unfold pa at hm
  split at hm
  · rename_i hin
    subst hkl; subst hn
    refine W.zast E.1.1 E.1.2.1 (hh.2.2.1 g o0 hp) (E.2.1.2.1.2.1 _ _) (fun q => by cases q) (by rw [arrV_size]; exact hin) rfl rfl d fun H1 e1 z oq => ?_
    refine k _ hm ls H1 _ hl (hh.arrZ E.2.1 hp oq (by rw [e1]; exact congrArg some arr_wr) (fun g' o' j hne => rd_ne (fun z => hne ⟨z.1, z.2.1⟩)) rfl) (hs.put z oq ⟨g, o0, Or.inr (Or.inr (Or.inl hp)), rfl⟩)
  · cases hm
theorem x_aaldC (E : EV p m c cc nL s args own y ret meth D cs ad) {ρ : Type} {r : ρ} {i : Int32} (d : decode cc pc = .ok (.aaload, 1)) {K : Nat → Option ρ} (hm : ix 4 i K = some r) (k : ∀ n, kl (n + 1) = 0 → K n = some r → XV p l e R s m args below meth c nL D cs ad Q (pc + 1) lv (.ref (ad (n + 1) 0) :: st) w) : XV p l e R s m args below meth c nL D cs ad Q pc lv (.int i :: .ref (ad 0 3) :: st) w := by
  intro ls H locs hl hh hs
  unfold ix at hm
  split at hm
  · rename_i hin
    have hlt : i.toNatClampNeg < 4 := Nat.not_le.mp fun q => hin (Or.inr q)
    exact W.aald (v := .ref (ad (i.toNatClampNeg + 1) 0)) (ty := .object RX0) E.1.1 E.1.2.1 hh.2.2.2.1 (E.2.1.2.1.2.2.1 _ _) rfl (fun q => by cases q) (by rw [arrV_size]; exact hin) (by rw [arrV_read _ _ hlt]) rfl rfl d (k _ (by unfold kl; rw [if_neg (by omega), if_pos (by omega)]) hm ls H locs hl hh hs)
  · cases hm
theorem x_aaldR (E : EV p m c cc nL s args own y ret meth D cs ad) {ρ : Type} {r : ρ} {i : Int32} (d : decode cc pc = .ok (.aaload, 1)) {K : Nat → Option ρ} (hm : ix 4 i K = some r) (k : ∀ n, kl (n + 5) = 4 → K n = some r → XV p l e R s m args below meth c nL D cs ad Q (pc + 1) lv (.ref (ad (n + 5) 0) :: st) w) : XV p l e R s m args below meth c nL D cs ad Q pc lv (.int i :: .ref (ad 0 4) :: st) w := by
  intro ls H locs hl hh hs
  unfold ix at hm
  split at hm
  · rename_i hin
    have hlt : i.toNatClampNeg < 4 := Nat.not_le.mp fun q => hin (Or.inr q)
    exact W.aald (v := .ref (ad (i.toNatClampNeg + 5) 0)) (ty := .object RX5) E.1.1 E.1.2.1 hh.2.2.2.2 (E.2.1.2.1.2.2.2 _ _) rfl (fun q => by cases q) (by rw [arrV_size]; exact hin) (by rw [arrV_read _ _ hlt]) rfl rfl d (k _ (by unfold kl; rw [if_neg (by omega), if_neg (by omega), if_pos (by omega)]) hm ls H locs hl hh hs)
  · cases hm
theorem x_alen (E : EV p m c cc nL s args own y ret meth D cs ad) {g o0 n ci : Nat} (hkl : kl g = ci) (hn : il ci o0 = n) (hp : 0 < n) {v : Int32} (hv : Int32.ofNat n = v) (d : decode cc pc = .ok (.arraylength, 1)) (k : XV p l e R s m args below meth c nL D cs ad Q (pc + 1) lv (.int v :: st) w) : XV p l e R s m args below meth c nL D cs ad Q pc lv (.ref (ad g o0) :: st) w := by
  intro ls H locs hl hh hs
  subst hkl; subst hn; subst hv
  exact W.alen E.1.1 E.1.2.1 (hh.2.1 g o0 hp) (E.2.1.2.1.1 _ _) (by rw [arrV_size]) rfl rfl d (k ls H locs hl hh hs)
theorem x_alenC (E : EV p m c cc nL s args own y ret meth D cs ad) {v : Int32} (hv : Int32.ofNat 4 = v) (d : decode cc pc = .ok (.arraylength, 1)) (k : XV p l e R s m args below meth c nL D cs ad Q (pc + 1) lv (.int v :: st) w) : XV p l e R s m args below meth c nL D cs ad Q pc lv (.ref (ad 0 3) :: st) w := by
  intro ls H locs hl hh hs
  subst hv
  exact W.alen E.1.1 E.1.2.1 hh.2.2.2.1 (E.2.1.2.1.2.2.1 _ _) (by rw [arrV_size]) rfl rfl d (k ls H locs hl hh hs)
theorem x_back {ls : Array Slot} {H : Heap} {locs : List Loc} {rest st0 : List Value} {rv : Option Value} {w' : Wd} {a : Array Value} (hl : lv_has ls nL lv) (hs : va_S (xF ad) s.heap H locs)
    (hr : va_Run p l e R s m args below meth c H locs 0 0 0 0 (F0 m pc ls st0) rest (xQ D cs ad rv w' a) (xF ad)) (k : XV p l e R s m args below meth c nL D cs ad Q (pc + 3) lv (rv.toList ++ rest) w') : W p l e R s m args below meth c H locs 0 0 Q (F0 m pc ls st0) := by
  intro T hT X
  obtain ⟨v, st₀, t, T', L, h0, X', hL, e1, e2, ⟨⟨hv, hb⟩, hz, hk⟩, st⟩ := hr T hT X
  cases hv
  rw [h0] at hz hk
  obtain ⟨t2, a1, b1⟩ := k ls T'.heap (locs ++ L) hl (by rw [e1]; exact hb)
    ⟨Nat.le_trans hs.1 (by rw [e1]; exact hz), fun q h1 h2 => by rw [e1, hk q (Nat.lt_of_lt_of_le h1 hs.1) h2]; exact hs.2.1 q h1 h2, fun q hq => by
      rcases List.mem_append.mp hq with h | h
      · exact hs.2.2 q h
      · exact hL q h⟩ T' rfl X'
  exact ⟨t2, st t2 a1, b1⟩
theorem x_callV (E : EV p m c cc nL s args own y ret meth D cs ad) {y2 : MethodName} {cc2 : ByteArray} {nL2 n idx fr lo ci : Nat} {ret2 : Option FieldType} (my : MYV y2 cc2 nL2 ret2 n) (lk : Cond.methodLink own idx y2 ∈ wsG) {g : Nat} {As rest : List Value} {rv : Option Value} {w' : Wd} (hM : Mc l y2 cc2 nL2 ret2 fr lo D cs ad (.ref (ad g 0) :: As) w rv w') (hkl : kl g = ci) (hC : (vwCl[ci]?).map (fun q => q.1) = some y2.cls) (hn : As.length = n)
    (hR : fr + 1 ≤ R.frames ∧ 8 + (nL2 + 11) + lo ≤ R.locals) (hc : (rest.map fun v => v.category).sum ≤ 8) (d : decode cc pc = .ok (.invokevirtual idx, 3)) (k : XV p l e R s m args below meth c nL D cs ad Q (pc + 3) lv (rv.toList ++ rest) w') : XV p l e R s m args below meth c nL D cs ad Q pc lv (As.reverse ++ .ref (ad g 0) :: rest) w := by
  intro ls H locs hl hh hs
  obtain ⟨i1, i2, i3, i4, i5, i6, i7⟩ := my
  have hrecv : ∃ cellB : Cell, H[ad g 0]? = some cellB ∧ cellB.vm.isStatics = false ∧ s.vm.findClass y2.cls = some cellB.cls := by
    cases hq : vwCl[ci]? with
    | none => rw [hq] at hC; cases hC
    | some q =>
      rw [hq] at hC
      have h7 : kl g < 7 := by rw [hkl]; exact vwCl_lt hq
      obtain ⟨r, h1, cell, q1, q2, q3, q4⟩ := hh.1 g h7
      rw [hkl] at h1 q2
      have hr : r = q := Option.some.inj (h1.symm.trans hq)
      have hn : q.1 = y2.cls := Option.some.inj hC
      refine ⟨cell, q1, by rw [q3]; rfl, ?_⟩
      rw [q2, ← hn]
      exact (E.2.1.1 ci q hq).2.1
  refine x_back hl hs (va_runV (As := As) (rest := rest) (C := y2.cls) (n := n) (bytes := cc2) (maxL := nL2) (ret := ret2) E.1 hM ⟨callB_of n E.1.2.2.2.2 (gw_in i4) rfl rfl rfl (x_hts E _ i3) (x_hts E _ lk) ⟨i5, i6, i7⟩ hR, x_hts E _ i1, x_hts E _ i2⟩ ⟨xP_blind, hrecv, fun U hU hW => ⟨rfl, WK.moved hW E.2.1, by rw [hU]; exact hh⟩⟩ rfl hn hl.1 rfl (lv_room hc) d ⟨Nat.zero_le _, Nat.zero_le _⟩) k
theorem x_callS (E : EV p m c cc nL s args own y ret meth D cs ad) {y2 : MethodName} {cc2 : ByteArray} {nL2 n idx fr lo : Nat} {ret2 : Option FieldType} (my : MYS y2 cc2 nL2 ret2 n) (lk : Cond.methodLink own idx y2 ∈ wsG) {As rest : List Value} {rv : Option Value} {w' : Wd} (hM : Mc l y2 cc2 nL2 ret2 fr lo D cs ad As w rv w') (hn : As.length = n)
    (hR : fr + 1 ≤ R.frames ∧ 8 + (nL2 + 11) + lo ≤ R.locals) (hc : (rest.map fun v => v.category).sum ≤ 8) (d : decode cc pc = .ok (.invokestatic idx, 3)) (k : XV p l e R s m args below meth c nL D cs ad Q (pc + 3) lv (rv.toList ++ rest) w') : XV p l e R s m args below meth c nL D cs ad Q pc lv (As.reverse ++ rest) w := by
  intro ls H locs hl hh hs
  obtain ⟨i1, i3, i4, i5, i6, i7⟩ := my
  refine x_back hl hs (va_runS (As := As) (rest := rest) (n := n) (bytes := cc2) (maxL := nL2) (ret := ret2) E.1 hM ⟨callB_of n E.1.2.2.2.2 (gw_in i4) rfl rfl rfl (x_hts E _ i3) (x_hts E _ lk) ⟨i5, i6, i7⟩ hR, x_hts E _ i1⟩ ⟨xP_blind, fun U hU hW => ⟨rfl, WK.moved hW E.2.1, by rw [hU]; exact hh⟩⟩ rfl hn hl.1 rfl (lv_room hc) d ⟨Nat.zero_le _, Nat.zero_le _⟩) k
theorem x_callSN (E : EV p m c cc nL s args own y ret meth D cs ad) {y2 : MethodName} {cc2 : ByteArray} {nL2 n idx fr lo : Nat} {ret2 : Option FieldType} {host : String} (my : MYS y2 cc2 nL2 ret2 n) (lk : va_Nw (.methodLinkNest own idx y2 host) s) {As rest : List Value} {rv : Option Value} {w' : Wd} (hM : Mc l y2 cc2 nL2 ret2 fr lo D cs ad As w rv w') (hn : As.length = n)
    (hR : fr + 1 ≤ R.frames ∧ 8 + (nL2 + 11) + lo ≤ R.locals) (hc : (rest.map fun v => v.category).sum ≤ 8) (d : decode cc pc = .ok (.invokestatic idx, 3)) (k : XV p l e R s m args below meth c nL D cs ad Q (pc + 3) lv (rv.toList ++ rest) w') : XV p l e R s m args below meth c nL D cs ad Q pc lv (As.reverse ++ rest) w := by
  intro ls H locs hl hh hs
  obtain ⟨i1, i3, i4, i5, i6, i7⟩ := my
  refine x_back hl hs (va_runSN (As := As) (rest := rest) (n := n) (bytes := cc2) (maxL := nL2) (ret := ret2) (host := host) E.1 hM ⟨va_cnB n E.1.2.2.2.2 (gw_in i4) rfl rfl rfl lk (x_hts E _ i3) ⟨i5, i6, i7⟩ hR, x_hts E _ i1, trivial⟩ ⟨xP_blind, fun U hU hW => ⟨rfl, WK.moved hW E.2.1, by rw [hU]; exact hh⟩⟩ rfl hn hl.1 rfl (lv_room hc) d ⟨Nat.zero_le _, Nat.zero_le _⟩) k
theorem x_mmax (E : EV p m c cc nL s args own y ret meth D cs ad) {idx : Nat} (l1 : Cond.methodLink own idx Lib.Math.max.name ∈ wsG) (l2 : Cond.static Lib.Math.max.name ∈ wsG) (l3 : Cond.initialized "java/lang/Math" ∈ wsG) (l4 : Cond.code Lib.Math.max.name Lib.Math.max.code 2 (some .int) ∈ wsG) (hf : 1 ≤ R.frames) (ho : (st.map fun v => v.category).sum + 13 ≤ R.locals) {x y2 : Int32} (d : decode cc pc = .ok (.invokestatic idx, 3)) (k : XV p l e R s m args below meth c nL D cs ad Q (pc + 3) lv (.int (imax x y2) :: st) w) : XV p l e R s m args below meth c nL D cs ad Q pc lv (.int y2 :: .int x :: st) w := fun ls H locs hl hh hs => va_mmax E.1.1 E.1.2.1 (E.1.2.2.1.trans hl.1.symm) E.1.2.2.2.1 (x_hts E _ l1) (x_hts E _ l2) (x_hts E _ l3) (x_hts E _ l4) hf ho (Nat.zero_le _) (Nat.zero_le _) d (k ls H locs hl hh hs)
theorem x_mmin (E : EV p m c cc nL s args own y ret meth D cs ad) {idx : Nat} (l1 : Cond.methodLink own idx Lib.Math.min.name ∈ wsG) (l2 : Cond.static Lib.Math.min.name ∈ wsG) (l3 : Cond.initialized "java/lang/Math" ∈ wsG) (l4 : Cond.code Lib.Math.min.name Lib.Math.min.code 2 (some .int) ∈ wsG) (hf : 1 ≤ R.frames) (ho : (st.map fun v => v.category).sum + 13 ≤ R.locals) {x y2 : Int32} (d : decode cc pc = .ok (.invokestatic idx, 3)) (k : XV p l e R s m args below meth c nL D cs ad Q (pc + 3) lv (.int (imin x y2) :: st) w) : XV p l e R s m args below meth c nL D cs ad Q pc lv (.int y2 :: .int x :: st) w := fun ls H locs hl hh hs => va_mmin E.1.1 E.1.2.1 (E.1.2.2.1.trans hl.1.symm) E.1.2.2.2.1 (x_hts E _ l1) (x_hts E _ l2) (x_hts E _ l3) (x_hts E _ l4) hf ho (Nat.zero_le _) (Nat.zero_le _) d (k ls H locs hl hh hs)
theorem x_weak {lv' : List (Nat × Value)} (ks : List Nat) (h : lv_pick lv ks = lv') (k : XV p l e R s m args below meth c nL D cs ad Q pc lv' st w) : XV p l e R s m args below meth c nL D cs ad Q pc lv st w := fun ls H locs hl hh hs => k ls H locs (lv_sub hl ks h) hh hs
end ROWS
section RETS
variable {p : Program} {l : Launch} {e : Env} {R : Room} {s : State} {m : MethodId} {args : Array Value} {below : List Frame} {meth : Method} {c : Code} {cc : ByteArray} {nL : Nat} {own : String} {y : MethodName} {D : va_G} {cs : vCs} {ad : Nat → Nat → Nat}
variable {pc : Nat} {lv : List (Nat × Value)} {w : Wd}
theorem x_iret (E : EV p m c cc nL s args own y (some .int) meth D cs ad) {x : Int32} (d : decode cc pc = .ok (.ireturn, 1)) : XV p l e R s m args below meth c nL D cs ad (MQ below (xQ D cs ad (some (.int x)) w) args s 0 0 (xF ad)) pc lv [.int x] w := fun ls H locs hl hh hs => W.iret E.1.1 E.1.2.1 E.2.2.1 (fun t ht hW => ⟨⟨rfl, by rw [ht]; exact hh⟩, hs.F ht⟩) hs.2.2 d E.2.2.2
theorem x_zret (E : EV p m c cc nL s args own y (some .boolean) meth D cs ad) {x : Int32} (hx : narrow .boolean (.int x) = .int x) (d : decode cc pc = .ok (.ireturn, 1)) : XV p l e R s m args below meth c nL D cs ad (MQ below (xQ D cs ad (some (.int x)) w) args s 0 0 (xF ad)) pc lv [.int x] w := fun ls H locs hl hh hs => W.zret E.1.1 E.1.2.1 E.2.2.1 hx (fun t ht hW => ⟨⟨rfl, by rw [ht]; exact hh⟩, hs.F ht⟩) hs.2.2 d E.2.2.2
theorem x_lret (E : EV p m c cc nL s args own y (some .long) meth D cs ad) {x : Int64} (d : decode cc pc = .ok (.lreturn, 1)) : XV p l e R s m args below meth c nL D cs ad (MQ below (xQ D cs ad (some (.long x)) w) args s 0 0 (xF ad)) pc lv [.long x] w := fun ls H locs hl hh hs => W.lret E.1.1 E.1.2.1 E.2.2.1 (fun t ht hW => ⟨⟨rfl, by rw [ht]; exact hh⟩, hs.F ht⟩) hs.2.2 d E.2.2.2
theorem x_vret (E : EV p m c cc nL s args own y none meth D cs ad) (d : decode cc pc = .ok (.return_, 1)) : XV p l e R s m args below meth c nL D cs ad (MQ below (xQ D cs ad none w) args s 0 0 (xF ad)) pc lv [] w := fun ls H locs hl hh hs => W.vret E.1.1 E.1.2.1 E.2.2.1 (fun t ht hW => ⟨⟨rfl, by rw [ht]; exact hh⟩, hs.F ht⟩) hs.2.2 d E.2.2.2
end RETS
end
section
/-! Arrays.fill and System.arraycopy. -/
section JDK
variable {p : Program} {l : Launch} {e : Env} {R : Room} {s : State} {m : MethodId} {args : Array Value} {below : List Frame} {meth : Method} {c : Code} {cc : ByteArray} {nL : Nat} {own : String} {y : MethodName} {ret : Option FieldType} {D : va_G} {cs : vCs} {ad : Nat → Nat → Nat} {Q : State → Prop}
variable {pc : Nat} {lv : List (Nat × Value)} {st : List Value} {w : Wd}
theorem x_iastD (E : EV p m c cc nL s args own y ret meth D cs ad) {g o0 n ci : Nat} (hkl : kl g = ci) (hn : il ci o0 = n) (hp : 0 < n) {i v : Int32} (d : decode cc pc = .ok (.iastore, 1)) (hin : ¬ (i < 0 ∨ n ≤ i.toNatClampNeg)) (k : XV p l e R s m args below meth c nL D cs ad Q (pc + 1) lv st (wr w g o0 i.toNatClampNeg v)) : XV p l e R s m args below meth c nL D cs ad Q pc lv (.int v :: .int i :: .ref (ad g o0) :: st) w :=
  x_iast (ρ := Wd) (r := wr w g o0 i.toNatClampNeg v) (K := fun w' => some w') E hkl hn hp d (by unfold pa; rw [if_pos hin]) (fun w' h => by cases h; exact k)
theorem x_copy (E : EV p m c cc nL s args own y ret meth D cs ad) {idx : Nat} (l1 : Cond.methodLink own idx arraycopyName ∈ wsG) (l2 : Cond.native arraycopyName ∈ wsG) (l3 : Cond.static arraycopyName ∈ wsG) (l4 : Cond.initialized "java/lang/System" ∈ wsG)
    {g o g' o' n0 n1 ci ci' nn : Nat} (hk0 : kl g = ci) (hk1 : kl g' = ci') (hn0 : il ci o = n0) (hn1 : il ci' o' = n1) {n : Int32} (h3 : ¬ n < 0) (hn : n.toNatClampNeg = nn) (hp : 0 < nn) (h4 : nn ≤ n0) (h5 : nn ≤ n1)
    (hf : 1 ≤ R.frames) (ho : (st.map fun v => v.category).sum + (nativeFrameWords "java/lang/System" "arraycopy" 5 + 11) ≤ R.locals) (d : decode cc pc = .ok (.invokestatic idx, 3))
    (k : XV p l e R s m args below meth c nL D cs ad Q (pc + 3) lv st (wcopy w g o g' o' nn)) : XV p l e R s m args below meth c nL D cs ad Q pc lv (.int n :: .int 0 :: .ref (ad g' o') :: .int 0 :: .ref (ad g o) :: st) w := by
  intro ls H locs hl hh hs
  subst hk0; subst hk1; subst hn0; subst hn1; subst hn
  have nn : ∀ z : Int32, ¬ z < 0 → z.toInt = (z.toNatClampNeg : Int) := by
    intro z hz
    have hz0 : (0 : Int) ≤ z.toInt := by
      have := Int32.not_lt.mp hz
      simpa using Int32.le_iff_toInt_le.mp this
    show z.toInt = ((z.toInt.toNat : Nat) : Int)
    omega
  intro T hT X
  have p0 : 0 < il (kl g) o := Nat.lt_of_lt_of_le hp h4
  have p1 : 0 < il (kl g') o' := Nat.lt_of_lt_of_le hp h5
  have hc0 : H[ad g o]? = some (arrV cs.1 (il (kl g) o) (fun j => .int (rd w g o j))) := hh.2.1 g o p0
  have hc1 : H[ad g' o']? = some (arrV cs.1 (il (kl g') o') (fun j => .int (rd w g' o' j))) := hh.2.1 g' o' p1
  obtain ⟨-, k0, hk0, cm0, hkk0⟩ := E.2.1.2.1.1 (il (kl g) o) (fun j => .int (rd w g o j))
  obtain ⟨-, k1, hk1, cm1, hkk1⟩ := E.2.1.2.1.1 (il (kl g') o') (fun j => .int (rd w g' o' j))
  have z0 : ¬ (0 : Int32) < 0 := by decide
  have zc : (0 : Int32).toNatClampNeg = 0 := rfl
  obtain ⟨vm', X', step⟩ := X.arraycopy E.1.1 E.1.2.2.2.1 (x_hts E _ l1) (x_hts E _ l2) (x_hts E _ l3) (x_hts E _ l4) (src := ad g o) (dst := ad g' o') (cs := arrV cs.1 (il (kl g) o) (fun j => .int (rd w g o j))) (cd := arrV cs.1 (il (kl g') o') (fun j => .int (rd w g' o' j))) (srcPos := 0) (destPos := 0) (n := n) (by rw [hT]; exact hc0) (by rw [hT]; exact hc1)
    (fun _ h => by cases h) (fun _ h => by cases h) (fun h => by cases h) (fun h => by cases h) hk0 hk1 hkk0 hkk1 (by simp [refKind]) z0 z0 h3
    (by rw [nn 0 z0, nn n h3, zc, arrV_size]; omega)
    (by rw [nn 0 z0, nn n h3, zc, arrV_size]; omega)
    (fun vm₁ _ i hi => by
      have e : (arrV cs.1 (il (kl g) o) (fun j => Value.int (rd w g o j))).slots.getD ((0 : Int32).toNatClampNeg + i) .null = .int (rd w g o i) := by
        rw [zc, Nat.zero_add, Array.getD_eq_getD_getElem?, arrV_read _ _ (by omega)]
        rfl
      refine ⟨?_, ?_⟩
      · rw [e]
        rfl
      · rw [e]
        exact trivial)
    (g := F0 m pc ls (.int n :: .int 0 :: .ref (ad g' o') :: .int 0 :: .ref (ad g o) :: st)) rfl (by rw [E.1.2.2.1]; exact hl.1) (rest := st) rfl (by rw [E.1.2.1]; exact d) hf (by show 2 * 0 + _ + _ ≤ _; omega)
  have e1 : copied (arrV cs.1 (il (kl g) o) (fun j => .int (rd w g o j))) (arrV cs.1 (il (kl g') o') (fun j => .int (rd w g' o' j))) 0 0 n = arrV cs.1 (il (kl g') o') (fun j => .int (rd (wcopy w g o g' o' n.toNatClampNeg) g' o' j)) := by
    refine (va_copied (fun z => Value.int z) cs.1 cs.1 (sp := 0) (dp := 0) (n := n.toNatClampNeg) (rd w g o) (rd w g' o') (by omega)).trans ?_
    congr 1
    funext j
    show Value.int (va_cpy (rd w g o) (rd w g' o') 0 0 n.toNatClampNeg j) = Value.int (if g' = g' ∧ o' = o' ∧ j < n.toNatClampNeg then w.1 g o j else w.1 g' o' j)
    unfold va_cpy
    by_cases hj : j < n.toNatClampNeg
    · rw [if_pos (by omega), if_pos ⟨rfl, rfl, hj⟩, Nat.sub_zero, Nat.zero_add]; rfl
    · rw [if_neg (by omega), if_neg (fun z => hj z.2.2)]; rfl
  rw [e1] at X' step
  have hlt : ad g' o' < H.size := (Array.getElem?_eq_some_iff.mp hc1).1
  generalize hcell : arrV cs.1 (il (kl g') o') (fun j => Value.int (rd (wcopy w g o g' o' n.toNatClampNeg) g' o' j)) = cellN at X' step
  have hheap : ((T.setVm vm').setCell (ad g' o') cellN).heap = H.setIfInBounds (ad g' o') cellN := by rw [← hT]; rfl
  have oq : ∀ q : Nat, q ≠ ad g' o' → (H.setIfInBounds (ad g' o') cellN)[q]? = H[q]? := fun q hq => by simp [Array.getElem?_setIfInBounds, Ne.symm hq]
  have hx1 : xF ad (ad g' o') := ⟨g', o', Or.inr (Or.inl p1), rfl⟩
  obtain ⟨t, a1, b1⟩ := k ls _ _ hl (hh.arr (w' := wcopy w g o g' o' n.toNatClampNeg) (H1 := H.setIfInBounds (ad g' o') cellN) E.2.1 p1 oq (by rw [hcell]; simp [Array.getElem?_setIfInBounds, hlt]) (fun a b j hne => by
      show (if a = g' ∧ b = o' ∧ j < n.toNatClampNeg then w.1 g o j else w.1 a b j) = w.1 a b j
      rw [if_neg (fun z => hne ⟨z.1, z.2.1⟩)]) rfl) ⟨by simp; exact hs.1, fun q g1 g2 => by
      rw [oq q (fun e => g2 (by rw [e]; exact hx1))]
      exact hs.2.1 q g1 g2, fun q hq => by
      rcases List.mem_append.mp hq with h | h
      · exact hs.2.2 q h
      · obtain ⟨z, -, hz⟩ := List.mem_map.mp h
        rw [← hz]
        exact hx1⟩ _ hheap X'
  exact ⟨t, step t a1, b1⟩
end JDK
theorem wfill_0 (w : Wd) (g o : Nat) (v : Int32) : wfill w g o 0 v = w := by
  unfold wfill
  simp
theorem wfill_s (w : Wd) (g o i : Nat) (v : Int32) : wr (wfill w g o i v) g o i v = wfill w g o (i + 1) v := by
  unfold wr wfill
  congr 1
  funext a b j
  dsimp only
  by_cases h : a = g ∧ b = o
  · obtain ⟨rfl, rfl⟩ := h
    by_cases hj : j = i
    · subst hj; simp
    · by_cases h2 : j < i
      · simp [hj, h2, Nat.lt_succ_of_lt h2]
      · simp [hj, h2, show ¬ j < i + 1 by omega]
  · rw [if_neg (fun z => h ⟨z.1, z.2.1⟩), if_neg (fun z => h ⟨z.1, z.2.1⟩), if_neg (fun z => h ⟨z.1, z.2.1⟩)]
set_option maxRecDepth 100000 in
set_option maxHeartbeats 4000000 in
theorem c_fill (l : Launch) (D : va_G) (cs : vCs) (ad : Nat → Nat → Nat) {w : Wd} {g o n ci : Nat} {v : Int32} (hkl : kl g = ci) (hn : il ci o = n) (hp : 0 < n) (hb : n < 2 ^ 31) : Mc l yJ7_fill_53178 cJ7_fill_53178 4 none 0 0 D cs ad [.ref (ad g o), .int v] w none (wfill w g o n v) := by
  refine Mc.of (by decide) (Nat.le_of_ble_eq_true rfl) ?_
  intro p e s m args below meth c E
  have L : ∀ k i, i + k = n → XV p l e { frames := 0, cells := 0, slots := 0, locals := 0 } s m args below meth c 4 D cs ad (MQ below (xQ D cs ad none (wfill w g o n v)) args s 0 0 (xF ad)) 5 [(3, .int (nI n)), (2, .int (nI i)), (0, .ref (ad g o)), (1, .int v)] [] (wfill w g o i v) := by
    intro k
    induction k with
    | zero =>
      intro i hi
      obtain rfl : i = n := by omega
      refine x_iload_n E dJ7_fill_53178_5 rfl 1 rfl ?_
      refine x_iload_n E dJ7_fill_53178_6 rfl 0 rfl ?_
      refine x_icmp_ge (A := True) (B := False) (r := True) (tgt := 20) E dJ7_fill_53178_7 (by decide) (if_pos (nI_le (Nat.le_refl _) hb)) (fun _ _ => ?_) (fun h _ => absurd (nI_le (Nat.le_refl _) hb) h)
      exact x_vret E dJ7_fill_53178_20
    | succ k ih =>
      intro i hi
      refine x_iload_n E dJ7_fill_53178_5 rfl 1 rfl ?_
      refine x_iload_n E dJ7_fill_53178_6 rfl 0 rfl ?_
      refine x_icmp_ge (A := False) (B := True) (r := True) (tgt := 20) E dJ7_fill_53178_7 (by decide) (if_neg (nI_ge (by omega) hb)) (fun h _ => absurd h (nI_ge (by omega) hb)) (fun _ _ => ?_)
      refine x_aload_n E dJ7_fill_53178_10 rfl 2 rfl ?_
      refine x_iload_n E dJ7_fill_53178_11 rfl 1 rfl ?_
      refine x_iload_n E dJ7_fill_53178_12 rfl 3 rfl ?_
      refine x_iastD E hkl hn hp dJ7_fill_53178_13 (nI_in (show i < n by omega) hb) ?_
      rw [nI_clamp (by omega), wfill_s]
      refine x_iinc (v := nI (i + 1)) (j := 1) E dJ7_fill_53178_14 rfl (by rw [nI_succ]; rfl) (by decide) rfl ?_
      refine x_goto (tgt := 5) E dJ7_fill_53178_17 (by decide) ?_
      exact x_weak [1, 0, 2, 3] rfl (ih (i + 1) (by omega))
  refine x_iconst (v := 0) E dJ7_fill_53178_0 (by decide) ?_
  refine x_istore_n E dJ7_fill_53178_1 rfl (by decide) rfl ?_
  refine x_aload_n E dJ7_fill_53178_2 rfl 1 rfl ?_
  refine x_alen E hkl hn hp rfl dJ7_fill_53178_3 ?_
  refine x_istore_n E dJ7_fill_53178_4 rfl (by decide) rfl ?_
  have h := L n 0 (by omega)
  rw [wfill_0] at h
  exact h
theorem my_fill : MYS yJ7_fill_53178 cJ7_fill_53178 4 none 2 := ⟨wG356, wG90, wG357, by decide, by decide, by decide +kernel⟩
end
