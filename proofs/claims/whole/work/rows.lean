section
-- ===== PART A: goes FIRST, ahead of the names: the tables' words, and 'selects' of the private methods out of them =====
/-- a private method of a class that the tables say can be made, by its rows of tables_1 -/
def lw_okq (q : MethodName × Nat) : Prop := (q.1.cls ≠ "java/lang/invoke/MethodHandle" ∧ q.1.cls ≠ "java/lang/invoke/VarHandle") ∧ Cond.instantiable q.1.cls q.2 ∈ tables_1 ∧ Cond.privateMethod q.1 ∈ tables_1 ∧ Cond.instanceMethod q.1 ∈ tables_1
theorem lw_p0 : lw_okq (⟨"FindersHide$Text", "readToken", "()V"⟩, 8) := ⟨⟨by decide +kernel, by decide +kernel⟩, List.mem_of_getElem? (i := 30) (by decide +kernel), List.mem_of_getElem? (i := 322) (by decide +kernel), List.mem_of_getElem? (i := 323) (by decide +kernel)⟩
theorem lw_p1 : lw_okq (⟨"FindersHide$Text", "isLetter", "(I)Z"⟩, 8) := ⟨⟨by decide +kernel, by decide +kernel⟩, List.mem_of_getElem? (i := 30) (by decide +kernel), List.mem_of_getElem? (i := 326) (by decide +kernel), List.mem_of_getElem? (i := 327) (by decide +kernel)⟩
theorem lw_p2 : lw_okq (⟨"FindersHide$Text", "readWord", "()V"⟩, 8) := ⟨⟨by decide +kernel, by decide +kernel⟩, List.mem_of_getElem? (i := 30) (by decide +kernel), List.mem_of_getElem? (i := 330) (by decide +kernel), List.mem_of_getElem? (i := 331) (by decide +kernel)⟩
theorem lw_p3 : lw_okq (⟨"FindersHide$Text", "isWord", "(Ljava/lang/String;)Z"⟩, 8) := ⟨⟨by decide +kernel, by decide +kernel⟩, List.mem_of_getElem? (i := 30) (by decide +kernel), List.mem_of_getElem? (i := 335) (by decide +kernel), List.mem_of_getElem? (i := 336) (by decide +kernel)⟩
theorem lw_p4 : lw_okq (⟨"FindersHide$Text", "isDigit", "(I)Z"⟩, 8) := ⟨⟨by decide +kernel, by decide +kernel⟩, List.mem_of_getElem? (i := 30) (by decide +kernel), List.mem_of_getElem? (i := 390) (by decide +kernel), List.mem_of_getElem? (i := 391) (by decide +kernel)⟩
theorem lw_p5 : lw_okq (⟨"FindersHide$Text", "readDigits", "()V"⟩, 8) := ⟨⟨by decide +kernel, by decide +kernel⟩, List.mem_of_getElem? (i := 30) (by decide +kernel), List.mem_of_getElem? (i := 394) (by decide +kernel), List.mem_of_getElem? (i := 395) (by decide +kernel)⟩
theorem lw_p6 : lw_okq (⟨"FindersHide$Text", "readsItem", "(LFindersHide$Town;)Z"⟩, 8) := ⟨⟨by decide +kernel, by decide +kernel⟩, List.mem_of_getElem? (i := 30) (by decide +kernel), List.mem_of_getElem? (i := 401) (by decide +kernel), List.mem_of_getElem? (i := 402) (by decide +kernel)⟩
theorem lw_p7 : lw_okq (⟨"FindersHide$Text", "readsPlace", "(LFindersHide$Town;)Z"⟩, 8) := ⟨⟨by decide +kernel, by decide +kernel⟩, List.mem_of_getElem? (i := 30) (by decide +kernel), List.mem_of_getElem? (i := 405) (by decide +kernel), List.mem_of_getElem? (i := 406) (by decide +kernel)⟩
theorem lw_p8 : lw_okq (⟨"FindersHide$Text", "isNumber", "(II)Z"⟩, 8) := ⟨⟨by decide +kernel, by decide +kernel⟩, List.mem_of_getElem? (i := 30) (by decide +kernel), List.mem_of_getElem? (i := 409) (by decide +kernel), List.mem_of_getElem? (i := 410) (by decide +kernel)⟩
theorem lw_p9 : lw_okq (⟨"FindersHide$Text", "readsSeeker", "(LFindersHide$Town;)Z"⟩, 8) := ⟨⟨by decide +kernel, by decide +kernel⟩, List.mem_of_getElem? (i := 30) (by decide +kernel), List.mem_of_getElem? (i := 417) (by decide +kernel), List.mem_of_getElem? (i := 418) (by decide +kernel)⟩
theorem lw_p10 : lw_okq (⟨"FindersHide$Text", "readsRing", "(LFindersHide$Town;)Z"⟩, 8) := ⟨⟨by decide +kernel, by decide +kernel⟩, List.mem_of_getElem? (i := 30) (by decide +kernel), List.mem_of_getElem? (i := 437) (by decide +kernel), List.mem_of_getElem? (i := 438) (by decide +kernel)⟩
theorem lw_p11 : lw_okq (⟨"FindersHide$Text", "readsLaw", "(LFindersHide$Town;)Z"⟩, 8) := ⟨⟨by decide +kernel, by decide +kernel⟩, List.mem_of_getElem? (i := 30) (by decide +kernel), List.mem_of_getElem? (i := 441) (by decide +kernel), List.mem_of_getElem? (i := 442) (by decide +kernel)⟩
theorem lw_p12 : lw_okq (⟨"FindersHide$Town", "settleOrder", "()V"⟩, 15) := ⟨⟨by decide +kernel, by decide +kernel⟩, List.mem_of_getElem? (i := 63) (by decide +kernel), List.mem_of_getElem? (i := 449) (by decide +kernel), List.mem_of_getElem? (i := 450) (by decide +kernel)⟩
theorem lw_p13 : lw_okq (⟨"FindersHide$Town", "settleNoWorse", "(I)V"⟩, 15) := ⟨⟨by decide +kernel, by decide +kernel⟩, List.mem_of_getElem? (i := 63) (by decide +kernel), List.mem_of_getElem? (i := 453) (by decide +kernel), List.mem_of_getElem? (i := 454) (by decide +kernel)⟩
theorem lw_p14 : lw_okq (⟨"FindersHide$Town", "settleReach", "(II)V"⟩, 15) := ⟨⟨by decide +kernel, by decide +kernel⟩, List.mem_of_getElem? (i := 63) (by decide +kernel), List.mem_of_getElem? (i := 457) (by decide +kernel), List.mem_of_getElem? (i := 458) (by decide +kernel)⟩
theorem lw_p15 : lw_okq (⟨"FindersHide$Town", "behind", "(II)I"⟩, 15) := ⟨⟨by decide +kernel, by decide +kernel⟩, List.mem_of_getElem? (i := 63) (by decide +kernel), List.mem_of_getElem? (i := 461) (by decide +kernel), List.mem_of_getElem? (i := 462) (by decide +kernel)⟩
def lw_privs_1 : List (MethodName × Nat) := [(⟨"FindersHide$Text", "readToken", "()V"⟩, 8), (⟨"FindersHide$Text", "isLetter", "(I)Z"⟩, 8), (⟨"FindersHide$Text", "readWord", "()V"⟩, 8), (⟨"FindersHide$Text", "isWord", "(Ljava/lang/String;)Z"⟩, 8), (⟨"FindersHide$Text", "isDigit", "(I)Z"⟩, 8), (⟨"FindersHide$Text", "readDigits", "()V"⟩, 8), (⟨"FindersHide$Text", "readsItem", "(LFindersHide$Town;)Z"⟩, 8), (⟨"FindersHide$Text", "readsPlace", "(LFindersHide$Town;)Z"⟩, 8), (⟨"FindersHide$Text", "isNumber", "(II)Z"⟩, 8), (⟨"FindersHide$Text", "readsSeeker", "(LFindersHide$Town;)Z"⟩, 8), (⟨"FindersHide$Text", "readsRing", "(LFindersHide$Town;)Z"⟩, 8), (⟨"FindersHide$Text", "readsLaw", "(LFindersHide$Town;)Z"⟩, 8), (⟨"FindersHide$Town", "settleOrder", "()V"⟩, 15), (⟨"FindersHide$Town", "settleNoWorse", "(I)V"⟩, 15), (⟨"FindersHide$Town", "settleReach", "(II)V"⟩, 15), (⟨"FindersHide$Town", "behind", "(II)I"⟩, 15)]
theorem lw_r1 : ∀ q ∈ lw_privs_1, lw_okq q := List.forall_mem_cons.mpr ⟨lw_p0, List.forall_mem_cons.mpr ⟨lw_p1, List.forall_mem_cons.mpr ⟨lw_p2, List.forall_mem_cons.mpr ⟨lw_p3, List.forall_mem_cons.mpr ⟨lw_p4, List.forall_mem_cons.mpr ⟨lw_p5, List.forall_mem_cons.mpr ⟨lw_p6, List.forall_mem_cons.mpr ⟨lw_p7, List.forall_mem_cons.mpr ⟨lw_p8, List.forall_mem_cons.mpr ⟨lw_p9, List.forall_mem_cons.mpr ⟨lw_p10, List.forall_mem_cons.mpr ⟨lw_p11, List.forall_mem_cons.mpr ⟨lw_p12, List.forall_mem_cons.mpr ⟨lw_p13, List.forall_mem_cons.mpr ⟨lw_p14, List.forall_mem_cons.mpr ⟨lw_p15, fun _ h => absurd h List.not_mem_nil⟩⟩⟩⟩⟩⟩⟩⟩⟩⟩⟩⟩⟩⟩⟩⟩
theorem lw_p16 : lw_okq (⟨"FindersHide$State", "draw", "(I)I"⟩, 9) := ⟨⟨by decide +kernel, by decide +kernel⟩, List.mem_of_getElem? (i := 141) (by decide +kernel), List.mem_of_getElem? (i := 501) (by decide +kernel), List.mem_of_getElem? (i := 502) (by decide +kernel)⟩
theorem lw_p17 : lw_okq (⟨"FindersHide", "weeksLying", "(I)I"⟩, 9) := ⟨⟨by decide +kernel, by decide +kernel⟩, List.mem_of_getElem? (i := 22) (by decide +kernel), List.mem_of_getElem? (i := 547) (by decide +kernel), List.mem_of_getElem? (i := 548) (by decide +kernel)⟩
theorem lw_p18 : lw_okq (⟨"FindersHide$Chances", "lastWeek", "(LFindersHide$Town;IJ)V"⟩, 4) := ⟨⟨by decide +kernel, by decide +kernel⟩, List.mem_of_getElem? (i := 186) (by decide +kernel), List.mem_of_getElem? (i := 576) (by decide +kernel), List.mem_of_getElem? (i := 577) (by decide +kernel)⟩
theorem lw_p19 : lw_okq (⟨"FindersHide$Chances", "searchAll", "(LFindersHide$Town;I)V"⟩, 4) := ⟨⟨by decide +kernel, by decide +kernel⟩, List.mem_of_getElem? (i := 186) (by decide +kernel), List.mem_of_getElem? (i := 580) (by decide +kernel), List.mem_of_getElem? (i := 581) (by decide +kernel)⟩
theorem lw_p20 : lw_okq (⟨"FindersHide$Chances", "share", "(JI)V"⟩, 4) := ⟨⟨by decide +kernel, by decide +kernel⟩, List.mem_of_getElem? (i := 186) (by decide +kernel), List.mem_of_getElem? (i := 585) (by decide +kernel), List.mem_of_getElem? (i := 586) (by decide +kernel)⟩
theorem lw_p21 : lw_okq (⟨"FindersHide", "canHaveBegunAt", "(I)Z"⟩, 9) := ⟨⟨by decide +kernel, by decide +kernel⟩, List.mem_of_getElem? (i := 22) (by decide +kernel), List.mem_of_getElem? (i := 634) (by decide +kernel), List.mem_of_getElem? (i := 635) (by decide +kernel)⟩
theorem lw_p22 : lw_okq (⟨"FindersHideModel", "reads", "()Z"⟩, 20) := ⟨⟨by decide +kernel, by decide +kernel⟩, List.mem_of_getElem? (i := 693) (by decide +kernel), List.mem_of_getElem? (i := 776) (by decide +kernel), List.mem_of_getElem? (i := 777) (by decide +kernel)⟩
theorem lw_p23 : lw_okq (⟨"FindersHideModel", "token", "()V"⟩, 20) := ⟨⟨by decide +kernel, by decide +kernel⟩, List.mem_of_getElem? (i := 693) (by decide +kernel), List.mem_of_getElem? (i := 780) (by decide +kernel), List.mem_of_getElem? (i := 781) (by decide +kernel)⟩
theorem lw_p24 : lw_okq (⟨"FindersHideModel", "byteAt", "(I)I"⟩, 20) := ⟨⟨by decide +kernel, by decide +kernel⟩, List.mem_of_getElem? (i := 693) (by decide +kernel), List.mem_of_getElem? (i := 784) (by decide +kernel), List.mem_of_getElem? (i := 785) (by decide +kernel)⟩
theorem lw_p25 : lw_okq (⟨"FindersHideModel", "verb", "()I"⟩, 20) := ⟨⟨by decide +kernel, by decide +kernel⟩, List.mem_of_getElem? (i := 693) (by decide +kernel), List.mem_of_getElem? (i := 791) (by decide +kernel), List.mem_of_getElem? (i := 792) (by decide +kernel)⟩
theorem lw_p26 : lw_okq (⟨"FindersHideModel", "readsItem", "(I)Z"⟩, 20) := ⟨⟨by decide +kernel, by decide +kernel⟩, List.mem_of_getElem? (i := 693) (by decide +kernel), List.mem_of_getElem? (i := 800) (by decide +kernel), List.mem_of_getElem? (i := 801) (by decide +kernel)⟩
theorem lw_p27 : lw_okq (⟨"FindersHideModel", "readsPlace", "()Z"⟩, 20) := ⟨⟨by decide +kernel, by decide +kernel⟩, List.mem_of_getElem? (i := 693) (by decide +kernel), List.mem_of_getElem? (i := 804) (by decide +kernel), List.mem_of_getElem? (i := 805) (by decide +kernel)⟩
theorem lw_p28 : lw_okq (⟨"FindersHideModel", "number", "(II)I"⟩, 20) := ⟨⟨by decide +kernel, by decide +kernel⟩, List.mem_of_getElem? (i := 693) (by decide +kernel), List.mem_of_getElem? (i := 808) (by decide +kernel), List.mem_of_getElem? (i := 809) (by decide +kernel)⟩
theorem lw_p29 : lw_okq (⟨"FindersHideModel", "figure", "(II)I"⟩, 20) := ⟨⟨by decide +kernel, by decide +kernel⟩, List.mem_of_getElem? (i := 693) (by decide +kernel), List.mem_of_getElem? (i := 812) (by decide +kernel), List.mem_of_getElem? (i := 813) (by decide +kernel)⟩
theorem lw_p30 : lw_okq (⟨"FindersHideModel", "readsSeeker", "()Z"⟩, 20) := ⟨⟨by decide +kernel, by decide +kernel⟩, List.mem_of_getElem? (i := 693) (by decide +kernel), List.mem_of_getElem? (i := 816) (by decide +kernel), List.mem_of_getElem? (i := 817) (by decide +kernel)⟩
theorem lw_p31 : lw_okq (⟨"FindersHideModel", "once", "(III)Z"⟩, 20) := ⟨⟨by decide +kernel, by decide +kernel⟩, List.mem_of_getElem? (i := 693) (by decide +kernel), List.mem_of_getElem? (i := 820) (by decide +kernel), List.mem_of_getElem? (i := 821) (by decide +kernel)⟩
def lw_privs_2 : List (MethodName × Nat) := [(⟨"FindersHide$State", "draw", "(I)I"⟩, 9), (⟨"FindersHide", "weeksLying", "(I)I"⟩, 9), (⟨"FindersHide$Chances", "lastWeek", "(LFindersHide$Town;IJ)V"⟩, 4), (⟨"FindersHide$Chances", "searchAll", "(LFindersHide$Town;I)V"⟩, 4), (⟨"FindersHide$Chances", "share", "(JI)V"⟩, 4), (⟨"FindersHide", "canHaveBegunAt", "(I)Z"⟩, 9), (⟨"FindersHideModel", "reads", "()Z"⟩, 20), (⟨"FindersHideModel", "token", "()V"⟩, 20), (⟨"FindersHideModel", "byteAt", "(I)I"⟩, 20), (⟨"FindersHideModel", "verb", "()I"⟩, 20), (⟨"FindersHideModel", "readsItem", "(I)Z"⟩, 20), (⟨"FindersHideModel", "readsPlace", "()Z"⟩, 20), (⟨"FindersHideModel", "number", "(II)I"⟩, 20), (⟨"FindersHideModel", "figure", "(II)I"⟩, 20), (⟨"FindersHideModel", "readsSeeker", "()Z"⟩, 20), (⟨"FindersHideModel", "once", "(III)Z"⟩, 20)]
theorem lw_r2 : ∀ q ∈ lw_privs_2, lw_okq q := List.forall_mem_cons.mpr ⟨lw_p16, List.forall_mem_cons.mpr ⟨lw_p17, List.forall_mem_cons.mpr ⟨lw_p18, List.forall_mem_cons.mpr ⟨lw_p19, List.forall_mem_cons.mpr ⟨lw_p20, List.forall_mem_cons.mpr ⟨lw_p21, List.forall_mem_cons.mpr ⟨lw_p22, List.forall_mem_cons.mpr ⟨lw_p23, List.forall_mem_cons.mpr ⟨lw_p24, List.forall_mem_cons.mpr ⟨lw_p25, List.forall_mem_cons.mpr ⟨lw_p26, List.forall_mem_cons.mpr ⟨lw_p27, List.forall_mem_cons.mpr ⟨lw_p28, List.forall_mem_cons.mpr ⟨lw_p29, List.forall_mem_cons.mpr ⟨lw_p30, List.forall_mem_cons.mpr ⟨lw_p31, fun _ h => absurd h List.not_mem_nil⟩⟩⟩⟩⟩⟩⟩⟩⟩⟩⟩⟩⟩⟩⟩⟩
theorem lw_p32 : lw_okq (⟨"FindersHideModel", "isPlace", "(I)Z"⟩, 20) := ⟨⟨by decide +kernel, by decide +kernel⟩, List.mem_of_getElem? (i := 693) (by decide +kernel), List.mem_of_getElem? (i := 828) (by decide +kernel), List.mem_of_getElem? (i := 829) (by decide +kernel)⟩
theorem lw_p33 : lw_okq (⟨"FindersHideModel", "noWorse", "(I)I"⟩, 20) := ⟨⟨by decide +kernel, by decide +kernel⟩, List.mem_of_getElem? (i := 693) (by decide +kernel), List.mem_of_getElem? (i := 832) (by decide +kernel), List.mem_of_getElem? (i := 833) (by decide +kernel)⟩
theorem lw_p34 : lw_okq (⟨"FindersHideModel", "isSeeker", "(I)Z"⟩, 20) := ⟨⟨by decide +kernel, by decide +kernel⟩, List.mem_of_getElem? (i := 693) (by decide +kernel), List.mem_of_getElem? (i := 840) (by decide +kernel), List.mem_of_getElem? (i := 841) (by decide +kernel)⟩
theorem lw_p35 : lw_okq (⟨"FindersHideModel", "hides", "()V"⟩, 20) := ⟨⟨by decide +kernel, by decide +kernel⟩, List.mem_of_getElem? (i := 693) (by decide +kernel), List.mem_of_getElem? (i := 856) (by decide +kernel), List.mem_of_getElem? (i := 857) (by decide +kernel)⟩
theorem lw_p36 : lw_okq (⟨"FindersHideModel", "drawn", "(I)I"⟩, 20) := ⟨⟨by decide +kernel, by decide +kernel⟩, List.mem_of_getElem? (i := 693) (by decide +kernel), List.mem_of_getElem? (i := 863) (by decide +kernel), List.mem_of_getElem? (i := 864) (by decide +kernel)⟩
theorem lw_p37 : lw_okq (⟨"FindersHideModel", "starts", "(IZ)V"⟩, 20) := ⟨⟨by decide +kernel, by decide +kernel⟩, List.mem_of_getElem? (i := 693) (by decide +kernel), List.mem_of_getElem? (i := 875) (by decide +kernel), List.mem_of_getElem? (i := 876) (by decide +kernel)⟩
theorem lw_p38 : lw_okq (⟨"FindersHideModel", "plays", "()I"⟩, 20) := ⟨⟨by decide +kernel, by decide +kernel⟩, List.mem_of_getElem? (i := 693) (by decide +kernel), List.mem_of_getElem? (i := 879) (by decide +kernel), List.mem_of_getElem? (i := 880) (by decide +kernel)⟩
theorem lw_p39 : lw_okq (⟨"FindersHideModel", "finds", "(I)Z"⟩, 20) := ⟨⟨by decide +kernel, by decide +kernel⟩, List.mem_of_getElem? (i := 693) (by decide +kernel), List.mem_of_getElem? (i := 883) (by decide +kernel), List.mem_of_getElem? (i := 884) (by decide +kernel)⟩
theorem lw_p40 : lw_okq (⟨"FindersHideModel", "firstWeek", "(I)I"⟩, 20) := ⟨⟨by decide +kernel, by decide +kernel⟩, List.mem_of_getElem? (i := 693) (by decide +kernel), List.mem_of_getElem? (i := 899) (by decide +kernel), List.mem_of_getElem? (i := 900) (by decide +kernel)⟩
theorem lw_p41 : lw_okq (⟨"FindersHideModel", "state", "()I"⟩, 20) := ⟨⟨by decide +kernel, by decide +kernel⟩, List.mem_of_getElem? (i := 693) (by decide +kernel), List.mem_of_getElem? (i := 913) (by decide +kernel), List.mem_of_getElem? (i := 914) (by decide +kernel)⟩
theorem lw_p42 : lw_okq (⟨"FindersHideModel", "spreadsAll", "(I)V"⟩, 20) := ⟨⟨by decide +kernel, by decide +kernel⟩, List.mem_of_getElem? (i := 693) (by decide +kernel), List.mem_of_getElem? (i := 917) (by decide +kernel), List.mem_of_getElem? (i := 918) (by decide +kernel)⟩
theorem lw_p43 : lw_okq (⟨"FindersHideModel", "spreads", "(II)V"⟩, 20) := ⟨⟨by decide +kernel, by decide +kernel⟩, List.mem_of_getElem? (i := 693) (by decide +kernel), List.mem_of_getElem? (i := 921) (by decide +kernel), List.mem_of_getElem? (i := 922) (by decide +kernel)⟩
theorem lw_p44 : lw_okq (⟨"FindersHideModel", "isAt", "(I)V"⟩, 20) := ⟨⟨by decide +kernel, by decide +kernel⟩, List.mem_of_getElem? (i := 693) (by decide +kernel), List.mem_of_getElem? (i := 925) (by decide +kernel), List.mem_of_getElem? (i := 926) (by decide +kernel)⟩
theorem lw_p45 : lw_okq (⟨"FindersHideModel", "allHard", "()I"⟩, 20) := ⟨⟨by decide +kernel, by decide +kernel⟩, List.mem_of_getElem? (i := 693) (by decide +kernel), List.mem_of_getElem? (i := 939) (by decide +kernel), List.mem_of_getElem? (i := 940) (by decide +kernel)⟩
theorem lw_p46 : lw_okq (⟨"FindersHideModel", "rank", "(I)I"⟩, 20) := ⟨⟨by decide +kernel, by decide +kernel⟩, List.mem_of_getElem? (i := 693) (by decide +kernel), List.mem_of_getElem? (i := 947) (by decide +kernel), List.mem_of_getElem? (i := 948) (by decide +kernel)⟩
theorem lw_p47 : lw_okq (⟨"FindersHideModel", "began", "(I)Z"⟩, 20) := ⟨⟨by decide +kernel, by decide +kernel⟩, List.mem_of_getElem? (i := 693) (by decide +kernel), List.mem_of_getElem? (i := 967) (by decide +kernel), List.mem_of_getElem? (i := 968) (by decide +kernel)⟩
def lw_privs_3 : List (MethodName × Nat) := [(⟨"FindersHideModel", "isPlace", "(I)Z"⟩, 20), (⟨"FindersHideModel", "noWorse", "(I)I"⟩, 20), (⟨"FindersHideModel", "isSeeker", "(I)Z"⟩, 20), (⟨"FindersHideModel", "hides", "()V"⟩, 20), (⟨"FindersHideModel", "drawn", "(I)I"⟩, 20), (⟨"FindersHideModel", "starts", "(IZ)V"⟩, 20), (⟨"FindersHideModel", "plays", "()I"⟩, 20), (⟨"FindersHideModel", "finds", "(I)Z"⟩, 20), (⟨"FindersHideModel", "firstWeek", "(I)I"⟩, 20), (⟨"FindersHideModel", "state", "()I"⟩, 20), (⟨"FindersHideModel", "spreadsAll", "(I)V"⟩, 20), (⟨"FindersHideModel", "spreads", "(II)V"⟩, 20), (⟨"FindersHideModel", "isAt", "(I)V"⟩, 20), (⟨"FindersHideModel", "allHard", "()I"⟩, 20), (⟨"FindersHideModel", "rank", "(I)I"⟩, 20), (⟨"FindersHideModel", "began", "(I)Z"⟩, 20)]
theorem lw_r3 : ∀ q ∈ lw_privs_3, lw_okq q := List.forall_mem_cons.mpr ⟨lw_p32, List.forall_mem_cons.mpr ⟨lw_p33, List.forall_mem_cons.mpr ⟨lw_p34, List.forall_mem_cons.mpr ⟨lw_p35, List.forall_mem_cons.mpr ⟨lw_p36, List.forall_mem_cons.mpr ⟨lw_p37, List.forall_mem_cons.mpr ⟨lw_p38, List.forall_mem_cons.mpr ⟨lw_p39, List.forall_mem_cons.mpr ⟨lw_p40, List.forall_mem_cons.mpr ⟨lw_p41, List.forall_mem_cons.mpr ⟨lw_p42, List.forall_mem_cons.mpr ⟨lw_p43, List.forall_mem_cons.mpr ⟨lw_p44, List.forall_mem_cons.mpr ⟨lw_p45, List.forall_mem_cons.mpr ⟨lw_p46, List.forall_mem_cons.mpr ⟨lw_p47, fun _ h => absurd h List.not_mem_nil⟩⟩⟩⟩⟩⟩⟩⟩⟩⟩⟩⟩⟩⟩⟩⟩
def lw_privs : List (MethodName × Nat) := lw_privs_1 ++ (lw_privs_2 ++ (lw_privs_3))
def lw_tbl : List Cond := k2_sels lw_privs ++ tables_1
theorem lw_privs_ok : ∀ q ∈ lw_privs, lw_okq q := by
  show ∀ q ∈ lw_privs_1 ++ (lw_privs_2 ++ (lw_privs_3)), lw_okq q
  exact List.forall_mem_append.mpr ⟨lw_r1, List.forall_mem_append.mpr ⟨lw_r2, lw_r3⟩⟩

-- ===== names, as the task prints them =====
theorem goodIn_r {big : List Cond} (ws : List Cond) (ps : List Nat) (hp : ws = ps.filterMap (fun i => big[i]?)) (h : ws.all goodWord = true) : GoodIn big ws := by
  intro w hw
  have h1 := List.all_eq_true.mp h w hw
  rw [hp] at hw
  obtain ⟨i, -, hi⟩ := List.mem_filterMap.mp hw
  have hm : w ∈ big := by first | exact List.mem_of_getElem? hi | exact List.getElem?_mem hi
  exact ⟨hm, good_of_word h1⟩
theorem goodIn_app {big a b : List Cond} (ha : GoodIn big a) (hb : GoodIn big b) : GoodIn big (a ++ b) := fun w h => (List.mem_append.mp h).elim (ha w) (hb w)
theorem goodIn_ca {big a b : List Cond} {c : Cond} (ha : GoodIn big (c :: a)) (hb : GoodIn big b) : GoodIn big (c :: (a ++ b)) := fun w h => (List.mem_cons.mp h).elim (fun e => ha w (List.mem_cons.mpr (Or.inl e))) (fun h => (List.mem_append.mp h).elim (fun h => ha w (List.mem_cons.mpr (Or.inr h))) (hb w))
theorem goodIn_sub {big ws : List Cond} (hm : ∀ w ∈ ws, w ∈ big) (h : ws.all goodWord = true) : GoodIn big ws := fun w hw => ⟨hm w hw, good_of_word (List.all_eq_true.mp h w hw)⟩
def RX0 : String := "FindersHide$Chances"
def TX0 : u_T := fun k => match k with
  | 0 => ("FindersHide$Chances", "after", "[J", true)
  | 1 => ("FindersHide$Chances", "lying", "[J", true)
  | 2 => ("FindersHide$Chances", "found", "[J", true)
  | _ => ("FindersHide$Chances", "next", "[I", true)
def tyX0 : Nat → FieldType := fun k => match k with
  | 0 => .array .long
  | 1 => .array .long
  | 2 => .array .long
  | _ => .array .int
abbrev wsX00 : List Cond := u_ws RX0 TX0 4
theorem nmX0 : ∀ a, a < 4 → ∀ b, b < 4 → a ≠ b → (TX0 a).2.1 ≠ (TX0 b).2.1 := by decide +kernel
theorem tyX0_ok : ∀ k, k < 4 → parseFieldDescriptor (TX0 k).2.2.1 = some (tyX0 k) := by decide +kernel
abbrev cX0_init : ByteArray := prog_2_method_1_code
def yX0_init : MethodName := ⟨RX0, "<init>", "()V"⟩
abbrev cX0_goOn : ByteArray := prog_2_method_2_code
def yX0_goOn : MethodName := ⟨RX0, "goOn", "(LFindersHide$Town;LFindersHide$State;I)V"⟩
abbrev cX0_firstWeek : ByteArray := prog_2_method_3_code
def yX0_firstWeek : MethodName := ⟨RX0, "firstWeek", "(LFindersHide$Chances;LFindersHide$Town;IIJ)V"⟩
abbrev cX0_lastWeek : ByteArray := prog_2_method_4_code
def yX0_lastWeek : MethodName := ⟨RX0, "lastWeek", "(LFindersHide$Town;IJ)V"⟩
abbrev cX0_searchAll : ByteArray := prog_2_method_5_code
def yX0_searchAll : MethodName := ⟨RX0, "searchAll", "(LFindersHide$Town;I)V"⟩
abbrev cX0_share : ByteArray := prog_2_method_6_code
def yX0_share : MethodName := ⟨RX0, "share", "(JI)V"⟩
def RX1 : String := "FindersHide$ChildKind"
def TX1 : u_T := fun k => match k with
  | _ => ("FindersHide$SeekerKind", "traced", "J", false)
def tyX1 : Nat → FieldType := fun k => match k with
  | _ => .long
abbrev wsX10 : List Cond := u_ws RX1 TX1 1
theorem nmX1 : ∀ a, a < 1 → ∀ b, b < 1 → a ≠ b → (TX1 a).2.1 ≠ (TX1 b).2.1 := by decide +kernel
theorem tyX1_ok : ∀ k, k < 1 → parseFieldDescriptor (TX1 k).2.2.1 = some (tyX1 k) := by decide +kernel
abbrev cX1_init : ByteArray := prog_3_method_1_code
def yX1_init : MethodName := ⟨RX1, "<init>", "()V"⟩
abbrev cX1_worth : ByteArray := prog_3_method_2_code
def yX1_worth : MethodName := ⟨RX1, "worth", "(LFindersHide$Town;LFindersHide$State;I)I"⟩
def RX2 : String := "FindersHide$FinderKind"
def TX2 : u_T := fun k => match k with
  | _ => ("FindersHide$SeekerKind", "traced", "J", false)
def tyX2 : Nat → FieldType := fun k => match k with
  | _ => .long
abbrev wsX20 : List Cond := u_ws RX2 TX2 1
theorem nmX2 : ∀ a, a < 1 → ∀ b, b < 1 → a ≠ b → (TX2 a).2.1 ≠ (TX2 b).2.1 := by decide +kernel
theorem tyX2_ok : ∀ k, k < 1 → parseFieldDescriptor (TX2 k).2.2.1 = some (tyX2 k) := by decide +kernel
abbrev cX2_init : ByteArray := prog_4_method_1_code
def yX2_init : MethodName := ⟨RX2, "<init>", "()V"⟩
abbrev cX2_worth : ByteArray := prog_4_method_2_code
def yX2_worth : MethodName := ⟨RX2, "worth", "(LFindersHide$Town;LFindersHide$State;I)I"⟩
def RX3 : String := "FindersHide$HiderKind"
def TX3 : u_T := fun k => match k with
  | _ => ("FindersHide$SeekerKind", "traced", "J", false)
def tyX3 : Nat → FieldType := fun k => match k with
  | _ => .long
abbrev wsX30 : List Cond := u_ws RX3 TX3 1
theorem nmX3 : ∀ a, a < 1 → ∀ b, b < 1 → a ≠ b → (TX3 a).2.1 ≠ (TX3 b).2.1 := by decide +kernel
theorem tyX3_ok : ∀ k, k < 1 → parseFieldDescriptor (TX3 k).2.2.1 = some (tyX3 k) := by decide +kernel
abbrev cX3_init : ByteArray := prog_5_method_1_code
def yX3_init : MethodName := ⟨RX3, "<init>", "()V"⟩
abbrev cX3_worth : ByteArray := prog_5_method_2_code
def yX3_worth : MethodName := ⟨RX3, "worth", "(LFindersHide$Town;LFindersHide$State;I)I"⟩
def RX4 : String := "FindersHide$MayorKind"
def TX4 : u_T := fun k => match k with
  | _ => ("FindersHide$SeekerKind", "traced", "J", false)
def tyX4 : Nat → FieldType := fun k => match k with
  | _ => .long
abbrev wsX40 : List Cond := u_ws RX4 TX4 1
theorem nmX4 : ∀ a, a < 1 → ∀ b, b < 1 → a ≠ b → (TX4 a).2.1 ≠ (TX4 b).2.1 := by decide +kernel
theorem tyX4_ok : ∀ k, k < 1 → parseFieldDescriptor (TX4 k).2.2.1 = some (tyX4 k) := by decide +kernel
abbrev cX4_init : ByteArray := prog_6_method_1_code
def yX4_init : MethodName := ⟨RX4, "<init>", "()V"⟩
abbrev cX4_worth : ByteArray := prog_6_method_2_code
def yX4_worth : MethodName := ⟨RX4, "worth", "(LFindersHide$Town;LFindersHide$State;I)I"⟩
def RX5 : String := "FindersHide$OrphanKind"
def TX5 : u_T := fun k => match k with
  | _ => ("FindersHide$SeekerKind", "traced", "J", false)
def tyX5 : Nat → FieldType := fun k => match k with
  | _ => .long
abbrev wsX50 : List Cond := u_ws RX5 TX5 1
theorem nmX5 : ∀ a, a < 1 → ∀ b, b < 1 → a ≠ b → (TX5 a).2.1 ≠ (TX5 b).2.1 := by decide +kernel
theorem tyX5_ok : ∀ k, k < 1 → parseFieldDescriptor (TX5 k).2.2.1 = some (tyX5 k) := by decide +kernel
abbrev cX5_init : ByteArray := prog_7_method_1_code
def yX5_init : MethodName := ⟨RX5, "<init>", "()V"⟩
abbrev cX5_worth : ByteArray := prog_7_method_2_code
def yX5_worth : MethodName := ⟨RX5, "worth", "(LFindersHide$Town;LFindersHide$State;I)I"⟩
def RX6 : String := "FindersHide$SeekerKind"
def TX6 : u_T := fun k => match k with
  | _ => ("FindersHide$SeekerKind", "traced", "J", false)
def tyX6 : Nat → FieldType := fun k => match k with
  | _ => .long
abbrev wsX60 : List Cond := u_ws RX6 TX6 1
theorem nmX6 : ∀ a, a < 1 → ∀ b, b < 1 → a ≠ b → (TX6 a).2.1 ≠ (TX6 b).2.1 := by decide +kernel
theorem tyX6_ok : ∀ k, k < 1 → parseFieldDescriptor (TX6 k).2.2.1 = some (tyX6 k) := by decide +kernel
abbrev cX6_init : ByteArray := prog_8_method_1_code
def yX6_init : MethodName := ⟨RX6, "<init>", "()V"⟩
abbrev cX6_worth : ByteArray := prog_8_method_2_code
def yX6_worth : MethodName := ⟨RX6, "worth", "(LFindersHide$Town;LFindersHide$State;I)I"⟩
def RX7 : String := "FindersHide$State"
def TX7 : u_T := fun k => match k with
  | 0 => ("FindersHide$State", "ring", "I", false)
  | 1 => ("FindersHide$State", "week", "I", false)
  | 2 => ("FindersHide$State", "lot", "I", false)
  | 3 => ("FindersHide$State", "seen", "I", false)
  | 4 => ("FindersHide$State", "next", "[I", true)
  | 5 => ("FindersHide$State", "had", "[I", true)
  | 6 => ("FindersHide$State", "seenWeek", "[I", true)
  | 7 => ("FindersHide$State", "seenSeeker", "[I", true)
  | _ => ("FindersHide$State", "seenFound", "[I", true)
def tyX7 : Nat → FieldType := fun k => match k with
  | 0 => .int
  | 1 => .int
  | 2 => .int
  | 3 => .int
  | 4 => .array .int
  | 5 => .array .int
  | 6 => .array .int
  | 7 => .array .int
  | _ => .array .int
abbrev wsX70 : List Cond := u_ws RX7 TX7 9
theorem nmX7 : ∀ a, a < 9 → ∀ b, b < 9 → a ≠ b → (TX7 a).2.1 ≠ (TX7 b).2.1 := by decide +kernel
theorem tyX7_ok : ∀ k, k < 9 → parseFieldDescriptor (TX7 k).2.2.1 = some (tyX7 k) := by decide +kernel
abbrev cX7_init : ByteArray := prog_9_method_1_code
def yX7_init : MethodName := ⟨RX7, "<init>", "()V"⟩
abbrev cX7_begin : ByteArray := prog_9_method_2_code
def yX7_begin : MethodName := ⟨RX7, "begin", "(I)V"⟩
abbrev cX7_becomeAs : ByteArray := prog_9_method_3_code
def yX7_becomeAs : MethodName := ⟨RX7, "becomeAs", "(LFindersHide$State;)V"⟩
abbrev cX7_passWeek : ByteArray := prog_9_method_4_code
def yX7_passWeek : MethodName := ⟨RX7, "passWeek", "(LFindersHide$Town;I)I"⟩
abbrev cX7_foundBy : ByteArray := prog_9_method_5_code
def yX7_foundBy : MethodName := ⟨RX7, "foundBy", "(ILFindersHide$Town;I)V"⟩
abbrev cX7_draw : ByteArray := prog_9_method_6_code
def yX7_draw : MethodName := ⟨RX7, "draw", "(I)I"⟩
abbrev cX7_hadByAll : ByteArray := prog_9_method_7_code
def yX7_hadByAll : MethodName := ⟨RX7, "hadByAll", "()I"⟩
abbrev cX7_addSeen : ByteArray := prog_9_method_8_code
def yX7_addSeen : MethodName := ⟨RX7, "addSeen", "(III)V"⟩
abbrev cX7_sawNoOther : ByteArray := prog_9_method_9_code
def yX7_sawNoOther : MethodName := ⟨RX7, "sawNoOther", "(II)Z"⟩
def RX8 : String := "FindersHide$Text"
def TX8 : u_T := fun k => match k with
  | 0 => ("FindersHide$Text", "length", "I", false)
  | 1 => ("FindersHide$Text", "bytes", "[I", true)
  | 2 => ("FindersHide$Text", "at", "I", false)
  | 3 => ("FindersHide$Text", "start", "I", false)
  | 4 => ("FindersHide$Text", "token", "I", false)
  | 5 => ("FindersHide$Text", "number", "I", false)
  | 6 => ("FindersHide$Text", "ringTold", "Z", false)
  | _ => ("FindersHide$Text", "lawTold", "Z", false)
def tyX8 : Nat → FieldType := fun k => match k with
  | 0 => .int
  | 1 => .array .int
  | 2 => .int
  | 3 => .int
  | 4 => .int
  | 5 => .int
  | 6 => .boolean
  | _ => .boolean
abbrev wsX80 : List Cond := u_ws RX8 TX8 8
theorem nmX8 : ∀ a, a < 8 → ∀ b, b < 8 → a ≠ b → (TX8 a).2.1 ≠ (TX8 b).2.1 := by decide +kernel
theorem tyX8_ok : ∀ k, k < 8 → parseFieldDescriptor (TX8 k).2.2.1 = some (tyX8 k) := by decide +kernel
abbrev cX8_init : ByteArray := prog_10_method_1_code
def yX8_init : MethodName := ⟨RX8, "<init>", "()V"⟩
abbrev cX8_append : ByteArray := prog_10_method_2_code
def yX8_append : MethodName := ⟨RX8, "append", "(JI)V"⟩
abbrev cX8_tellTo : ByteArray := prog_10_method_3_code
def yX8_tellTo : MethodName := ⟨RX8, "tellTo", "(LFindersHide$Town;)I"⟩
abbrev cX8_readsItem : ByteArray := prog_10_method_4_code
def yX8_readsItem : MethodName := ⟨RX8, "readsItem", "(LFindersHide$Town;)Z"⟩
abbrev cX8_readsPlace : ByteArray := prog_10_method_5_code
def yX8_readsPlace : MethodName := ⟨RX8, "readsPlace", "(LFindersHide$Town;)Z"⟩
abbrev cX8_readsSeeker : ByteArray := prog_10_method_6_code
def yX8_readsSeeker : MethodName := ⟨RX8, "readsSeeker", "(LFindersHide$Town;)Z"⟩
abbrev cX8_readsRing : ByteArray := prog_10_method_7_code
def yX8_readsRing : MethodName := ⟨RX8, "readsRing", "(LFindersHide$Town;)Z"⟩
abbrev cX8_readsLaw : ByteArray := prog_10_method_8_code
def yX8_readsLaw : MethodName := ⟨RX8, "readsLaw", "(LFindersHide$Town;)Z"⟩
abbrev cX8_isNumber : ByteArray := prog_10_method_9_code
def yX8_isNumber : MethodName := ⟨RX8, "isNumber", "(II)Z"⟩
abbrev cX8_readToken : ByteArray := prog_10_method_10_code
def yX8_readToken : MethodName := ⟨RX8, "readToken", "()V"⟩
abbrev cX8_readWord : ByteArray := prog_10_method_11_code
def yX8_readWord : MethodName := ⟨RX8, "readWord", "()V"⟩
abbrev cX8_readDigits : ByteArray := prog_10_method_12_code
def yX8_readDigits : MethodName := ⟨RX8, "readDigits", "()V"⟩
abbrev cX8_isLetter : ByteArray := prog_10_method_13_code
def yX8_isLetter : MethodName := ⟨RX8, "isLetter", "(I)Z"⟩
abbrev cX8_isDigit : ByteArray := prog_10_method_14_code
def yX8_isDigit : MethodName := ⟨RX8, "isDigit", "(I)Z"⟩
abbrev cX8_isWord : ByteArray := prog_10_method_15_code
def yX8_isWord : MethodName := ⟨RX8, "isWord", "(Ljava/lang/String;)Z"⟩
def RX9 : String := "FindersHide$Town"
def TX9 : u_T := fun k => match k with
  | 0 => ("FindersHide$Town", "places", "I", false)
  | 1 => ("FindersHide$Town", "seekers", "I", false)
  | 2 => ("FindersHide$Town", "law", "I", false)
  | 3 => ("FindersHide$Town", "ring", "I", false)
  | 4 => ("FindersHide$Town", "hardOfAll", "I", false)
  | 5 => ("FindersHide$Town", "hard", "[I", true)
  | 6 => ("FindersHide$Town", "noWorse", "[I", true)
  | 7 => ("FindersHide$Town", "nearest", "[I", true)
  | 8 => ("FindersHide$Town", "farthest", "[I", true)
  | 9 => ("FindersHide$Town", "order", "[I", true)
  | 10 => ("FindersHide$Town", "minutes", "[I", true)
  | 11 => ("FindersHide$Town", "lengths", "[I", true)
  | 12 => ("FindersHide$Town", "habits", "[[I", true)
  | 13 => ("FindersHide$Town", "reach", "[[I", true)
  | _ => ("FindersHide$Town", "stop", "[[I", true)
def tyX9 : Nat → FieldType := fun k => match k with
  | 0 => .int
  | 1 => .int
  | 2 => .int
  | 3 => .int
  | 4 => .int
  | 5 => .array .int
  | 6 => .array .int
  | 7 => .array .int
  | 8 => .array .int
  | 9 => .array .int
  | 10 => .array .int
  | 11 => .array .int
  | 12 => .array (.array .int)
  | 13 => .array (.array .int)
  | _ => .array (.array .int)
abbrev wsX90 : List Cond := u_ws RX9 TX9 15
theorem nmX9 : ∀ a, a < 15 → ∀ b, b < 15 → a ≠ b → (TX9 a).2.1 ≠ (TX9 b).2.1 := by decide +kernel
theorem tyX9_ok : ∀ k, k < 15 → parseFieldDescriptor (TX9 k).2.2.1 = some (tyX9 k) := by decide +kernel
abbrev cX9_init : ByteArray := prog_11_method_1_code
def yX9_init : MethodName := ⟨RX9, "<init>", "()V"⟩
abbrev cX9_isPlace : ByteArray := prog_11_method_2_code
def yX9_isPlace : MethodName := ⟨RX9, "isPlace", "(I)Z"⟩
abbrev cX9_isSeeker : ByteArray := prog_11_method_3_code
def yX9_isSeeker : MethodName := ⟨RX9, "isSeeker", "(I)Z"⟩
abbrev cX9_empty : ByteArray := prog_11_method_4_code
def yX9_empty : MethodName := ⟨RX9, "empty", "()V"⟩
abbrev cX9_addPlace : ByteArray := prog_11_method_5_code
def yX9_addPlace : MethodName := ⟨RX9, "addPlace", "(I)V"⟩
abbrev cX9_addSeeker : ByteArray := prog_11_method_6_code
def yX9_addSeeker : MethodName := ⟨RX9, "addSeeker", "(I)V"⟩
abbrev cX9_addHabit : ByteArray := prog_11_method_7_code
def yX9_addHabit : MethodName := ⟨RX9, "addHabit", "(I)V"⟩
abbrev cX9_settle : ByteArray := prog_11_method_8_code
def yX9_settle : MethodName := ⟨RX9, "settle", "()V"⟩
abbrev cX9_settleOrder : ByteArray := prog_11_method_9_code
def yX9_settleOrder : MethodName := ⟨RX9, "settleOrder", "()V"⟩
abbrev cX9_settleNoWorse : ByteArray := prog_11_method_10_code
def yX9_settleNoWorse : MethodName := ⟨RX9, "settleNoWorse", "(I)V"⟩
abbrev cX9_settleReach : ByteArray := prog_11_method_11_code
def yX9_settleReach : MethodName := ⟨RX9, "settleReach", "(II)V"⟩
abbrev cX9_behind : ByteArray := prog_11_method_12_code
def yX9_behind : MethodName := ⟨RX9, "behind", "(II)I"⟩
abbrev cX9_finds : ByteArray := prog_11_method_13_code
def yX9_finds : MethodName := ⟨RX9, "finds", "(III)Z"⟩
abbrev cX9_stopsAt : ByteArray := prog_11_method_14_code
def yX9_stopsAt : MethodName := ⟨RX9, "stopsAt", "(III)I"⟩
abbrev cX9_minutesOfFirst : ByteArray := prog_11_method_15_code
def yX9_minutesOfFirst : MethodName := ⟨RX9, "minutesOfFirst", "()I"⟩
def RX10 : String := "FindersHide"
def TX10 : u_T := fun k => match k with
  | 0 => ("FindersHide", "text", "LFindersHide$Text;", true)
  | 1 => ("FindersHide", "town", "LFindersHide$Town;", false)
  | 2 => ("FindersHide", "spare", "LFindersHide$Town;", false)
  | 3 => ("FindersHide", "state", "LFindersHide$State;", true)
  | 4 => ("FindersHide", "trial", "LFindersHide$State;", true)
  | 5 => ("FindersHide", "images", "[LFindersHide$State;", true)
  | 6 => ("FindersHide", "kept", "[Z", true)
  | 7 => ("FindersHide", "chances", "LFindersHide$Chances;", true)
  | _ => ("FindersHide", "kinds", "[LFindersHide$SeekerKind;", true)
def tyX10 : Nat → FieldType := fun k => match k with
  | 0 => .object "FindersHide$Text"
  | 1 => .object "FindersHide$Town"
  | 2 => .object "FindersHide$Town"
  | 3 => .object "FindersHide$State"
  | 4 => .object "FindersHide$State"
  | 5 => .array (.object "FindersHide$State")
  | 6 => .array .boolean
  | 7 => .object "FindersHide$Chances"
  | _ => .array (.object "FindersHide$SeekerKind")
abbrev wsX100 : List Cond := u_ws RX10 TX10 9
theorem nmX10 : ∀ a, a < 9 → ∀ b, b < 9 → a ≠ b → (TX10 a).2.1 ≠ (TX10 b).2.1 := by decide +kernel
theorem tyX10_ok : ∀ k, k < 9 → parseFieldDescriptor (TX10 k).2.2.1 = some (tyX10 k) := by decide +kernel
abbrev cX10_init : ByteArray := prog_1_method_1_code
def yX10_init : MethodName := ⟨RX10, "<init>", "()V"⟩
abbrev cX10_type : ByteArray := prog_1_method_2_code
def yX10_type : MethodName := ⟨RX10, "type", "(JI)I"⟩
abbrev cX10_clear : ByteArray := prog_1_method_3_code
def yX10_clear : MethodName := ⟨RX10, "clear", "()I"⟩
abbrev cX10_town : ByteArray := prog_1_method_4_code
def yX10_town : MethodName := ⟨RX10, "town", "()I"⟩
abbrev cX10_place : ByteArray := prog_1_method_5_code
def yX10_place : MethodName := ⟨RX10, "place", "(II)I"⟩
abbrev cX10_seeker : ByteArray := prog_1_method_6_code
def yX10_seeker : MethodName := ⟨RX10, "seeker", "(II)I"⟩
abbrev cX10_habit : ByteArray := prog_1_method_7_code
def yX10_habit : MethodName := ⟨RX10, "habit", "(II)I"⟩
abbrev cX10_puts : ByteArray := prog_1_method_8_code
def yX10_puts : MethodName := ⟨RX10, "puts", "(I)I"⟩
abbrev cX10_looks : ByteArray := prog_1_method_9_code
def yX10_looks : MethodName := ⟨RX10, "looks", "(II)I"⟩
abbrev cX10_week : ByteArray := prog_1_method_10_code
def yX10_week : MethodName := ⟨RX10, "week", "()I"⟩
abbrev cX10_now : ByteArray := prog_1_method_11_code
def yX10_now : MethodName := ⟨RX10, "now", "(I)I"⟩
abbrev cX10_lot : ByteArray := prog_1_method_12_code
def yX10_lot : MethodName := ⟨RX10, "lot", "(I)I"⟩
abbrev cX10_lies : ByteArray := prog_1_method_13_code
def yX10_lies : MethodName := ⟨RX10, "lies", "(I)I"⟩
abbrev cX10_longest : ByteArray := prog_1_method_14_code
def yX10_longest : MethodName := ⟨RX10, "longest", "()I"⟩
abbrev cX10_odds : ByteArray := prog_1_method_15_code
def yX10_odds : MethodName := ⟨RX10, "odds", "(III)J"⟩
abbrev cX10_lots : ByteArray := prog_1_method_16_code
def yX10_lots : MethodName := ⟨RX10, "lots", "(II)I"⟩
abbrev cX10_sweep : ByteArray := prog_1_method_17_code
def yX10_sweep : MethodName := ⟨RX10, "sweep", "(I)I"⟩
abbrev cX10_order : ByteArray := prog_1_method_18_code
def yX10_order : MethodName := ⟨RX10, "order", "(I)I"⟩
abbrev cX10_saw : ByteArray := prog_1_method_19_code
def yX10_saw : MethodName := ⟨RX10, "saw", "(III)I"⟩
abbrev cX10_forget : ByteArray := prog_1_method_20_code
def yX10_forget : MethodName := ⟨RX10, "forget", "()I"⟩
abbrev cX10_could : ByteArray := prog_1_method_21_code
def yX10_could : MethodName := ⟨RX10, "could", "(I)I"⟩
abbrev cX10_mark : ByteArray := prog_1_method_22_code
def yX10_mark : MethodName := ⟨RX10, "mark", "(II)I"⟩
abbrev cX10_keep : ByteArray := prog_1_method_23_code
def yX10_keep : MethodName := ⟨RX10, "keep", "(I)I"⟩
abbrev cX10_back : ByteArray := prog_1_method_24_code
def yX10_back : MethodName := ⟨RX10, "back", "(I)I"⟩
abbrev cX10_count : ByteArray := prog_1_method_25_code
def yX10_count : MethodName := ⟨RX10, "count", "(I)I"⟩
abbrev cX10_trace : ByteArray := prog_1_method_26_code
def yX10_trace : MethodName := ⟨RX10, "trace", "()J"⟩
abbrev cX10_weeksLying : ByteArray := prog_1_method_27_code
def yX10_weeksLying : MethodName := ⟨RX10, "weeksLying", "(I)I"⟩
abbrev cX10_canHaveBegunAt : ByteArray := prog_1_method_28_code
def yX10_canHaveBegunAt : MethodName := ⟨RX10, "canHaveBegunAt", "(I)Z"⟩
abbrev cX10_leastTerm : ByteArray := prog_1_method_29_code
def yX10_leastTerm : MethodName := ⟨RX10, "leastTerm", "(JJI)J"⟩
def RX11 : String := "FindersHideModel"
def TX11 : u_T := fun k => match k with
  | 0 => ("FindersHideModel", "trace", "J", false)
  | 1 => ("FindersHideModel", "lot", "I", false)
  | 2 => ("FindersHideModel", "text", "[I", true)
  | 3 => ("FindersHideModel", "typed", "I", false)
  | 4 => ("FindersHideModel", "told", "[I", true)
  | 5 => ("FindersHideModel", "draft", "[I", true)
  | 6 => ("FindersHideModel", "s", "[I", true)
  | 7 => ("FindersHideModel", "images", "[I", true)
  | 8 => ("FindersHideModel", "kept", "[Z", true)
  | 9 => ("FindersHideModel", "at", "I", false)
  | 10 => ("FindersHideModel", "sort", "I", false)
  | 11 => ("FindersHideModel", "start", "I", false)
  | 12 => ("FindersHideModel", "size", "I", false)
  | 13 => ("FindersHideModel", "ring", "I", false)
  | 14 => ("FindersHideModel", "next", "[I", true)
  | 15 => ("FindersHideModel", "finders", "I", false)
  | 16 => ("FindersHideModel", "how", "I", false)
  | 17 => ("FindersHideModel", "ahead", "[J", true)
  | 18 => ("FindersHideModel", "behind", "[J", true)
  | _ => ("FindersHideModel", "lots", "[I", true)
def tyX11 : Nat → FieldType := fun k => match k with
  | 0 => .long
  | 1 => .int
  | 2 => .array .int
  | 3 => .int
  | 4 => .array .int
  | 5 => .array .int
  | 6 => .array .int
  | 7 => .array .int
  | 8 => .array .boolean
  | 9 => .int
  | 10 => .int
  | 11 => .int
  | 12 => .int
  | 13 => .int
  | 14 => .array .int
  | 15 => .int
  | 16 => .int
  | 17 => .array .long
  | 18 => .array .long
  | _ => .array .int
abbrev wsX110 : List Cond := u_ws RX11 TX11 20
theorem nmX11 : ∀ a, a < 20 → ∀ b, b < 20 → a ≠ b → (TX11 a).2.1 ≠ (TX11 b).2.1 := by decide +kernel
theorem tyX11_ok : ∀ k, k < 20 → parseFieldDescriptor (TX11 k).2.2.1 = some (tyX11 k) := by decide +kernel
abbrev cX11_init : ByteArray := prog_13_method_1_code
def yX11_init : MethodName := ⟨RX11, "<init>", "()V"⟩
abbrev cX11_in : ByteArray := prog_13_method_3_code
def yX11_in : MethodName := ⟨RX11, "in", "(III)Z"⟩
abbrev cX11_isPlace : ByteArray := prog_13_method_4_code
def yX11_isPlace : MethodName := ⟨RX11, "isPlace", "(I)Z"⟩
abbrev cX11_isSeeker : ByteArray := prog_13_method_5_code
def yX11_isSeeker : MethodName := ⟨RX11, "isSeeker", "(I)Z"⟩
abbrev cX11_type : ByteArray := prog_13_method_6_code
def yX11_type : MethodName := ⟨RX11, "type", "(JI)I"⟩
abbrev cX11_clear : ByteArray := prog_13_method_7_code
def yX11_clear : MethodName := ⟨RX11, "clear", "()I"⟩
abbrev cX11_byteAt : ByteArray := prog_13_method_8_code
def yX11_byteAt : MethodName := ⟨RX11, "byteAt", "(I)I"⟩
abbrev cX11_sortOf : ByteArray := prog_13_method_9_code
def yX11_sortOf : MethodName := ⟨RX11, "sortOf", "(I)I"⟩
abbrev cX11_token : ByteArray := prog_13_method_10_code
def yX11_token : MethodName := ⟨RX11, "token", "()V"⟩
abbrev cX11_verb : ByteArray := prog_13_method_11_code
def yX11_verb : MethodName := ⟨RX11, "verb", "()I"⟩
abbrev cX11_figure : ByteArray := prog_13_method_12_code
def yX11_figure : MethodName := ⟨RX11, "figure", "(II)I"⟩
abbrev cX11_number : ByteArray := prog_13_method_13_code
def yX11_number : MethodName := ⟨RX11, "number", "(II)I"⟩
abbrev cX11_readsPlace : ByteArray := prog_13_method_14_code
def yX11_readsPlace : MethodName := ⟨RX11, "readsPlace", "()Z"⟩
abbrev cX11_readsSeeker : ByteArray := prog_13_method_15_code
def yX11_readsSeeker : MethodName := ⟨RX11, "readsSeeker", "()Z"⟩
abbrev cX11_once : ByteArray := prog_13_method_16_code
def yX11_once : MethodName := ⟨RX11, "once", "(III)Z"⟩
abbrev cX11_readsItem : ByteArray := prog_13_method_17_code
def yX11_readsItem : MethodName := ⟨RX11, "readsItem", "(I)Z"⟩
abbrev cX11_reads : ByteArray := prog_13_method_18_code
def yX11_reads : MethodName := ⟨RX11, "reads", "()Z"⟩
abbrev cX11_town : ByteArray := prog_13_method_19_code
def yX11_town : MethodName := ⟨RX11, "town", "()I"⟩
abbrev cX11_noWorse : ByteArray := prog_13_method_20_code
def yX11_noWorse : MethodName := ⟨RX11, "noWorse", "(I)I"⟩
abbrev cX11_place : ByteArray := prog_13_method_21_code
def yX11_place : MethodName := ⟨RX11, "place", "(II)I"⟩
abbrev cX11_seeker : ByteArray := prog_13_method_22_code
def yX11_seeker : MethodName := ⟨RX11, "seeker", "(II)I"⟩
abbrev cX11_habit : ByteArray := prog_13_method_23_code
def yX11_habit : MethodName := ⟨RX11, "habit", "(II)I"⟩
abbrev cX11_starts : ByteArray := prog_13_method_24_code
def yX11_starts : MethodName := ⟨RX11, "starts", "(IZ)V"⟩
abbrev cX11_ones : ByteArray := prog_13_method_25_code
def yX11_ones : MethodName := ⟨RX11, "ones", "(I)I"⟩
abbrev cX11_member : ByteArray := prog_13_method_26_code
def yX11_member : MethodName := ⟨RX11, "member", "(II)I"⟩
abbrev cX11_drawn : ByteArray := prog_13_method_27_code
def yX11_drawn : MethodName := ⟨RX11, "drawn", "(I)I"⟩
abbrev cX11_hides : ByteArray := prog_13_method_28_code
def yX11_hides : MethodName := ⟨RX11, "hides", "()V"⟩
abbrev cX11_finds : ByteArray := prog_13_method_29_code
def yX11_finds : MethodName := ⟨RX11, "finds", "(I)Z"⟩
abbrev cX11_plays : ByteArray := prog_13_method_30_code
def yX11_plays : MethodName := ⟨RX11, "plays", "()I"⟩
abbrev cX11_puts : ByteArray := prog_13_method_31_code
def yX11_puts : MethodName := ⟨RX11, "puts", "(I)I"⟩
abbrev cX11_looks : ByteArray := prog_13_method_32_code
def yX11_looks : MethodName := ⟨RX11, "looks", "(II)I"⟩
abbrev cX11_week : ByteArray := prog_13_method_33_code
def yX11_week : MethodName := ⟨RX11, "week", "()I"⟩
abbrev cX11_now : ByteArray := prog_13_method_34_code
def yX11_now : MethodName := ⟨RX11, "now", "(I)I"⟩
abbrev cX11_lot : ByteArray := prog_13_method_35_code
def yX11_lot : MethodName := ⟨RX11, "lot", "(I)I"⟩
abbrev cX11_firstWeek : ByteArray := prog_13_method_36_code
def yX11_firstWeek : MethodName := ⟨RX11, "firstWeek", "(I)I"⟩
abbrev cX11_lies : ByteArray := prog_13_method_37_code
def yX11_lies : MethodName := ⟨RX11, "lies", "(I)I"⟩
abbrev cX11_longest : ByteArray := prog_13_method_38_code
def yX11_longest : MethodName := ⟨RX11, "longest", "()I"⟩
abbrev cX11_divisor : ByteArray := prog_13_method_39_code
def yX11_divisor : MethodName := ⟨RX11, "divisor", "(JJ)J"⟩
abbrev cX11_part : ByteArray := prog_13_method_40_code
def yX11_part : MethodName := ⟨RX11, "part", "(JJI)J"⟩
abbrev cX11_state : ByteArray := prog_13_method_41_code
def yX11_state : MethodName := ⟨RX11, "state", "()I"⟩
abbrev cX11_isAt : ByteArray := prog_13_method_42_code
def yX11_isAt : MethodName := ⟨RX11, "isAt", "(I)V"⟩
abbrev cX11_spreads : ByteArray := prog_13_method_43_code
def yX11_spreads : MethodName := ⟨RX11, "spreads", "(II)V"⟩
abbrev cX11_spreadsAll : ByteArray := prog_13_method_44_code
def yX11_spreadsAll : MethodName := ⟨RX11, "spreadsAll", "(I)V"⟩
abbrev cX11_odds : ByteArray := prog_13_method_45_code
def yX11_odds : MethodName := ⟨RX11, "odds", "(III)J"⟩
abbrev cX11_allHard : ByteArray := prog_13_method_46_code
def yX11_allHard : MethodName := ⟨RX11, "allHard", "()I"⟩
abbrev cX11_lots : ByteArray := prog_13_method_47_code
def yX11_lots : MethodName := ⟨RX11, "lots", "(II)I"⟩
abbrev cX11_rank : ByteArray := prog_13_method_48_code
def yX11_rank : MethodName := ⟨RX11, "rank", "(I)I"⟩
abbrev cX11_sweep : ByteArray := prog_13_method_49_code
def yX11_sweep : MethodName := ⟨RX11, "sweep", "(I)I"⟩
abbrev cX11_order : ByteArray := prog_13_method_50_code
def yX11_order : MethodName := ⟨RX11, "order", "(I)I"⟩
abbrev cX11_saw : ByteArray := prog_13_method_51_code
def yX11_saw : MethodName := ⟨RX11, "saw", "(III)I"⟩
abbrev cX11_forget : ByteArray := prog_13_method_52_code
def yX11_forget : MethodName := ⟨RX11, "forget", "()I"⟩
abbrev cX11_began : ByteArray := prog_13_method_53_code
def yX11_began : MethodName := ⟨RX11, "began", "(I)Z"⟩
abbrev cX11_could : ByteArray := prog_13_method_54_code
def yX11_could : MethodName := ⟨RX11, "could", "(I)I"⟩
abbrev cX11_mark : ByteArray := prog_13_method_55_code
def yX11_mark : MethodName := ⟨RX11, "mark", "(II)I"⟩
abbrev cX11_keep : ByteArray := prog_13_method_56_code
def yX11_keep : MethodName := ⟨RX11, "keep", "(I)I"⟩
abbrev cX11_back : ByteArray := prog_13_method_57_code
def yX11_back : MethodName := ⟨RX11, "back", "(I)I"⟩
abbrev cX11_count : ByteArray := prog_13_method_58_code
def yX11_count : MethodName := ⟨RX11, "count", "(I)I"⟩
abbrev cX11_trace : ByteArray := prog_13_method_59_code
def yX11_trace : MethodName := ⟨RX11, "trace", "()J"⟩
def RJx145de : String := "java/io/Serializable"
def TJx145de : u_T := fun k => match k with
  | _ => ("", "", "", false)
def tyJx145de : Nat → FieldType := fun k => match k with
  | _ => .int
abbrev wsJx145de0 : List Cond := u_ws RJx145de TJx145de 0
theorem nmJx145de : ∀ a, a < 0 → ∀ b, b < 0 → a ≠ b → (TJx145de a).2.1 ≠ (TJx145de b).2.1 := by decide +kernel
theorem tyJx145de_ok : ∀ k, k < 0 → parseFieldDescriptor (TJx145de k).2.2.1 = some (tyJx145de k) := by decide +kernel
def RJx9f9b0 : String := "java/lang/CharSequence"
def TJx9f9b0 : u_T := fun k => match k with
  | _ => ("", "", "", false)
def tyJx9f9b0 : Nat → FieldType := fun k => match k with
  | _ => .int
abbrev wsJx9f9b00 : List Cond := u_ws RJx9f9b0 TJx9f9b0 0
theorem nmJx9f9b0 : ∀ a, a < 0 → ∀ b, b < 0 → a ≠ b → (TJx9f9b0 a).2.1 ≠ (TJx9f9b0 b).2.1 := by decide +kernel
theorem tyJx9f9b0_ok : ∀ k, k < 0 → parseFieldDescriptor (TJx9f9b0 k).2.2.1 = some (tyJx9f9b0 k) := by decide +kernel
def RJxb160c : String := "java/lang/Comparable"
def TJxb160c : u_T := fun k => match k with
  | _ => ("", "", "", false)
def tyJxb160c : Nat → FieldType := fun k => match k with
  | _ => .int
abbrev wsJxb160c0 : List Cond := u_ws RJxb160c TJxb160c 0
theorem nmJxb160c : ∀ a, a < 0 → ∀ b, b < 0 → a ≠ b → (TJxb160c a).2.1 ≠ (TJxb160c b).2.1 := by decide +kernel
theorem tyJxb160c_ok : ∀ k, k < 0 → parseFieldDescriptor (TJxb160c k).2.2.1 = some (tyJxb160c k) := by decide +kernel
def RJ6 : String := "java/lang/Integer"
def TJ6 : u_T := fun k => match k with
  | _ => ("", "", "", false)
def tyJ6 : Nat → FieldType := fun k => match k with
  | _ => .int
abbrev wsJ60 : List Cond := u_ws RJ6 TJ6 0
theorem nmJ6 : ∀ a, a < 0 → ∀ b, b < 0 → a ≠ b → (TJ6 a).2.1 ≠ (TJ6 b).2.1 := by decide +kernel
theorem tyJ6_ok : ∀ k, k < 0 → parseFieldDescriptor (TJ6 k).2.2.1 = some (tyJ6 k) := by decide +kernel
abbrev cJ6_bitCount_0f7a4 : ByteArray := prog_14_method_49_code
def yJ6_bitCount_0f7a4 : MethodName := ⟨RJ6, "bitCount", "(I)I"⟩
def RJ9 : String := "java/lang/Math"
def TJ9 : u_T := fun k => match k with
  | _ => ("", "", "", false)
def tyJ9 : Nat → FieldType := fun k => match k with
  | _ => .int
abbrev wsJ90 : List Cond := u_ws RJ9 TJ9 0
theorem nmJ9 : ∀ a, a < 0 → ∀ b, b < 0 → a ≠ b → (TJ9 a).2.1 ≠ (TJ9 b).2.1 := by decide +kernel
theorem tyJ9_ok : ∀ k, k < 0 → parseFieldDescriptor (TJ9 k).2.2.1 = some (tyJ9 k) := by decide +kernel
abbrev cJ9_max_7cf53 : ByteArray := prog_15_method_65_code
def yJ9_max_7cf53 : MethodName := ⟨RJ9, "max", "(II)I"⟩
abbrev cJ9_min_7cf53 : ByteArray := prog_15_method_69_code
def yJ9_min_7cf53 : MethodName := ⟨RJ9, "min", "(II)I"⟩
def RJ0 : String := "java/lang/String"
def TJ0 : u_T := fun k => match k with
  | _ => ("", "", "", false)
def tyJ0 : Nat → FieldType := fun k => match k with
  | _ => .int
abbrev wsJ00 : List Cond := u_ws RJ0 TJ0 0
theorem nmJ0 : ∀ a, a < 0 → ∀ b, b < 0 → a ≠ b → (TJ0 a).2.1 ≠ (TJ0 b).2.1 := by decide +kernel
theorem tyJ0_ok : ∀ k, k < 0 → parseFieldDescriptor (TJ0 k).2.2.1 = some (tyJ0 k) := by decide +kernel
abbrev cJ0_length_8abf5 : ByteArray := prog_16_method_54_code
def yJ0_length_8abf5 : MethodName := ⟨RJ0, "length", "()I"⟩
abbrev cJ0_charAt_5068e : ByteArray := prog_16_method_56_code
def yJ0_charAt_5068e : MethodName := ⟨RJ0, "charAt", "(I)C"⟩
abbrev cJ0_coder_7d493 : ByteArray := prog_16_method_152_code
def yJ0_coder_7d493 : MethodName := ⟨RJ0, "coder", "()B"⟩
abbrev cJ0_isLatin1_aae02 : ByteArray := prog_16_method_154_code
def yJ0_isLatin1_aae02 : MethodName := ⟨RJ0, "isLatin1", "()Z"⟩
abbrev cJ0_checkIndex_df160 : ByteArray := prog_16_method_155_code
def yJ0_checkIndex_df160 : MethodName := ⟨RJ0, "checkIndex", "(II)V"⟩
def RJ1 : String := "java/lang/StringLatin1"
def TJ1 : u_T := fun k => match k with
  | _ => ("", "", "", false)
def tyJ1 : Nat → FieldType := fun k => match k with
  | _ => .int
abbrev wsJ10 : List Cond := u_ws RJ1 TJ1 0
theorem nmJ1 : ∀ a, a < 0 → ∀ b, b < 0 → a ≠ b → (TJ1 a).2.1 ≠ (TJ1 b).2.1 := by decide +kernel
theorem tyJ1_ok : ∀ k, k < 0 → parseFieldDescriptor (TJ1 k).2.2.1 = some (tyJ1 k) := by decide +kernel
abbrev cJ1_charAt_3b067 : ByteArray := prog_17_method_2_code
def yJ1_charAt_3b067 : MethodName := ⟨RJ1, "charAt", "([BI)C"⟩
def RJ2 : String := "java/lang/StringUTF16"
def TJ2 : u_T := fun k => match k with
  | _ => ("", "", "", false)
def tyJ2 : Nat → FieldType := fun k => match k with
  | _ => .int
abbrev wsJ20 : List Cond := u_ws RJ2 TJ2 0
theorem nmJ2 : ∀ a, a < 0 → ∀ b, b < 0 → a ≠ b → (TJ2 a).2.1 ≠ (TJ2 b).2.1 := by decide +kernel
theorem tyJ2_ok : ∀ k, k < 0 → parseFieldDescriptor (TJ2 k).2.2.1 = some (tyJ2 k) := by decide +kernel
abbrev cJ2_getChar_3b067 : ByteArray := prog_18_method_5_code
def yJ2_getChar_3b067 : MethodName := ⟨RJ2, "getChar", "([BI)C"⟩
abbrev cJ2_length_9d52b : ByteArray := prog_18_method_6_code
def yJ2_length_9d52b : MethodName := ⟨RJ2, "length", "([B)I"⟩
abbrev cJ2_charAt_3b067 : ByteArray := prog_18_method_83_code
def yJ2_charAt_3b067 : MethodName := ⟨RJ2, "charAt", "([BI)C"⟩
abbrev cJ2_checkIndex_2214a : ByteArray := prog_18_method_91_code
def yJ2_checkIndex_2214a : MethodName := ⟨RJ2, "checkIndex", "(I[B)V"⟩
def RJ10 : String := "java/lang/System"
def TJ10 : u_T := fun k => match k with
  | _ => ("", "", "", false)
def tyJ10 : Nat → FieldType := fun k => match k with
  | _ => .int
abbrev wsJ100 : List Cond := u_ws RJ10 TJ10 0
theorem nmJ10 : ∀ a, a < 0 → ∀ b, b < 0 → a ≠ b → (TJ10 a).2.1 ≠ (TJ10 b).2.1 := by decide +kernel
theorem tyJ10_ok : ∀ k, k < 0 → parseFieldDescriptor (TJ10 k).2.2.1 = some (tyJ10 k) := by decide +kernel
def RJxfd54e : String := "java/lang/constant/Constable"
def TJxfd54e : u_T := fun k => match k with
  | _ => ("", "", "", false)
def tyJxfd54e : Nat → FieldType := fun k => match k with
  | _ => .int
abbrev wsJxfd54e0 : List Cond := u_ws RJxfd54e TJxfd54e 0
theorem nmJxfd54e : ∀ a, a < 0 → ∀ b, b < 0 → a ≠ b → (TJxfd54e a).2.1 ≠ (TJxfd54e b).2.1 := by decide +kernel
theorem tyJxfd54e_ok : ∀ k, k < 0 → parseFieldDescriptor (TJxfd54e k).2.2.1 = some (tyJxfd54e k) := by decide +kernel
def RJx3cf43 : String := "java/lang/constant/ConstantDesc"
def TJx3cf43 : u_T := fun k => match k with
  | _ => ("", "", "", false)
def tyJx3cf43 : Nat → FieldType := fun k => match k with
  | _ => .int
abbrev wsJx3cf430 : List Cond := u_ws RJx3cf43 TJx3cf43 0
theorem nmJx3cf43 : ∀ a, a < 0 → ∀ b, b < 0 → a ≠ b → (TJx3cf43 a).2.1 ≠ (TJx3cf43 b).2.1 := by decide +kernel
theorem tyJx3cf43_ok : ∀ k, k < 0 → parseFieldDescriptor (TJx3cf43 k).2.2.1 = some (tyJx3cf43 k) := by decide +kernel
def RJ7 : String := "java/util/Arrays"
def TJ7 : u_T := fun k => match k with
  | _ => ("", "", "", false)
def tyJ7 : Nat → FieldType := fun k => match k with
  | _ => .int
abbrev wsJ70 : List Cond := u_ws RJ7 TJ7 0
theorem nmJ7 : ∀ a, a < 0 → ∀ b, b < 0 → a ≠ b → (TJ7 a).2.1 ≠ (TJ7 b).2.1 := by decide +kernel
theorem tyJ7_ok : ∀ k, k < 0 → parseFieldDescriptor (TJ7 k).2.2.1 = some (tyJ7 k) := by decide +kernel
abbrev cJ7_fill_d0a16 : ByteArray := prog_20_method_101_code
def yJ7_fill_d0a16 : MethodName := ⟨RJ7, "fill", "([JJ)V"⟩
abbrev cJ7_fill_53178 : ByteArray := prog_20_method_103_code
def yJ7_fill_53178 : MethodName := ⟨RJ7, "fill", "([II)V"⟩
def RJ3 : String := "jdk/internal/util/Preconditions"
def TJ3 : u_T := fun k => match k with
  | _ => ("", "", "", false)
def tyJ3 : Nat → FieldType := fun k => match k with
  | _ => .int
abbrev wsJ30 : List Cond := u_ws RJ3 TJ3 0
theorem nmJ3 : ∀ a, a < 0 → ∀ b, b < 0 → a ≠ b → (TJ3 a).2.1 ≠ (TJ3 b).2.1 := by decide +kernel
theorem tyJ3_ok : ∀ k, k < 0 → parseFieldDescriptor (TJ3 k).2.2.1 = some (tyJ3 k) := by decide +kernel
abbrev cJ3_checkIndex_8e157 : ByteArray := prog_21_method_11_code
def yJ3_checkIndex_8e157 : MethodName := ⟨RJ3, "checkIndex", "(IILjava/util/function/BiFunction;)I"⟩
def RL : String := "FindersHideLaw"
abbrev cL_law : ByteArray := code
def yL_law : MethodName := ⟨RL, "law", "([I)Z"⟩
abbrev vwCl : List vw_C := [(RX0, TX0, 4), (RX1, TX1, 1), (RX2, TX2, 1), (RX3, TX3, 1), (RX4, TX4, 1), (RX5, TX5, 1), (RX6, TX6, 1), (RX7, TX7, 9), (RX8, TX8, 8), (RX9, TX9, 15), (RX10, TX10, 9), (RX11, TX11, 20)]
end
section
/-! TABLES: what the constant pools name, by class number and index, each with the place of its words in lw_tbl (written by tools/gen_tables.py) -/
abbrev zM : Type := MethodName × ByteArray × Nat × Option FieldType × Nat × Nat × Nat
def zR0 (j : Nat) : String := match j with
  | 0 => RX0
  | 1 => RX1
  | 2 => RX2
  | 3 => RX3
  | 4 => RX4
  | 5 => RX5
  | 6 => RX6
  | 7 => RX7
  | 8 => RX8
  | 9 => RX9
  | 10 => RX10
  | 11 => RX11
  | 12 => RL
  | 20 => RJ0
  | 21 => RJ1
  | 22 => RJ6
  | 23 => RJ9
  | 24 => RJ7
  | 26 => RJ10
  | 27 => RJ2
  | _ => RJ3
/-- fields: 0 int, 1 boolean, 2 long, 3 a reference -/
def zfl : List (List Nat) := [[3, 3, 3, 3], [2], [2], [2], [2], [2], [2], [0, 0, 0, 0, 3, 3, 3, 3, 3], [0, 3, 0, 0, 0, 0, 1, 1], [0, 0, 0, 0, 0, 3, 3, 3, 3, 3, 3, 3, 3, 3, 3], [3, 3, 3, 3, 3, 3, 3, 3, 3], [2, 0, 3, 0, 3, 3, 3, 3, 3, 0, 0, 0, 0, 0, 3, 0, 0, 3, 3, 3]]
def zft (kd k : Nat) : Nat := (zfl.getD kd []).getD k 9
/-! methods: name, code, locals, answer, class number, cells and slots that it makes -/
abbrev mX0_init : zM := (yX0_init, cX0_init, 1, none, 0, 4, 22)
abbrev mX0_goOn : zM := (yX0_goOn, cX0_goOn, 4, none, 0, 0, 0)
abbrev mX0_lastWeek : zM := (yX0_lastWeek, cX0_lastWeek, 6, none, 0, 0, 0)
abbrev mX0_searchAll : zM := (yX0_searchAll, cX0_searchAll, 5, none, 0, 0, 0)
abbrev mX0_share : zM := (yX0_share, cX0_share, 6, none, 0, 0, 0)
abbrev mX0_firstWeek : zM := (yX0_firstWeek, cX0_firstWeek, 10, none, 0, 0, 0)
abbrev mX1_init : zM := (yX1_init, cX1_init, 1, none, 1, 0, 0)
abbrev mX1_worth : zM := (yX1_worth, cX1_worth, 4, (some .int), 1, 0, 0)
abbrev mX2_init : zM := (yX2_init, cX2_init, 1, none, 2, 0, 0)
abbrev mX2_worth : zM := (yX2_worth, cX2_worth, 4, (some .int), 2, 0, 0)
abbrev mX3_init : zM := (yX3_init, cX3_init, 1, none, 3, 0, 0)
abbrev mX3_worth : zM := (yX3_worth, cX3_worth, 4, (some .int), 3, 0, 0)
abbrev mX4_init : zM := (yX4_init, cX4_init, 1, none, 4, 0, 0)
abbrev mX4_worth : zM := (yX4_worth, cX4_worth, 4, (some .int), 4, 0, 0)
abbrev mX5_init : zM := (yX5_init, cX5_init, 1, none, 5, 0, 0)
abbrev mX5_worth : zM := (yX5_worth, cX5_worth, 4, (some .int), 5, 0, 0)
abbrev mX6_init : zM := (yX6_init, cX6_init, 1, none, 6, 0, 0)
abbrev mX6_worth : zM := (yX6_worth, cX6_worth, 4, (some .int), 6, 0, 0)
abbrev mX7_init : zM := (yX7_init, cX7_init, 1, none, 7, 5, 32)
abbrev mX7_begin : zM := (yX7_begin, cX7_begin, 2, none, 7, 0, 0)
abbrev mX7_foundBy : zM := (yX7_foundBy, cX7_foundBy, 4, none, 7, 0, 0)
abbrev mX7_draw : zM := (yX7_draw, cX7_draw, 5, (some .int), 7, 0, 0)
abbrev mX7_passWeek : zM := (yX7_passWeek, cX7_passWeek, 6, (some .int), 7, 0, 0)
abbrev mX7_hadByAll : zM := (yX7_hadByAll, cX7_hadByAll, 3, (some .int), 7, 0, 0)
abbrev mX7_becomeAs : zM := (yX7_becomeAs, cX7_becomeAs, 3, none, 7, 0, 0)
abbrev mX7_addSeen : zM := (yX7_addSeen, cX7_addSeen, 4, none, 7, 0, 0)
abbrev mX7_sawNoOther : zM := (yX7_sawNoOther, cX7_sawNoOther, 4, (some .boolean), 7, 0, 0)
abbrev mX8_init : zM := (yX8_init, cX8_init, 1, none, 8, 1, 200)
abbrev mX8_append : zM := (yX8_append, cX8_append, 5, none, 8, 0, 0)
abbrev mX8_tellTo : zM := (yX8_tellTo, cX8_tellTo, 3, (some .int), 8, 0, 0)
abbrev mX8_readToken : zM := (yX8_readToken, cX8_readToken, 1, none, 8, 0, 0)
abbrev mX8_isLetter : zM := (yX8_isLetter, cX8_isLetter, 2, (some .boolean), 8, 0, 0)
abbrev mX8_readWord : zM := (yX8_readWord, cX8_readWord, 1, none, 8, 0, 0)
abbrev mX8_isWord : zM := (yX8_isWord, cX8_isWord, 3, (some .boolean), 8, 0, 0)
abbrev mX8_isDigit : zM := (yX8_isDigit, cX8_isDigit, 2, (some .boolean), 8, 0, 0)
abbrev mX8_readDigits : zM := (yX8_readDigits, cX8_readDigits, 2, none, 8, 0, 0)
abbrev mX8_readsItem : zM := (yX8_readsItem, cX8_readsItem, 3, (some .boolean), 8, 0, 0)
abbrev mX8_readsPlace : zM := (yX8_readsPlace, cX8_readsPlace, 2, (some .boolean), 8, 0, 0)
abbrev mX8_isNumber : zM := (yX8_isNumber, cX8_isNumber, 3, (some .boolean), 8, 0, 0)
abbrev mX8_readsSeeker : zM := (yX8_readsSeeker, cX8_readsSeeker, 3, (some .boolean), 8, 0, 0)
abbrev mX8_readsRing : zM := (yX8_readsRing, cX8_readsRing, 2, (some .boolean), 8, 0, 0)
abbrev mX8_readsLaw : zM := (yX8_readsLaw, cX8_readsLaw, 2, (some .boolean), 8, 0, 0)
abbrev mX9_init : zM := (yX9_init, cX9_init, 1, none, 9, 22, 110)
abbrev mX9_empty : zM := (yX9_empty, cX9_empty, 1, none, 9, 0, 0)
abbrev mX9_addPlace : zM := (yX9_addPlace, cX9_addPlace, 2, none, 9, 0, 0)
abbrev mX9_addSeeker : zM := (yX9_addSeeker, cX9_addSeeker, 2, none, 9, 0, 0)
abbrev mX9_isPlace : zM := (yX9_isPlace, cX9_isPlace, 2, (some .boolean), 9, 0, 0)
abbrev mX9_addHabit : zM := (yX9_addHabit, cX9_addHabit, 3, none, 9, 0, 0)
abbrev mX9_isSeeker : zM := (yX9_isSeeker, cX9_isSeeker, 2, (some .boolean), 9, 0, 0)
abbrev mX9_settle : zM := (yX9_settle, cX9_settle, 3, none, 9, 0, 0)
abbrev mX9_settleOrder : zM := (yX9_settleOrder, cX9_settleOrder, 4, none, 9, 0, 0)
abbrev mX9_settleNoWorse : zM := (yX9_settleNoWorse, cX9_settleNoWorse, 4, none, 9, 0, 0)
abbrev mX9_settleReach : zM := (yX9_settleReach, cX9_settleReach, 7, none, 9, 0, 0)
abbrev mX9_behind : zM := (yX9_behind, cX9_behind, 3, (some .int), 9, 0, 0)
abbrev mX9_finds : zM := (yX9_finds, cX9_finds, 4, (some .boolean), 9, 0, 0)
abbrev mX9_stopsAt : zM := (yX9_stopsAt, cX9_stopsAt, 6, (some .int), 9, 0, 0)
abbrev mX9_minutesOfFirst : zM := (yX9_minutesOfFirst, cX9_minutesOfFirst, 4, (some .int), 9, 0, 0)
abbrev mX10_init : zM := (yX10_init, cX10_init, 2, none, 10, 86, 664)
abbrev mX10_type : zM := (yX10_type, cX10_type, 4, (some .int), 10, 0, 0)
abbrev mX10_clear : zM := (yX10_clear, cX10_clear, 2, (some .int), 10, 0, 0)
abbrev mX10_town : zM := (yX10_town, cX10_town, 4, (some .int), 10, 0, 0)
abbrev mX10_place : zM := (yX10_place, cX10_place, 3, (some .int), 10, 0, 0)
abbrev mX10_seeker : zM := (yX10_seeker, cX10_seeker, 3, (some .int), 10, 0, 0)
abbrev mX10_habit : zM := (yX10_habit, cX10_habit, 3, (some .int), 10, 0, 0)
abbrev mX10_puts : zM := (yX10_puts, cX10_puts, 3, (some .int), 10, 0, 0)
abbrev mX10_looks : zM := (yX10_looks, cX10_looks, 3, (some .int), 10, 0, 0)
abbrev mX10_week : zM := (yX10_week, cX10_week, 1, (some .int), 10, 0, 0)
abbrev mX10_now : zM := (yX10_now, cX10_now, 2, (some .int), 10, 0, 0)
abbrev mX10_lot : zM := (yX10_lot, cX10_lot, 3, (some .int), 10, 0, 0)
abbrev mX10_lies : zM := (yX10_lies, cX10_lies, 2, (some .int), 10, 0, 0)
abbrev mX10_weeksLying : zM := (yX10_weeksLying, cX10_weeksLying, 3, (some .int), 10, 0, 0)
abbrev mX10_longest : zM := (yX10_longest, cX10_longest, 5, (some .int), 10, 0, 0)
abbrev mX10_odds : zM := (yX10_odds, cX10_odds, 4, (some .long), 10, 0, 0)
abbrev mX10_leastTerm : zM := (yX10_leastTerm, cX10_leastTerm, 12, (some .long), 10, 0, 0)
abbrev mX10_lots : zM := (yX10_lots, cX10_lots, 3, (some .int), 10, 0, 0)
abbrev mX10_sweep : zM := (yX10_sweep, cX10_sweep, 2, (some .int), 10, 0, 0)
abbrev mX10_order : zM := (yX10_order, cX10_order, 2, (some .int), 10, 0, 0)
abbrev mX10_saw : zM := (yX10_saw, cX10_saw, 4, (some .int), 10, 0, 0)
abbrev mX10_forget : zM := (yX10_forget, cX10_forget, 2, (some .int), 10, 0, 0)
abbrev mX10_could : zM := (yX10_could, cX10_could, 4, (some .int), 10, 0, 0)
abbrev mX10_canHaveBegunAt : zM := (yX10_canHaveBegunAt, cX10_canHaveBegunAt, 4, (some .boolean), 10, 0, 0)
abbrev mX10_mark : zM := (yX10_mark, cX10_mark, 3, (some .int), 10, 0, 0)
abbrev mX10_keep : zM := (yX10_keep, cX10_keep, 2, (some .int), 10, 0, 0)
abbrev mX10_back : zM := (yX10_back, cX10_back, 2, (some .int), 10, 0, 0)
abbrev mX10_count : zM := (yX10_count, cX10_count, 2, (some .int), 10, 0, 0)
abbrev mX10_trace : zM := (yX10_trace, cX10_trace, 4, (some .long), 10, 0, 0)
abbrev mX11_init : zM := (yX11_init, cX11_init, 1, none, 11, 10, 7914)
abbrev mX11_type : zM := (yX11_type, cX11_type, 5, (some .int), 11, 0, 0)
abbrev mX11_in : zM := (yX11_in, cX11_in, 3, (some .boolean), 11, 0, 0)
abbrev mX11_clear : zM := (yX11_clear, cX11_clear, 2, (some .int), 11, 0, 0)
abbrev mX11_town : zM := (yX11_town, cX11_town, 2, (some .int), 11, 0, 0)
abbrev mX11_reads : zM := (yX11_reads, cX11_reads, 2, (some .boolean), 11, 0, 0)
abbrev mX11_token : zM := (yX11_token, cX11_token, 1, none, 11, 0, 0)
abbrev mX11_byteAt : zM := (yX11_byteAt, cX11_byteAt, 2, (some .int), 11, 0, 0)
abbrev mX11_sortOf : zM := (yX11_sortOf, cX11_sortOf, 1, (some .int), 11, 0, 0)
abbrev mX11_verb : zM := (yX11_verb, cX11_verb, 4, (some .int), 11, 0, 0)
abbrev mX11_readsItem : zM := (yX11_readsItem, cX11_readsItem, 2, (some .boolean), 11, 0, 0)
abbrev mX11_readsPlace : zM := (yX11_readsPlace, cX11_readsPlace, 2, (some .boolean), 11, 0, 0)
abbrev mX11_number : zM := (yX11_number, cX11_number, 3, (some .int), 11, 0, 0)
abbrev mX11_figure : zM := (yX11_figure, cX11_figure, 5, (some .int), 11, 0, 0)
abbrev mX11_readsSeeker : zM := (yX11_readsSeeker, cX11_readsSeeker, 5, (some .boolean), 11, 0, 0)
abbrev mX11_once : zM := (yX11_once, cX11_once, 5, (some .boolean), 11, 0, 0)
abbrev mX11_place : zM := (yX11_place, cX11_place, 3, (some .int), 11, 0, 0)
abbrev mX11_isPlace : zM := (yX11_isPlace, cX11_isPlace, 2, (some .boolean), 11, 0, 0)
abbrev mX11_noWorse : zM := (yX11_noWorse, cX11_noWorse, 4, (some .int), 11, 0, 0)
abbrev mX11_seeker : zM := (yX11_seeker, cX11_seeker, 3, (some .int), 11, 0, 0)
abbrev mX11_isSeeker : zM := (yX11_isSeeker, cX11_isSeeker, 2, (some .boolean), 11, 0, 0)
abbrev mX11_habit : zM := (yX11_habit, cX11_habit, 3, (some .int), 11, 0, 0)
abbrev mX11_puts : zM := (yX11_puts, cX11_puts, 3, (some .int), 11, 0, 0)
abbrev mX11_looks : zM := (yX11_looks, cX11_looks, 3, (some .int), 11, 0, 0)
abbrev mX11_hides : zM := (yX11_hides, cX11_hides, 6, none, 11, 0, 0)
abbrev mX11_ones : zM := (yX11_ones, cX11_ones, 3, (some .int), 11, 0, 0)
abbrev mX11_drawn : zM := (yX11_drawn, cX11_drawn, 2, (some .int), 11, 0, 0)
abbrev mX11_member : zM := (yX11_member, cX11_member, 6, (some .int), 11, 0, 0)
abbrev mX11_week : zM := (yX11_week, cX11_week, 3, (some .int), 11, 0, 0)
abbrev mX11_starts : zM := (yX11_starts, cX11_starts, 4, none, 11, 0, 0)
abbrev mX11_plays : zM := (yX11_plays, cX11_plays, 3, (some .int), 11, 0, 0)
abbrev mX11_finds : zM := (yX11_finds, cX11_finds, 4, (some .boolean), 11, 0, 0)
abbrev mX11_now : zM := (yX11_now, cX11_now, 4, (some .int), 11, 0, 0)
abbrev mX11_lot : zM := (yX11_lot, cX11_lot, 3, (some .int), 11, 0, 0)
abbrev mX11_lies : zM := (yX11_lies, cX11_lies, 2, (some .int), 11, 0, 0)
abbrev mX11_firstWeek : zM := (yX11_firstWeek, cX11_firstWeek, 3, (some .int), 11, 0, 0)
abbrev mX11_longest : zM := (yX11_longest, cX11_longest, 5, (some .int), 11, 0, 0)
abbrev mX11_odds : zM := (yX11_odds, cX11_odds, 9, (some .long), 11, 0, 0)
abbrev mX11_state : zM := (yX11_state, cX11_state, 1, (some .int), 11, 0, 0)
abbrev mX11_spreadsAll : zM := (yX11_spreadsAll, cX11_spreadsAll, 3, none, 11, 0, 0)
abbrev mX11_spreads : zM := (yX11_spreads, cX11_spreads, 7, none, 11, 0, 0)
abbrev mX11_isAt : zM := (yX11_isAt, cX11_isAt, 4, none, 11, 0, 0)
abbrev mX11_part : zM := (yX11_part, cX11_part, 7, (some .long), 11, 0, 0)
abbrev mX11_divisor : zM := (yX11_divisor, cX11_divisor, 10, (some .long), 11, 0, 0)
abbrev mX11_lots : zM := (yX11_lots, cX11_lots, 3, (some .int), 11, 0, 0)
abbrev mX11_allHard : zM := (yX11_allHard, cX11_allHard, 3, (some .int), 11, 0, 0)
abbrev mX11_sweep : zM := (yX11_sweep, cX11_sweep, 4, (some .int), 11, 0, 0)
abbrev mX11_rank : zM := (yX11_rank, cX11_rank, 4, (some .int), 11, 0, 0)
abbrev mX11_order : zM := (yX11_order, cX11_order, 4, (some .int), 11, 0, 0)
abbrev mX11_saw : zM := (yX11_saw, cX11_saw, 5, (some .int), 11, 0, 0)
abbrev mX11_forget : zM := (yX11_forget, cX11_forget, 2, (some .int), 11, 0, 0)
abbrev mX11_could : zM := (yX11_could, cX11_could, 4, (some .int), 11, 0, 0)
abbrev mX11_began : zM := (yX11_began, cX11_began, 5, (some .boolean), 11, 0, 0)
abbrev mX11_mark : zM := (yX11_mark, cX11_mark, 6, (some .int), 11, 0, 0)
abbrev mX11_keep : zM := (yX11_keep, cX11_keep, 3, (some .int), 11, 0, 0)
abbrev mX11_back : zM := (yX11_back, cX11_back, 3, (some .int), 11, 0, 0)
abbrev mX11_count : zM := (yX11_count, cX11_count, 2, (some .int), 11, 0, 0)
abbrev mX11_trace : zM := (yX11_trace, cX11_trace, 1, (some .long), 11, 0, 0)
abbrev mJ0_length_8abf5 : zM := (yJ0_length_8abf5, cJ0_length_8abf5, 1, (some .int), 20, 0, 0)
abbrev mJ0_coder_7d493 : zM := (yJ0_coder_7d493, cJ0_coder_7d493, 1, (some .byte), 20, 0, 0)
abbrev mJ0_charAt_5068e : zM := (yJ0_charAt_5068e, cJ0_charAt_5068e, 2, (some .char), 20, 0, 0)
abbrev mJ0_isLatin1_aae02 : zM := (yJ0_isLatin1_aae02, cJ0_isLatin1_aae02, 1, (some .boolean), 20, 0, 0)
abbrev mJ0_checkIndex_df160 : zM := (yJ0_checkIndex_df160, cJ0_checkIndex_df160, 2, none, 20, 0, 0)
abbrev mJ1_charAt_3b067 : zM := (yJ1_charAt_3b067, cJ1_charAt_3b067, 2, (some .char), 21, 0, 0)
abbrev mJ6_bitCount_0f7a4 : zM := (yJ6_bitCount_0f7a4, cJ6_bitCount_0f7a4, 1, (some .int), 22, 0, 0)
abbrev mJ7_fill_53178 : zM := (yJ7_fill_53178, cJ7_fill_53178, 4, none, 24, 0, 0)
abbrev mJ7_fill_d0a16 : zM := (yJ7_fill_d0a16, cJ7_fill_d0a16, 5, none, 24, 0, 0)
abbrev mJ3_checkIndex_8e157 : zM := (yJ3_checkIndex_8e157, cJ3_checkIndex_8e157, 3, (some .int), 25, 0, 0)
def zMs : List zM := [mX0_init, mX0_goOn, mX0_lastWeek, mX0_searchAll, mX0_share, mX0_firstWeek, mX1_init, mX1_worth, mX2_init, mX2_worth, mX3_init, mX3_worth, mX4_init, mX4_worth, mX5_init, mX5_worth, mX6_init, mX6_worth, mX7_init, mX7_begin, mX7_foundBy, mX7_draw, mX7_passWeek, mX7_hadByAll, mX7_becomeAs, mX7_addSeen, mX7_sawNoOther, mX8_init, mX8_append, mX8_tellTo, mX8_readToken, mX8_isLetter, mX8_readWord, mX8_isWord, mX8_isDigit, mX8_readDigits, mX8_readsItem, mX8_readsPlace, mX8_isNumber, mX8_readsSeeker, mX8_readsRing, mX8_readsLaw, mX9_init, mX9_empty, mX9_addPlace, mX9_addSeeker, mX9_isPlace, mX9_addHabit, mX9_isSeeker, mX9_settle, mX9_settleOrder, mX9_settleNoWorse, mX9_settleReach, mX9_behind, mX9_finds, mX9_stopsAt, mX9_minutesOfFirst, mX10_init, mX10_type, mX10_clear, mX10_town, mX10_place, mX10_seeker, mX10_habit, mX10_puts, mX10_looks, mX10_week, mX10_now, mX10_lot, mX10_lies, mX10_weeksLying, mX10_longest, mX10_odds, mX10_leastTerm, mX10_lots, mX10_sweep, mX10_order, mX10_saw, mX10_forget, mX10_could, mX10_canHaveBegunAt, mX10_mark, mX10_keep, mX10_back, mX10_count, mX10_trace, mX11_init, mX11_type, mX11_in, mX11_clear, mX11_town, mX11_reads, mX11_token, mX11_byteAt, mX11_sortOf, mX11_verb, mX11_readsItem, mX11_readsPlace, mX11_number, mX11_figure, mX11_readsSeeker, mX11_once, mX11_place, mX11_isPlace, mX11_noWorse, mX11_seeker, mX11_isSeeker, mX11_habit, mX11_puts, mX11_looks, mX11_hides, mX11_ones, mX11_drawn, mX11_member, mX11_week, mX11_starts, mX11_plays, mX11_finds, mX11_now, mX11_lot, mX11_lies, mX11_firstWeek, mX11_longest, mX11_odds, mX11_state, mX11_spreadsAll, mX11_spreads, mX11_isAt, mX11_part, mX11_divisor, mX11_lots, mX11_allHard, mX11_sweep, mX11_rank, mX11_order, mX11_saw, mX11_forget, mX11_could, mX11_began, mX11_mark, mX11_keep, mX11_back, mX11_count, mX11_trace, mJ0_length_8abf5, mJ0_coder_7d493, mJ0_charAt_5068e, mJ0_isLatin1_aae02, mJ0_checkIndex_df160, mJ1_charAt_3b067, mJ6_bitCount_0f7a4, mJ7_fill_53178, mJ7_fill_d0a16, mJ3_checkIndex_8e157]
def zMw : List (Nat × Nat) := [(237, 53), (614, 53), (626, 53), (630, 53), (635, 53), (639, 53), (289, 56), (700, 56), (281, 55), (705, 55), (297, 57), (710, 57), (313, 59), (715, 59), (305, 58), (720, 58), (260, 54), (723, 54), (192, 52), (515, 52), (545, 52), (551, 52), (566, 52), (585, 52), (601, 52), (672, 52), (688, 52), (81, 50), (352, 50), (364, 50), (372, 50), (376, 50), (380, 50), (385, 50), (440, 50), (444, 50), (451, 50), (455, 50), (459, 50), (467, 50), (487, 50), (491, 50), (114, 51), (368, 51), (463, 51), (471, 51), (475, 51), (479, 51), (483, 51), (495, 51), (499, 51), (503, 51), (507, 51), (511, 51), (570, 51), (574, 51), (657, 51), (73, 49), (348, 49), (356, 49), (360, 49), (523, 49), (528, 49), (533, 49), (537, 49), (541, 49), (562, 49), (581, 49), (589, 49), (593, 49), (597, 49), (605, 49), (609, 49), (645, 49), (649, 49), (653, 49), (664, 49), (668, 49), (676, 49), (680, 49), (684, 49), (692, 49), (727, 49), (731, 49), (735, 49), (739, 49), (744, 60), (810, 60), (813, 60), (818, 60), (822, 60), (826, 60), (830, 60), (834, 60), (837, 60), (841, 60), (850, 60), (854, 60), (858, 60), (862, 60), (866, 60), (870, 60), (874, 60), (878, 60), (882, 60), (886, 60), (890, 60), (894, 60), (898, 60), (902, 60), (906, 60), (909, 60), (913, 60), (917, 60), (921, 60), (925, 60), (929, 60), (933, 60), (937, 60), (941, 60), (945, 60), (949, 60), (953, 60), (957, 60), (963, 60), (967, 60), (971, 60), (975, 60), (978, 60), (981, 60), (985, 60), (989, 60), (993, 60), (997, 60), (1001, 60), (1005, 60), (1009, 60), (1013, 60), (1017, 60), (1021, 60), (1031, 60), (1035, 60), (1039, 60), (1043, 60), (389, 61), (393, 61), (399, 61), (403, 61), (409, 61), (406, 62), (554, 67), (518, 66), (617, 66), (414, 63)]
def zMc (q : zM × Nat × Nat) : Bool := decide (lw_tbl[q.2.2]? = some (Cond.initialized q.1.1.cls)) && plainName q.1.1.cls && decide (q.1.1.cls = zR0 q.1.2.2.2.2.1) && decide (q.1.1.cls ≠ "java/lang/invoke/MethodHandle" ∧ q.1.1.cls ≠ "java/lang/invoke/VarHandle")
def zMd (q : zM × Nat × Nat) : Prop := lw_tbl[q.2.1]? = some (Cond.code q.1.1 q.1.2.1 q.1.2.2.1 q.1.2.2.2.1) ∧ zMc q = true
set_option maxRecDepth 20000 in
theorem zc_0 : zMd (mX0_init, 237, 53) := ⟨rfl, by decide +kernel⟩
set_option maxRecDepth 20000 in
theorem zc_1 : zMd (mX0_goOn, 614, 53) := ⟨rfl, by decide +kernel⟩
set_option maxRecDepth 20000 in
theorem zc_2 : zMd (mX0_lastWeek, 626, 53) := ⟨rfl, by decide +kernel⟩
set_option maxRecDepth 20000 in
theorem zc_3 : zMd (mX0_searchAll, 630, 53) := ⟨rfl, by decide +kernel⟩
set_option maxRecDepth 20000 in
theorem zc_4 : zMd (mX0_share, 635, 53) := ⟨rfl, by decide +kernel⟩
set_option maxRecDepth 20000 in
theorem zc_5 : zMd (mX0_firstWeek, 639, 53) := ⟨rfl, by decide +kernel⟩
set_option maxRecDepth 20000 in
theorem zc_6 : zMd (mX1_init, 289, 56) := ⟨rfl, by decide +kernel⟩
set_option maxRecDepth 20000 in
theorem zc_7 : zMd (mX1_worth, 700, 56) := ⟨rfl, by decide +kernel⟩
set_option maxRecDepth 20000 in
theorem zc_8 : zMd (mX2_init, 281, 55) := ⟨rfl, by decide +kernel⟩
set_option maxRecDepth 20000 in
theorem zc_9 : zMd (mX2_worth, 705, 55) := ⟨rfl, by decide +kernel⟩
set_option maxRecDepth 20000 in
theorem zc_10 : zMd (mX3_init, 297, 57) := ⟨rfl, by decide +kernel⟩
set_option maxRecDepth 20000 in
theorem zc_11 : zMd (mX3_worth, 710, 57) := ⟨rfl, by decide +kernel⟩
set_option maxRecDepth 20000 in
theorem zc_12 : zMd (mX4_init, 313, 59) := ⟨rfl, by decide +kernel⟩
set_option maxRecDepth 20000 in
theorem zc_13 : zMd (mX4_worth, 715, 59) := ⟨rfl, by decide +kernel⟩
set_option maxRecDepth 20000 in
theorem zc_14 : zMd (mX5_init, 305, 58) := ⟨rfl, by decide +kernel⟩
set_option maxRecDepth 20000 in
theorem zc_15 : zMd (mX5_worth, 720, 58) := ⟨rfl, by decide +kernel⟩
set_option maxRecDepth 20000 in
theorem zc_16 : zMd (mX6_init, 260, 54) := ⟨rfl, by decide +kernel⟩
set_option maxRecDepth 20000 in
theorem zc_17 : zMd (mX6_worth, 723, 54) := ⟨rfl, by decide +kernel⟩
set_option maxRecDepth 20000 in
theorem zc_18 : zMd (mX7_init, 192, 52) := ⟨rfl, by decide +kernel⟩
set_option maxRecDepth 20000 in
theorem zc_19 : zMd (mX7_begin, 515, 52) := ⟨rfl, by decide +kernel⟩
set_option maxRecDepth 20000 in
theorem zc_20 : zMd (mX7_foundBy, 545, 52) := ⟨rfl, by decide +kernel⟩
set_option maxRecDepth 20000 in
theorem zc_21 : zMd (mX7_draw, 551, 52) := ⟨rfl, by decide +kernel⟩
set_option maxRecDepth 20000 in
theorem zc_22 : zMd (mX7_passWeek, 566, 52) := ⟨rfl, by decide +kernel⟩
set_option maxRecDepth 20000 in
theorem zc_23 : zMd (mX7_hadByAll, 585, 52) := ⟨rfl, by decide +kernel⟩
set_option maxRecDepth 20000 in
theorem zc_24 : zMd (mX7_becomeAs, 601, 52) := ⟨rfl, by decide +kernel⟩
set_option maxRecDepth 20000 in
theorem zc_25 : zMd (mX7_addSeen, 672, 52) := ⟨rfl, by decide +kernel⟩
set_option maxRecDepth 20000 in
theorem zc_26 : zMd (mX7_sawNoOther, 688, 52) := ⟨rfl, by decide +kernel⟩
set_option maxRecDepth 20000 in
theorem zc_27 : zMd (mX8_init, 81, 50) := ⟨rfl, by decide +kernel⟩
set_option maxRecDepth 20000 in
theorem zc_28 : zMd (mX8_append, 352, 50) := ⟨rfl, by decide +kernel⟩
set_option maxRecDepth 20000 in
theorem zc_29 : zMd (mX8_tellTo, 364, 50) := ⟨rfl, by decide +kernel⟩
set_option maxRecDepth 20000 in
theorem zc_30 : zMd (mX8_readToken, 372, 50) := ⟨rfl, by decide +kernel⟩
set_option maxRecDepth 20000 in
theorem zc_31 : zMd (mX8_isLetter, 376, 50) := ⟨rfl, by decide +kernel⟩
set_option maxRecDepth 20000 in
theorem zc_32 : zMd (mX8_readWord, 380, 50) := ⟨rfl, by decide +kernel⟩
set_option maxRecDepth 20000 in
theorem zc_33 : zMd (mX8_isWord, 385, 50) := ⟨rfl, by decide +kernel⟩
set_option maxRecDepth 20000 in
theorem zc_34 : zMd (mX8_isDigit, 440, 50) := ⟨rfl, by decide +kernel⟩
set_option maxRecDepth 20000 in
theorem zc_35 : zMd (mX8_readDigits, 444, 50) := ⟨rfl, by decide +kernel⟩
set_option maxRecDepth 20000 in
theorem zc_36 : zMd (mX8_readsItem, 451, 50) := ⟨rfl, by decide +kernel⟩
set_option maxRecDepth 20000 in
theorem zc_37 : zMd (mX8_readsPlace, 455, 50) := ⟨rfl, by decide +kernel⟩
set_option maxRecDepth 20000 in
theorem zc_38 : zMd (mX8_isNumber, 459, 50) := ⟨rfl, by decide +kernel⟩
set_option maxRecDepth 20000 in
theorem zc_39 : zMd (mX8_readsSeeker, 467, 50) := ⟨rfl, by decide +kernel⟩
set_option maxRecDepth 20000 in
theorem zc_40 : zMd (mX8_readsRing, 487, 50) := ⟨rfl, by decide +kernel⟩
set_option maxRecDepth 20000 in
theorem zc_41 : zMd (mX8_readsLaw, 491, 50) := ⟨rfl, by decide +kernel⟩
set_option maxRecDepth 20000 in
theorem zc_42 : zMd (mX9_init, 114, 51) := ⟨rfl, by decide +kernel⟩
set_option maxRecDepth 20000 in
theorem zc_43 : zMd (mX9_empty, 368, 51) := ⟨rfl, by decide +kernel⟩
set_option maxRecDepth 20000 in
theorem zc_44 : zMd (mX9_addPlace, 463, 51) := ⟨rfl, by decide +kernel⟩
set_option maxRecDepth 20000 in
theorem zc_45 : zMd (mX9_addSeeker, 471, 51) := ⟨rfl, by decide +kernel⟩
set_option maxRecDepth 20000 in
theorem zc_46 : zMd (mX9_isPlace, 475, 51) := ⟨rfl, by decide +kernel⟩
set_option maxRecDepth 20000 in
theorem zc_47 : zMd (mX9_addHabit, 479, 51) := ⟨rfl, by decide +kernel⟩
set_option maxRecDepth 20000 in
theorem zc_48 : zMd (mX9_isSeeker, 483, 51) := ⟨rfl, by decide +kernel⟩
set_option maxRecDepth 20000 in
theorem zc_49 : zMd (mX9_settle, 495, 51) := ⟨rfl, by decide +kernel⟩
set_option maxRecDepth 20000 in
theorem zc_50 : zMd (mX9_settleOrder, 499, 51) := ⟨rfl, by decide +kernel⟩
set_option maxRecDepth 20000 in
theorem zc_51 : zMd (mX9_settleNoWorse, 503, 51) := ⟨rfl, by decide +kernel⟩
set_option maxRecDepth 20000 in
theorem zc_52 : zMd (mX9_settleReach, 507, 51) := ⟨rfl, by decide +kernel⟩
set_option maxRecDepth 20000 in
theorem zc_53 : zMd (mX9_behind, 511, 51) := ⟨rfl, by decide +kernel⟩
set_option maxRecDepth 20000 in
theorem zc_54 : zMd (mX9_finds, 570, 51) := ⟨rfl, by decide +kernel⟩
set_option maxRecDepth 20000 in
theorem zc_55 : zMd (mX9_stopsAt, 574, 51) := ⟨rfl, by decide +kernel⟩
set_option maxRecDepth 20000 in
theorem zc_56 : zMd (mX9_minutesOfFirst, 657, 51) := ⟨rfl, by decide +kernel⟩
set_option maxRecDepth 20000 in
theorem zc_57 : zMd (mX10_init, 73, 49) := ⟨rfl, by decide +kernel⟩
set_option maxRecDepth 20000 in
theorem zc_58 : zMd (mX10_type, 348, 49) := ⟨rfl, by decide +kernel⟩
set_option maxRecDepth 20000 in
theorem zc_59 : zMd (mX10_clear, 356, 49) := ⟨rfl, by decide +kernel⟩
set_option maxRecDepth 20000 in
theorem zc_60 : zMd (mX10_town, 360, 49) := ⟨rfl, by decide +kernel⟩
set_option maxRecDepth 20000 in
theorem zc_61 : zMd (mX10_place, 523, 49) := ⟨rfl, by decide +kernel⟩
set_option maxRecDepth 20000 in
theorem zc_62 : zMd (mX10_seeker, 528, 49) := ⟨rfl, by decide +kernel⟩
set_option maxRecDepth 20000 in
theorem zc_63 : zMd (mX10_habit, 533, 49) := ⟨rfl, by decide +kernel⟩
set_option maxRecDepth 20000 in
theorem zc_64 : zMd (mX10_puts, 537, 49) := ⟨rfl, by decide +kernel⟩
set_option maxRecDepth 20000 in
theorem zc_65 : zMd (mX10_looks, 541, 49) := ⟨rfl, by decide +kernel⟩
set_option maxRecDepth 20000 in
theorem zc_66 : zMd (mX10_week, 562, 49) := ⟨rfl, by decide +kernel⟩
set_option maxRecDepth 20000 in
theorem zc_67 : zMd (mX10_now, 581, 49) := ⟨rfl, by decide +kernel⟩
set_option maxRecDepth 20000 in
theorem zc_68 : zMd (mX10_lot, 589, 49) := ⟨rfl, by decide +kernel⟩
set_option maxRecDepth 20000 in
theorem zc_69 : zMd (mX10_lies, 593, 49) := ⟨rfl, by decide +kernel⟩
set_option maxRecDepth 20000 in
theorem zc_70 : zMd (mX10_weeksLying, 597, 49) := ⟨rfl, by decide +kernel⟩
set_option maxRecDepth 20000 in
theorem zc_71 : zMd (mX10_longest, 605, 49) := ⟨rfl, by decide +kernel⟩
set_option maxRecDepth 20000 in
theorem zc_72 : zMd (mX10_odds, 609, 49) := ⟨rfl, by decide +kernel⟩
set_option maxRecDepth 20000 in
theorem zc_73 : zMd (mX10_leastTerm, 645, 49) := ⟨rfl, by decide +kernel⟩
set_option maxRecDepth 20000 in
theorem zc_74 : zMd (mX10_lots, 649, 49) := ⟨rfl, by decide +kernel⟩
set_option maxRecDepth 20000 in
theorem zc_75 : zMd (mX10_sweep, 653, 49) := ⟨rfl, by decide +kernel⟩
set_option maxRecDepth 20000 in
theorem zc_76 : zMd (mX10_order, 664, 49) := ⟨rfl, by decide +kernel⟩
set_option maxRecDepth 20000 in
theorem zc_77 : zMd (mX10_saw, 668, 49) := ⟨rfl, by decide +kernel⟩
set_option maxRecDepth 20000 in
theorem zc_78 : zMd (mX10_forget, 676, 49) := ⟨rfl, by decide +kernel⟩
set_option maxRecDepth 20000 in
theorem zc_79 : zMd (mX10_could, 680, 49) := ⟨rfl, by decide +kernel⟩
set_option maxRecDepth 20000 in
theorem zc_80 : zMd (mX10_canHaveBegunAt, 684, 49) := ⟨rfl, by decide +kernel⟩
set_option maxRecDepth 20000 in
theorem zc_81 : zMd (mX10_mark, 692, 49) := ⟨rfl, by decide +kernel⟩
set_option maxRecDepth 20000 in
theorem zc_82 : zMd (mX10_keep, 727, 49) := ⟨rfl, by decide +kernel⟩
set_option maxRecDepth 20000 in
theorem zc_83 : zMd (mX10_back, 731, 49) := ⟨rfl, by decide +kernel⟩
set_option maxRecDepth 20000 in
theorem zc_84 : zMd (mX10_count, 735, 49) := ⟨rfl, by decide +kernel⟩
set_option maxRecDepth 20000 in
theorem zc_85 : zMd (mX10_trace, 739, 49) := ⟨rfl, by decide +kernel⟩
set_option maxRecDepth 20000 in
theorem zc_86 : zMd (mX11_init, 744, 60) := ⟨rfl, by decide +kernel⟩
set_option maxRecDepth 20000 in
theorem zc_87 : zMd (mX11_type, 810, 60) := ⟨rfl, by decide +kernel⟩
set_option maxRecDepth 20000 in
theorem zc_88 : zMd (mX11_in, 813, 60) := ⟨rfl, by decide +kernel⟩
set_option maxRecDepth 20000 in
theorem zc_89 : zMd (mX11_clear, 818, 60) := ⟨rfl, by decide +kernel⟩
set_option maxRecDepth 20000 in
theorem zc_90 : zMd (mX11_town, 822, 60) := ⟨rfl, by decide +kernel⟩
set_option maxRecDepth 20000 in
theorem zc_91 : zMd (mX11_reads, 826, 60) := ⟨rfl, by decide +kernel⟩
set_option maxRecDepth 20000 in
theorem zc_92 : zMd (mX11_token, 830, 60) := ⟨rfl, by decide +kernel⟩
set_option maxRecDepth 20000 in
theorem zc_93 : zMd (mX11_byteAt, 834, 60) := ⟨rfl, by decide +kernel⟩
set_option maxRecDepth 20000 in
theorem zc_94 : zMd (mX11_sortOf, 837, 60) := ⟨rfl, by decide +kernel⟩
set_option maxRecDepth 20000 in
theorem zc_95 : zMd (mX11_verb, 841, 60) := ⟨rfl, by decide +kernel⟩
set_option maxRecDepth 20000 in
theorem zc_96 : zMd (mX11_readsItem, 850, 60) := ⟨rfl, by decide +kernel⟩
set_option maxRecDepth 20000 in
theorem zc_97 : zMd (mX11_readsPlace, 854, 60) := ⟨rfl, by decide +kernel⟩
set_option maxRecDepth 20000 in
theorem zc_98 : zMd (mX11_number, 858, 60) := ⟨rfl, by decide +kernel⟩
set_option maxRecDepth 20000 in
theorem zc_99 : zMd (mX11_figure, 862, 60) := ⟨rfl, by decide +kernel⟩
set_option maxRecDepth 20000 in
theorem zc_100 : zMd (mX11_readsSeeker, 866, 60) := ⟨rfl, by decide +kernel⟩
set_option maxRecDepth 20000 in
theorem zc_101 : zMd (mX11_once, 870, 60) := ⟨rfl, by decide +kernel⟩
set_option maxRecDepth 20000 in
theorem zc_102 : zMd (mX11_place, 874, 60) := ⟨rfl, by decide +kernel⟩
set_option maxRecDepth 20000 in
theorem zc_103 : zMd (mX11_isPlace, 878, 60) := ⟨rfl, by decide +kernel⟩
set_option maxRecDepth 20000 in
theorem zc_104 : zMd (mX11_noWorse, 882, 60) := ⟨rfl, by decide +kernel⟩
set_option maxRecDepth 20000 in
theorem zc_105 : zMd (mX11_seeker, 886, 60) := ⟨rfl, by decide +kernel⟩
set_option maxRecDepth 20000 in
theorem zc_106 : zMd (mX11_isSeeker, 890, 60) := ⟨rfl, by decide +kernel⟩
set_option maxRecDepth 20000 in
theorem zc_107 : zMd (mX11_habit, 894, 60) := ⟨rfl, by decide +kernel⟩
set_option maxRecDepth 20000 in
theorem zc_108 : zMd (mX11_puts, 898, 60) := ⟨rfl, by decide +kernel⟩
set_option maxRecDepth 20000 in
theorem zc_109 : zMd (mX11_looks, 902, 60) := ⟨rfl, by decide +kernel⟩
set_option maxRecDepth 20000 in
theorem zc_110 : zMd (mX11_hides, 906, 60) := ⟨rfl, by decide +kernel⟩
set_option maxRecDepth 20000 in
theorem zc_111 : zMd (mX11_ones, 909, 60) := ⟨rfl, by decide +kernel⟩
set_option maxRecDepth 20000 in
theorem zc_112 : zMd (mX11_drawn, 913, 60) := ⟨rfl, by decide +kernel⟩
set_option maxRecDepth 20000 in
theorem zc_113 : zMd (mX11_member, 917, 60) := ⟨rfl, by decide +kernel⟩
set_option maxRecDepth 20000 in
theorem zc_114 : zMd (mX11_week, 921, 60) := ⟨rfl, by decide +kernel⟩
set_option maxRecDepth 20000 in
theorem zc_115 : zMd (mX11_starts, 925, 60) := ⟨rfl, by decide +kernel⟩
set_option maxRecDepth 20000 in
theorem zc_116 : zMd (mX11_plays, 929, 60) := ⟨rfl, by decide +kernel⟩
set_option maxRecDepth 20000 in
theorem zc_117 : zMd (mX11_finds, 933, 60) := ⟨rfl, by decide +kernel⟩
set_option maxRecDepth 20000 in
theorem zc_118 : zMd (mX11_now, 937, 60) := ⟨rfl, by decide +kernel⟩
set_option maxRecDepth 20000 in
theorem zc_119 : zMd (mX11_lot, 941, 60) := ⟨rfl, by decide +kernel⟩
set_option maxRecDepth 20000 in
theorem zc_120 : zMd (mX11_lies, 945, 60) := ⟨rfl, by decide +kernel⟩
set_option maxRecDepth 20000 in
theorem zc_121 : zMd (mX11_firstWeek, 949, 60) := ⟨rfl, by decide +kernel⟩
set_option maxRecDepth 20000 in
theorem zc_122 : zMd (mX11_longest, 953, 60) := ⟨rfl, by decide +kernel⟩
set_option maxRecDepth 20000 in
theorem zc_123 : zMd (mX11_odds, 957, 60) := ⟨rfl, by decide +kernel⟩
set_option maxRecDepth 20000 in
theorem zc_124 : zMd (mX11_state, 963, 60) := ⟨rfl, by decide +kernel⟩
set_option maxRecDepth 20000 in
theorem zc_125 : zMd (mX11_spreadsAll, 967, 60) := ⟨rfl, by decide +kernel⟩
set_option maxRecDepth 20000 in
theorem zc_126 : zMd (mX11_spreads, 971, 60) := ⟨rfl, by decide +kernel⟩
set_option maxRecDepth 20000 in
theorem zc_127 : zMd (mX11_isAt, 975, 60) := ⟨rfl, by decide +kernel⟩
set_option maxRecDepth 20000 in
theorem zc_128 : zMd (mX11_part, 978, 60) := ⟨rfl, by decide +kernel⟩
set_option maxRecDepth 20000 in
theorem zc_129 : zMd (mX11_divisor, 981, 60) := ⟨rfl, by decide +kernel⟩
set_option maxRecDepth 20000 in
theorem zc_130 : zMd (mX11_lots, 985, 60) := ⟨rfl, by decide +kernel⟩
set_option maxRecDepth 20000 in
theorem zc_131 : zMd (mX11_allHard, 989, 60) := ⟨rfl, by decide +kernel⟩
set_option maxRecDepth 20000 in
theorem zc_132 : zMd (mX11_sweep, 993, 60) := ⟨rfl, by decide +kernel⟩
set_option maxRecDepth 20000 in
theorem zc_133 : zMd (mX11_rank, 997, 60) := ⟨rfl, by decide +kernel⟩
set_option maxRecDepth 20000 in
theorem zc_134 : zMd (mX11_order, 1001, 60) := ⟨rfl, by decide +kernel⟩
set_option maxRecDepth 20000 in
theorem zc_135 : zMd (mX11_saw, 1005, 60) := ⟨rfl, by decide +kernel⟩
set_option maxRecDepth 20000 in
theorem zc_136 : zMd (mX11_forget, 1009, 60) := ⟨rfl, by decide +kernel⟩
set_option maxRecDepth 20000 in
theorem zc_137 : zMd (mX11_could, 1013, 60) := ⟨rfl, by decide +kernel⟩
set_option maxRecDepth 20000 in
theorem zc_138 : zMd (mX11_began, 1017, 60) := ⟨rfl, by decide +kernel⟩
set_option maxRecDepth 20000 in
theorem zc_139 : zMd (mX11_mark, 1021, 60) := ⟨rfl, by decide +kernel⟩
set_option maxRecDepth 20000 in
theorem zc_140 : zMd (mX11_keep, 1031, 60) := ⟨rfl, by decide +kernel⟩
set_option maxRecDepth 20000 in
theorem zc_141 : zMd (mX11_back, 1035, 60) := ⟨rfl, by decide +kernel⟩
set_option maxRecDepth 20000 in
theorem zc_142 : zMd (mX11_count, 1039, 60) := ⟨rfl, by decide +kernel⟩
set_option maxRecDepth 20000 in
theorem zc_143 : zMd (mX11_trace, 1043, 60) := ⟨rfl, by decide +kernel⟩
set_option maxRecDepth 20000 in
theorem zc_144 : zMd (mJ0_length_8abf5, 389, 61) := ⟨rfl, by decide +kernel⟩
set_option maxRecDepth 20000 in
theorem zc_145 : zMd (mJ0_coder_7d493, 393, 61) := ⟨rfl, by decide +kernel⟩
set_option maxRecDepth 20000 in
theorem zc_146 : zMd (mJ0_charAt_5068e, 399, 61) := ⟨rfl, by decide +kernel⟩
set_option maxRecDepth 20000 in
theorem zc_147 : zMd (mJ0_isLatin1_aae02, 403, 61) := ⟨rfl, by decide +kernel⟩
set_option maxRecDepth 20000 in
theorem zc_148 : zMd (mJ0_checkIndex_df160, 409, 61) := ⟨rfl, by decide +kernel⟩
set_option maxRecDepth 20000 in
theorem zc_149 : zMd (mJ1_charAt_3b067, 406, 62) := ⟨rfl, by decide +kernel⟩
set_option maxRecDepth 20000 in
theorem zc_150 : zMd (mJ6_bitCount_0f7a4, 554, 67) := ⟨rfl, by decide +kernel⟩
set_option maxRecDepth 20000 in
theorem zc_151 : zMd (mJ7_fill_53178, 518, 66) := ⟨rfl, by decide +kernel⟩
set_option maxRecDepth 20000 in
theorem zc_152 : zMd (mJ7_fill_d0a16, 617, 66) := ⟨rfl, by decide +kernel⟩
set_option maxRecDepth 20000 in
theorem zc_153 : zMd (mJ3_checkIndex_8e157, 414, 63) := ⟨rfl, by decide +kernel⟩
theorem zcc_0 : ∀ q ∈ [(mX0_init, 237, 53), (mX0_goOn, 614, 53), (mX0_lastWeek, 626, 53), (mX0_searchAll, 630, 53), (mX0_share, 635, 53), (mX0_firstWeek, 639, 53), (mX1_init, 289, 56), (mX1_worth, 700, 56), (mX2_init, 281, 55), (mX2_worth, 705, 55), (mX3_init, 297, 57), (mX3_worth, 710, 57), (mX4_init, 313, 59), (mX4_worth, 715, 59), (mX5_init, 305, 58), (mX5_worth, 720, 58), (mX6_init, 260, 54), (mX6_worth, 723, 54), (mX7_init, 192, 52), (mX7_begin, 515, 52)], zMd q := List.forall_mem_cons.mpr ⟨zc_0, List.forall_mem_cons.mpr ⟨zc_1, List.forall_mem_cons.mpr ⟨zc_2, List.forall_mem_cons.mpr ⟨zc_3, List.forall_mem_cons.mpr ⟨zc_4, List.forall_mem_cons.mpr ⟨zc_5, List.forall_mem_cons.mpr ⟨zc_6, List.forall_mem_cons.mpr ⟨zc_7, List.forall_mem_cons.mpr ⟨zc_8, List.forall_mem_cons.mpr ⟨zc_9, List.forall_mem_cons.mpr ⟨zc_10, List.forall_mem_cons.mpr ⟨zc_11, List.forall_mem_cons.mpr ⟨zc_12, List.forall_mem_cons.mpr ⟨zc_13, List.forall_mem_cons.mpr ⟨zc_14, List.forall_mem_cons.mpr ⟨zc_15, List.forall_mem_cons.mpr ⟨zc_16, List.forall_mem_cons.mpr ⟨zc_17, List.forall_mem_cons.mpr ⟨zc_18, List.forall_mem_cons.mpr ⟨zc_19, fun _ h => absurd h List.not_mem_nil⟩⟩⟩⟩⟩⟩⟩⟩⟩⟩⟩⟩⟩⟩⟩⟩⟩⟩⟩⟩
theorem zcc_1 : ∀ q ∈ [(mX7_foundBy, 545, 52), (mX7_draw, 551, 52), (mX7_passWeek, 566, 52), (mX7_hadByAll, 585, 52), (mX7_becomeAs, 601, 52), (mX7_addSeen, 672, 52), (mX7_sawNoOther, 688, 52), (mX8_init, 81, 50), (mX8_append, 352, 50), (mX8_tellTo, 364, 50), (mX8_readToken, 372, 50), (mX8_isLetter, 376, 50), (mX8_readWord, 380, 50), (mX8_isWord, 385, 50), (mX8_isDigit, 440, 50), (mX8_readDigits, 444, 50), (mX8_readsItem, 451, 50), (mX8_readsPlace, 455, 50), (mX8_isNumber, 459, 50), (mX8_readsSeeker, 467, 50)], zMd q := List.forall_mem_cons.mpr ⟨zc_20, List.forall_mem_cons.mpr ⟨zc_21, List.forall_mem_cons.mpr ⟨zc_22, List.forall_mem_cons.mpr ⟨zc_23, List.forall_mem_cons.mpr ⟨zc_24, List.forall_mem_cons.mpr ⟨zc_25, List.forall_mem_cons.mpr ⟨zc_26, List.forall_mem_cons.mpr ⟨zc_27, List.forall_mem_cons.mpr ⟨zc_28, List.forall_mem_cons.mpr ⟨zc_29, List.forall_mem_cons.mpr ⟨zc_30, List.forall_mem_cons.mpr ⟨zc_31, List.forall_mem_cons.mpr ⟨zc_32, List.forall_mem_cons.mpr ⟨zc_33, List.forall_mem_cons.mpr ⟨zc_34, List.forall_mem_cons.mpr ⟨zc_35, List.forall_mem_cons.mpr ⟨zc_36, List.forall_mem_cons.mpr ⟨zc_37, List.forall_mem_cons.mpr ⟨zc_38, List.forall_mem_cons.mpr ⟨zc_39, fun _ h => absurd h List.not_mem_nil⟩⟩⟩⟩⟩⟩⟩⟩⟩⟩⟩⟩⟩⟩⟩⟩⟩⟩⟩⟩
theorem zcc_2 : ∀ q ∈ [(mX8_readsRing, 487, 50), (mX8_readsLaw, 491, 50), (mX9_init, 114, 51), (mX9_empty, 368, 51), (mX9_addPlace, 463, 51), (mX9_addSeeker, 471, 51), (mX9_isPlace, 475, 51), (mX9_addHabit, 479, 51), (mX9_isSeeker, 483, 51), (mX9_settle, 495, 51), (mX9_settleOrder, 499, 51), (mX9_settleNoWorse, 503, 51), (mX9_settleReach, 507, 51), (mX9_behind, 511, 51), (mX9_finds, 570, 51), (mX9_stopsAt, 574, 51), (mX9_minutesOfFirst, 657, 51), (mX10_init, 73, 49), (mX10_type, 348, 49), (mX10_clear, 356, 49)], zMd q := List.forall_mem_cons.mpr ⟨zc_40, List.forall_mem_cons.mpr ⟨zc_41, List.forall_mem_cons.mpr ⟨zc_42, List.forall_mem_cons.mpr ⟨zc_43, List.forall_mem_cons.mpr ⟨zc_44, List.forall_mem_cons.mpr ⟨zc_45, List.forall_mem_cons.mpr ⟨zc_46, List.forall_mem_cons.mpr ⟨zc_47, List.forall_mem_cons.mpr ⟨zc_48, List.forall_mem_cons.mpr ⟨zc_49, List.forall_mem_cons.mpr ⟨zc_50, List.forall_mem_cons.mpr ⟨zc_51, List.forall_mem_cons.mpr ⟨zc_52, List.forall_mem_cons.mpr ⟨zc_53, List.forall_mem_cons.mpr ⟨zc_54, List.forall_mem_cons.mpr ⟨zc_55, List.forall_mem_cons.mpr ⟨zc_56, List.forall_mem_cons.mpr ⟨zc_57, List.forall_mem_cons.mpr ⟨zc_58, List.forall_mem_cons.mpr ⟨zc_59, fun _ h => absurd h List.not_mem_nil⟩⟩⟩⟩⟩⟩⟩⟩⟩⟩⟩⟩⟩⟩⟩⟩⟩⟩⟩⟩
theorem zcc_3 : ∀ q ∈ [(mX10_town, 360, 49), (mX10_place, 523, 49), (mX10_seeker, 528, 49), (mX10_habit, 533, 49), (mX10_puts, 537, 49), (mX10_looks, 541, 49), (mX10_week, 562, 49), (mX10_now, 581, 49), (mX10_lot, 589, 49), (mX10_lies, 593, 49), (mX10_weeksLying, 597, 49), (mX10_longest, 605, 49), (mX10_odds, 609, 49), (mX10_leastTerm, 645, 49), (mX10_lots, 649, 49), (mX10_sweep, 653, 49), (mX10_order, 664, 49), (mX10_saw, 668, 49), (mX10_forget, 676, 49), (mX10_could, 680, 49)], zMd q := List.forall_mem_cons.mpr ⟨zc_60, List.forall_mem_cons.mpr ⟨zc_61, List.forall_mem_cons.mpr ⟨zc_62, List.forall_mem_cons.mpr ⟨zc_63, List.forall_mem_cons.mpr ⟨zc_64, List.forall_mem_cons.mpr ⟨zc_65, List.forall_mem_cons.mpr ⟨zc_66, List.forall_mem_cons.mpr ⟨zc_67, List.forall_mem_cons.mpr ⟨zc_68, List.forall_mem_cons.mpr ⟨zc_69, List.forall_mem_cons.mpr ⟨zc_70, List.forall_mem_cons.mpr ⟨zc_71, List.forall_mem_cons.mpr ⟨zc_72, List.forall_mem_cons.mpr ⟨zc_73, List.forall_mem_cons.mpr ⟨zc_74, List.forall_mem_cons.mpr ⟨zc_75, List.forall_mem_cons.mpr ⟨zc_76, List.forall_mem_cons.mpr ⟨zc_77, List.forall_mem_cons.mpr ⟨zc_78, List.forall_mem_cons.mpr ⟨zc_79, fun _ h => absurd h List.not_mem_nil⟩⟩⟩⟩⟩⟩⟩⟩⟩⟩⟩⟩⟩⟩⟩⟩⟩⟩⟩⟩
theorem zcc_4 : ∀ q ∈ [(mX10_canHaveBegunAt, 684, 49), (mX10_mark, 692, 49), (mX10_keep, 727, 49), (mX10_back, 731, 49), (mX10_count, 735, 49), (mX10_trace, 739, 49), (mX11_init, 744, 60), (mX11_type, 810, 60), (mX11_in, 813, 60), (mX11_clear, 818, 60), (mX11_town, 822, 60), (mX11_reads, 826, 60), (mX11_token, 830, 60), (mX11_byteAt, 834, 60), (mX11_sortOf, 837, 60), (mX11_verb, 841, 60), (mX11_readsItem, 850, 60), (mX11_readsPlace, 854, 60), (mX11_number, 858, 60), (mX11_figure, 862, 60)], zMd q := List.forall_mem_cons.mpr ⟨zc_80, List.forall_mem_cons.mpr ⟨zc_81, List.forall_mem_cons.mpr ⟨zc_82, List.forall_mem_cons.mpr ⟨zc_83, List.forall_mem_cons.mpr ⟨zc_84, List.forall_mem_cons.mpr ⟨zc_85, List.forall_mem_cons.mpr ⟨zc_86, List.forall_mem_cons.mpr ⟨zc_87, List.forall_mem_cons.mpr ⟨zc_88, List.forall_mem_cons.mpr ⟨zc_89, List.forall_mem_cons.mpr ⟨zc_90, List.forall_mem_cons.mpr ⟨zc_91, List.forall_mem_cons.mpr ⟨zc_92, List.forall_mem_cons.mpr ⟨zc_93, List.forall_mem_cons.mpr ⟨zc_94, List.forall_mem_cons.mpr ⟨zc_95, List.forall_mem_cons.mpr ⟨zc_96, List.forall_mem_cons.mpr ⟨zc_97, List.forall_mem_cons.mpr ⟨zc_98, List.forall_mem_cons.mpr ⟨zc_99, fun _ h => absurd h List.not_mem_nil⟩⟩⟩⟩⟩⟩⟩⟩⟩⟩⟩⟩⟩⟩⟩⟩⟩⟩⟩⟩
theorem zcc_5 : ∀ q ∈ [(mX11_readsSeeker, 866, 60), (mX11_once, 870, 60), (mX11_place, 874, 60), (mX11_isPlace, 878, 60), (mX11_noWorse, 882, 60), (mX11_seeker, 886, 60), (mX11_isSeeker, 890, 60), (mX11_habit, 894, 60), (mX11_puts, 898, 60), (mX11_looks, 902, 60), (mX11_hides, 906, 60), (mX11_ones, 909, 60), (mX11_drawn, 913, 60), (mX11_member, 917, 60), (mX11_week, 921, 60), (mX11_starts, 925, 60), (mX11_plays, 929, 60), (mX11_finds, 933, 60), (mX11_now, 937, 60), (mX11_lot, 941, 60)], zMd q := List.forall_mem_cons.mpr ⟨zc_100, List.forall_mem_cons.mpr ⟨zc_101, List.forall_mem_cons.mpr ⟨zc_102, List.forall_mem_cons.mpr ⟨zc_103, List.forall_mem_cons.mpr ⟨zc_104, List.forall_mem_cons.mpr ⟨zc_105, List.forall_mem_cons.mpr ⟨zc_106, List.forall_mem_cons.mpr ⟨zc_107, List.forall_mem_cons.mpr ⟨zc_108, List.forall_mem_cons.mpr ⟨zc_109, List.forall_mem_cons.mpr ⟨zc_110, List.forall_mem_cons.mpr ⟨zc_111, List.forall_mem_cons.mpr ⟨zc_112, List.forall_mem_cons.mpr ⟨zc_113, List.forall_mem_cons.mpr ⟨zc_114, List.forall_mem_cons.mpr ⟨zc_115, List.forall_mem_cons.mpr ⟨zc_116, List.forall_mem_cons.mpr ⟨zc_117, List.forall_mem_cons.mpr ⟨zc_118, List.forall_mem_cons.mpr ⟨zc_119, fun _ h => absurd h List.not_mem_nil⟩⟩⟩⟩⟩⟩⟩⟩⟩⟩⟩⟩⟩⟩⟩⟩⟩⟩⟩⟩
theorem zcc_6 : ∀ q ∈ [(mX11_lies, 945, 60), (mX11_firstWeek, 949, 60), (mX11_longest, 953, 60), (mX11_odds, 957, 60), (mX11_state, 963, 60), (mX11_spreadsAll, 967, 60), (mX11_spreads, 971, 60), (mX11_isAt, 975, 60), (mX11_part, 978, 60), (mX11_divisor, 981, 60), (mX11_lots, 985, 60), (mX11_allHard, 989, 60), (mX11_sweep, 993, 60), (mX11_rank, 997, 60), (mX11_order, 1001, 60), (mX11_saw, 1005, 60), (mX11_forget, 1009, 60), (mX11_could, 1013, 60), (mX11_began, 1017, 60), (mX11_mark, 1021, 60)], zMd q := List.forall_mem_cons.mpr ⟨zc_120, List.forall_mem_cons.mpr ⟨zc_121, List.forall_mem_cons.mpr ⟨zc_122, List.forall_mem_cons.mpr ⟨zc_123, List.forall_mem_cons.mpr ⟨zc_124, List.forall_mem_cons.mpr ⟨zc_125, List.forall_mem_cons.mpr ⟨zc_126, List.forall_mem_cons.mpr ⟨zc_127, List.forall_mem_cons.mpr ⟨zc_128, List.forall_mem_cons.mpr ⟨zc_129, List.forall_mem_cons.mpr ⟨zc_130, List.forall_mem_cons.mpr ⟨zc_131, List.forall_mem_cons.mpr ⟨zc_132, List.forall_mem_cons.mpr ⟨zc_133, List.forall_mem_cons.mpr ⟨zc_134, List.forall_mem_cons.mpr ⟨zc_135, List.forall_mem_cons.mpr ⟨zc_136, List.forall_mem_cons.mpr ⟨zc_137, List.forall_mem_cons.mpr ⟨zc_138, List.forall_mem_cons.mpr ⟨zc_139, fun _ h => absurd h List.not_mem_nil⟩⟩⟩⟩⟩⟩⟩⟩⟩⟩⟩⟩⟩⟩⟩⟩⟩⟩⟩⟩
theorem zcc_7 : ∀ q ∈ [(mX11_keep, 1031, 60), (mX11_back, 1035, 60), (mX11_count, 1039, 60), (mX11_trace, 1043, 60), (mJ0_length_8abf5, 389, 61), (mJ0_coder_7d493, 393, 61), (mJ0_charAt_5068e, 399, 61), (mJ0_isLatin1_aae02, 403, 61), (mJ0_checkIndex_df160, 409, 61), (mJ1_charAt_3b067, 406, 62), (mJ6_bitCount_0f7a4, 554, 67), (mJ7_fill_53178, 518, 66), (mJ7_fill_d0a16, 617, 66), (mJ3_checkIndex_8e157, 414, 63)], zMd q := List.forall_mem_cons.mpr ⟨zc_140, List.forall_mem_cons.mpr ⟨zc_141, List.forall_mem_cons.mpr ⟨zc_142, List.forall_mem_cons.mpr ⟨zc_143, List.forall_mem_cons.mpr ⟨zc_144, List.forall_mem_cons.mpr ⟨zc_145, List.forall_mem_cons.mpr ⟨zc_146, List.forall_mem_cons.mpr ⟨zc_147, List.forall_mem_cons.mpr ⟨zc_148, List.forall_mem_cons.mpr ⟨zc_149, List.forall_mem_cons.mpr ⟨zc_150, List.forall_mem_cons.mpr ⟨zc_151, List.forall_mem_cons.mpr ⟨zc_152, List.forall_mem_cons.mpr ⟨zc_153, fun _ h => absurd h List.not_mem_nil⟩⟩⟩⟩⟩⟩⟩⟩⟩⟩⟩⟩⟩⟩
def zMz : List (zM × Nat × Nat) := [(mX0_init, 237, 53), (mX0_goOn, 614, 53), (mX0_lastWeek, 626, 53), (mX0_searchAll, 630, 53), (mX0_share, 635, 53), (mX0_firstWeek, 639, 53), (mX1_init, 289, 56), (mX1_worth, 700, 56), (mX2_init, 281, 55), (mX2_worth, 705, 55), (mX3_init, 297, 57), (mX3_worth, 710, 57), (mX4_init, 313, 59), (mX4_worth, 715, 59), (mX5_init, 305, 58), (mX5_worth, 720, 58), (mX6_init, 260, 54), (mX6_worth, 723, 54), (mX7_init, 192, 52), (mX7_begin, 515, 52)] ++ ([(mX7_foundBy, 545, 52), (mX7_draw, 551, 52), (mX7_passWeek, 566, 52), (mX7_hadByAll, 585, 52), (mX7_becomeAs, 601, 52), (mX7_addSeen, 672, 52), (mX7_sawNoOther, 688, 52), (mX8_init, 81, 50), (mX8_append, 352, 50), (mX8_tellTo, 364, 50), (mX8_readToken, 372, 50), (mX8_isLetter, 376, 50), (mX8_readWord, 380, 50), (mX8_isWord, 385, 50), (mX8_isDigit, 440, 50), (mX8_readDigits, 444, 50), (mX8_readsItem, 451, 50), (mX8_readsPlace, 455, 50), (mX8_isNumber, 459, 50), (mX8_readsSeeker, 467, 50)] ++ ([(mX8_readsRing, 487, 50), (mX8_readsLaw, 491, 50), (mX9_init, 114, 51), (mX9_empty, 368, 51), (mX9_addPlace, 463, 51), (mX9_addSeeker, 471, 51), (mX9_isPlace, 475, 51), (mX9_addHabit, 479, 51), (mX9_isSeeker, 483, 51), (mX9_settle, 495, 51), (mX9_settleOrder, 499, 51), (mX9_settleNoWorse, 503, 51), (mX9_settleReach, 507, 51), (mX9_behind, 511, 51), (mX9_finds, 570, 51), (mX9_stopsAt, 574, 51), (mX9_minutesOfFirst, 657, 51), (mX10_init, 73, 49), (mX10_type, 348, 49), (mX10_clear, 356, 49)] ++ ([(mX10_town, 360, 49), (mX10_place, 523, 49), (mX10_seeker, 528, 49), (mX10_habit, 533, 49), (mX10_puts, 537, 49), (mX10_looks, 541, 49), (mX10_week, 562, 49), (mX10_now, 581, 49), (mX10_lot, 589, 49), (mX10_lies, 593, 49), (mX10_weeksLying, 597, 49), (mX10_longest, 605, 49), (mX10_odds, 609, 49), (mX10_leastTerm, 645, 49), (mX10_lots, 649, 49), (mX10_sweep, 653, 49), (mX10_order, 664, 49), (mX10_saw, 668, 49), (mX10_forget, 676, 49), (mX10_could, 680, 49)] ++ ([(mX10_canHaveBegunAt, 684, 49), (mX10_mark, 692, 49), (mX10_keep, 727, 49), (mX10_back, 731, 49), (mX10_count, 735, 49), (mX10_trace, 739, 49), (mX11_init, 744, 60), (mX11_type, 810, 60), (mX11_in, 813, 60), (mX11_clear, 818, 60), (mX11_town, 822, 60), (mX11_reads, 826, 60), (mX11_token, 830, 60), (mX11_byteAt, 834, 60), (mX11_sortOf, 837, 60), (mX11_verb, 841, 60), (mX11_readsItem, 850, 60), (mX11_readsPlace, 854, 60), (mX11_number, 858, 60), (mX11_figure, 862, 60)] ++ ([(mX11_readsSeeker, 866, 60), (mX11_once, 870, 60), (mX11_place, 874, 60), (mX11_isPlace, 878, 60), (mX11_noWorse, 882, 60), (mX11_seeker, 886, 60), (mX11_isSeeker, 890, 60), (mX11_habit, 894, 60), (mX11_puts, 898, 60), (mX11_looks, 902, 60), (mX11_hides, 906, 60), (mX11_ones, 909, 60), (mX11_drawn, 913, 60), (mX11_member, 917, 60), (mX11_week, 921, 60), (mX11_starts, 925, 60), (mX11_plays, 929, 60), (mX11_finds, 933, 60), (mX11_now, 937, 60), (mX11_lot, 941, 60)] ++ ([(mX11_lies, 945, 60), (mX11_firstWeek, 949, 60), (mX11_longest, 953, 60), (mX11_odds, 957, 60), (mX11_state, 963, 60), (mX11_spreadsAll, 967, 60), (mX11_spreads, 971, 60), (mX11_isAt, 975, 60), (mX11_part, 978, 60), (mX11_divisor, 981, 60), (mX11_lots, 985, 60), (mX11_allHard, 989, 60), (mX11_sweep, 993, 60), (mX11_rank, 997, 60), (mX11_order, 1001, 60), (mX11_saw, 1005, 60), (mX11_forget, 1009, 60), (mX11_could, 1013, 60), (mX11_began, 1017, 60), (mX11_mark, 1021, 60)] ++ ([(mX11_keep, 1031, 60), (mX11_back, 1035, 60), (mX11_count, 1039, 60), (mX11_trace, 1043, 60), (mJ0_length_8abf5, 389, 61), (mJ0_coder_7d493, 393, 61), (mJ0_charAt_5068e, 399, 61), (mJ0_isLatin1_aae02, 403, 61), (mJ0_checkIndex_df160, 409, 61), (mJ1_charAt_3b067, 406, 62), (mJ6_bitCount_0f7a4, 554, 67), (mJ7_fill_53178, 518, 66), (mJ7_fill_d0a16, 617, 66), (mJ3_checkIndex_8e157, 414, 63)])))))))
theorem zMz_ok : ∀ q ∈ zMz, zMd q := List.forall_mem_append.mpr ⟨zcc_0, List.forall_mem_append.mpr ⟨zcc_1, List.forall_mem_append.mpr ⟨zcc_2, List.forall_mem_append.mpr ⟨zcc_3, List.forall_mem_append.mpr ⟨zcc_4, List.forall_mem_append.mpr ⟨zcc_5, List.forall_mem_append.mpr ⟨zcc_6, zcc_7⟩⟩⟩⟩⟩⟩⟩
set_option maxRecDepth 20000 in
theorem zMz_fst : zMz.map (fun q => q.1) = zMs := rfl
def mL_law : zM := (yL_law, cL_law, 4, (some .boolean), 12, 600000, 7302250)
abbrev zFe : Type := (Nat × Nat) × (Nat × Nat × Bool × List Nat) × String × Nat × Nat
def zFt : List zFe := [((8, 15), (0, 0, false, [8]), RX8, 83, 0), ((10, 73), (0, 0, false, [8]), RX8, 84, 0), ((8, 9), (3, 1, true, [8]), RX8, 85, 0), ((8, 24), (0, 2, false, [8]), RX8, 86, 0), ((8, 44), (0, 3, false, [8]), RX8, 87, 0), ((8, 37), (0, 4, false, [8]), RX8, 88, 0), ((8, 69), (0, 5, false, [8]), RX8, 89, 0), ((8, 27), (1, 6, false, [8]), RX8, 90, 0), ((8, 31), (1, 7, false, [8]), RX8, 91, 0), ((9, 48), (0, 0, false, [9]), RX9, 118, 0), ((0, 80), (0, 0, false, [9]), RX9, 119, 0), ((8, 62), (0, 0, false, [9]), RX9, 120, 0), ((10, 133), (0, 0, false, [9]), RX9, 121, 0), ((9, 51), (0, 1, false, [9]), RX9, 122, 0), ((7, 46), (0, 1, false, [9]), RX9, 123, 0), ((0, 83), (0, 1, false, [9]), RX9, 124, 0), ((8, 76), (0, 1, false, [9]), RX9, 125, 0), ((10, 206), (0, 1, false, [9]), RX9, 126, 0), ((9, 54), (0, 2, false, [9]), RX9, 127, 0), ((8, 92), (0, 2, false, [9]), RX9, 128, 0), ((10, 123), (0, 2, false, [9]), RX9, 129, 0), ((9, 44), (0, 3, false, [9]), RX9, 130, 0), ((10, 85), (0, 3, false, [9]), RX9, 131, 0), ((8, 89), (0, 3, false, [9]), RX9, 132, 0), ((9, 57), (0, 4, false, [9]), RX9, 133, 0), ((10, 172), (0, 4, false, [9]), RX9, 134, 0), ((9, 9), (3, 5, true, [9]), RX9, 135, 0), ((10, 96), (3, 5, true, [9]), RX9, 136, 0), ((9, 15), (3, 6, true, [9]), RX9, 137, 0), ((0, 67), (3, 6, true, [9]), RX9, 138, 0), ((10, 100), (3, 6, true, [9]), RX9, 139, 0), ((7, 76), (3, 6, true, [9]), RX9, 140, 0), ((9, 18), (3, 7, true, [9]), RX9, 141, 0), ((7, 70), (3, 7, true, [9]), RX9, 142, 0), ((9, 21), (3, 8, true, [9]), RX9, 143, 0), ((7, 73), (3, 8, true, [9]), RX9, 144, 0), ((9, 24), (3, 9, true, [9]), RX9, 145, 0), ((10, 184), (3, 9, true, [9]), RX9, 146, 0), ((9, 27), (3, 10, true, [9]), RX9, 147, 0), ((6, 13), (3, 10, true, [9]), RX9, 148, 0), ((10, 106), (3, 10, true, [9]), RX9, 149, 0), ((9, 30), (3, 11, true, [9]), RX9, 150, 0), ((1, 19), (3, 11, true, [9]), RX9, 151, 0), ((10, 109), (3, 11, true, [9]), RX9, 152, 0), ((9, 35), (3, 12, true, [9]), RX9, 153, 0), ((10, 118), (3, 12, true, [9]), RX9, 154, 0), ((9, 38), (3, 13, true, [9]), RX9, 155, 0), ((9, 41), (3, 14, true, [9]), RX9, 156, 0), ((7, 27), (0, 0, false, [7]), RX7, 194, 0), ((0, 31), (0, 0, false, [7]), RX7, 195, 0), ((10, 122), (0, 0, false, [7]), RX7, 196, 0), ((7, 34), (0, 1, false, [7]), RX7, 197, 0), ((4, 19), (0, 1, false, [7]), RX7, 198, 0), ((10, 130), (0, 1, false, [7]), RX7, 199, 0), ((7, 31), (0, 2, false, [7]), RX7, 200, 0), ((10, 150), (0, 2, false, [7]), RX7, 201, 0), ((7, 37), (0, 3, false, [7]), RX7, 202, 0), ((10, 187), (0, 3, false, [7]), RX7, 203, 0), ((7, 9), (3, 4, true, [7]), RX7, 204, 0), ((0, 43), (3, 4, true, [7]), RX7, 205, 0), ((10, 112), (3, 4, true, [7]), RX7, 206, 0), ((7, 15), (3, 5, true, [7]), RX7, 207, 0), ((2, 19), (3, 5, true, [7]), RX7, 208, 0), ((10, 115), (3, 5, true, [7]), RX7, 209, 0), ((7, 18), (3, 6, true, [7]), RX7, 210, 0), ((7, 21), (3, 7, true, [7]), RX7, 211, 0), ((7, 24), (3, 8, true, [7]), RX7, 212, 0), ((0, 9), (3, 0, true, [0]), RX0, 239, 0), ((10, 162), (3, 0, true, [0]), RX0, 240, 0), ((0, 15), (3, 1, true, [0]), RX0, 241, 0), ((0, 18), (3, 2, true, [0]), RX0, 242, 0), ((0, 21), (3, 3, true, [0]), RX0, 243, 0), ((6, 7), (2, 0, false, [1, 2, 3, 4, 5, 6]), RX6, 262, 0), ((1, 7), (2, 0, false, [1, 5]), RX1, 263, 264), ((2, 7), (2, 0, false, [2, 3]), RX2, 265, 266), ((3, 7), (2, 0, false, [3]), RX3, 267, 268), ((4, 7), (2, 0, false, [4]), RX4, 269, 270), ((5, 7), (2, 0, false, [5]), RX5, 271, 272), ((10, 209), (2, 0, false, [1, 2, 3, 4, 5, 6]), RX6, 273, 0), ((10, 10), (3, 0, true, [10]), RX10, 317, 0), ((10, 19), (3, 1, false, [10]), RX10, 318, 0), ((10, 23), (3, 2, false, [10]), RX10, 319, 0), ((10, 29), (3, 3, true, [10]), RX10, 320, 0), ((10, 33), (3, 4, true, [10]), RX10, 321, 0), ((10, 36), (3, 5, true, [10]), RX10, 322, 0), ((10, 40), (3, 6, true, [10]), RX10, 323, 0), ((10, 47), (3, 7, true, [10]), RX10, 324, 0), ((10, 53), (3, 8, true, [10]), RX10, 325, 0), ((11, 195), (2, 0, false, [11]), RX11, 746, 0), ((11, 7), (0, 1, false, [11]), RX11, 747, 0), ((11, 13), (3, 2, true, [11]), RX11, 748, 0), ((11, 50), (0, 3, false, [11]), RX11, 749, 0), ((11, 17), (3, 4, true, [11]), RX11, 750, 0), ((11, 20), (3, 5, true, [11]), RX11, 751, 0), ((11, 23), (3, 6, true, [11]), RX11, 752, 0), ((11, 26), (3, 7, true, [11]), RX11, 753, 0), ((11, 29), (3, 8, true, [11]), RX11, 754, 0), ((11, 55), (0, 9, false, [11]), RX11, 755, 0), ((11, 68), (0, 10, false, [11]), RX11, 756, 0), ((11, 62), (0, 11, false, [11]), RX11, 757, 0), ((11, 71), (0, 12, false, [11]), RX11, 758, 0), ((11, 124), (0, 13, false, [11]), RX11, 759, 0), ((11, 33), (3, 14, true, [11]), RX11, 760, 0), ((11, 140), (0, 15, false, [11]), RX11, 761, 0), ((11, 128), (0, 16, false, [11]), RX11, 762, 0), ((11, 36), (3, 17, true, [11]), RX11, 763, 0), ((11, 40), (3, 18, true, [11]), RX11, 764, 0), ((11, 43), (3, 19, true, [11]), RX11, 765, 0)]
def zF (j i : Nat) : Option (Nat × Nat × Bool × List Nat) := (zFt.find? (fun e => e.1.1 == j && e.1.2 == i)).map (fun e => e.2.1)
def zFc (e : zFe) : Bool := e.2.1.2.2.2.all (fun kd => match vwCl[kd]? with
  | none => false
  | some r => decide (e.2.1.2.1 < r.2.2) && ((r.2.1 e.2.1.2.1).2.2.2 == e.2.1.2.2.1) && (zft kd e.2.1.2.1 == e.2.1.1) && decide (lw_tbl[e.2.2.2.1]? = some (Cond.fieldLink (zR0 e.1.1) e.1.2 e.2.2.1 (r.2.1 e.2.1.2.1).2.1 (r.2.1 e.2.1.2.1).2.2.1)) && (decide ((r.2.1 e.2.1.2.1).1 = e.2.2.1) || decide (lw_tbl[e.2.2.2.2]? = some (Cond.sameField e.2.2.1 (r.2.1 e.2.1.2.1).1 (r.2.1 e.2.1.2.1).2.1 (r.2.1 e.2.1.2.1).2.2.1))))
theorem zfin_ok : (List.range 12).all (fun kd => match vwCl[kd]? with | none => false | some r => decide (r.1 = zR0 kd) && (List.range r.2.2).all (fun k => !(r.2.1 k).2.2.2 || decide ((r.2.1 k).1 = r.1))) = true := by decide +kernel
theorem zFt_ok : zFt.all zFc = true := by decide +kernel
abbrev zKe : Type := (Nat × Nat) × Value × Nat
def zKt : List zKe := [((8, 107), .ref 5000, 381), ((8, 113), .ref 5001, 434), ((8, 115), .ref 5002, 435), ((8, 116), .ref 5003, 436), ((22, 265), .int (1431655765), 555), ((22, 266), .int (858993459), 556), ((22, 267), .int (252645135), 557), ((7, 88), .int (1103515245), 558), ((10, 156), .long (-1), 610), ((0, 50), .long (167961600000000), 622), ((10, 166), .long (167961600000000), 642), ((10, 197), .int (-1000000), 693), ((1, 13), .long (100), 701), ((2, 13), .long (10), 706), ((3, 13), .long (1000), 711), ((4, 13), .long (100000), 716), ((5, 13), .long (10000), 721), ((11, 53), .long (255), 814), ((11, 74), .long (256), 842), ((11, 76), .long (482854658917), 843), ((11, 78), .long (126879330428274), 844), ((11, 80), .long (1919512167), 845), ((11, 82), .long (7102839), 846), ((11, 127), .int (1103515245), 914), ((11, 174), .long (-1), 958), ((11, 176), .long (167961600000000), 959), ((11, 194), .int (-1000000), 1022), ((11, 199), .long (11), 1023), ((11, 201), .long (101), 1024), ((11, 203), .long (1011), 1025), ((11, 205), .long (10101), 1026), ((11, 207), .long (100001), 1027), ((12, 13), .long (4294967295), 1044)]
def zK (j i : Nat) : Option Value := (zKt.find? (fun e => e.1.1 == j && e.1.2 == i)).map (fun e => e.2.1)
def zki : List Nat := [107, 113, 115, 116]
def ztx : List String := ["place", "seeker", "ring", "law"]
def zKc (e : zKe) : Bool := match e.2.1 with
  | .int x => decide (lw_tbl[e.2.2]? = some (Cond.constant (zR0 e.1.1) e.1.2 x))
  | .long x => decide (lw_tbl[e.2.2]? = some (Cond.constantLong (zR0 e.1.1) e.1.2 x))
  | .ref a => decide (5000 ≤ a ∧ a < 5004 ∧ e.1.1 = 8 ∧ zki[a - 5000]? = some e.1.2)
  | _ => false
theorem zKt_ok : zKt.all zKc = true := by decide +kernel
-- multianewarray [[I: 9 33 place 116
abbrev zNe : Type := (Nat × Nat) × Nat × Nat × Nat × Nat
def zNt : List zNe := [((12, 7), 10, 69, 70, 49), ((10, 7), 8, 77, 78, 50), ((10, 16), 9, 110, 111, 51), ((10, 26), 7, 188, 189, 52), ((10, 44), 0, 233, 234, 53), ((10, 51), 6, 255, 257, 54), ((10, 58), 2, 277, 278, 55), ((10, 61), 1, 285, 286, 56), ((10, 64), 3, 293, 294, 57), ((10, 67), 5, 301, 302, 58), ((10, 70), 4, 309, 310, 59), ((12, 10), 11, 740, 741, 60)]
def zN (j i : Nat) : Option Nat := (zNt.find? (fun e => e.1.1 == j && e.1.2 == i)).map (fun e => e.2.1)
def zNc (e : zNe) : Bool := match vwCl[e.2.1]? with
  | none => false
  | some r => decide (lw_tbl[e.2.2.1]? = some (Cond.classLink (zR0 e.1.1) e.1.2 r.1)) && decide (lw_tbl[e.2.2.2.1]? = some (Cond.instantiable r.1 r.2.2)) && decide (lw_tbl[e.2.2.2.2]? = some (Cond.initialized r.1))
theorem zNt_ok : zNt.all zNc = true := by decide +kernel
abbrev zAe : Type := (Nat × Nat) × Nat × Nat
def zAt : List zAe := [((10, 26), 23, 188), ((10, 51), 24, 255)]
def zA (j i : Nat) : Option Nat := (zAt.find? (fun e => e.1.1 == j && e.1.2 == i)).map (fun e => e.2.1)
def zAn (k : Nat) : String := if k = 23 then RX7 else RX6
def zAc (e : zAe) : Bool := decide (lw_tbl[e.2.2]? = some (Cond.classLink (zR0 e.1.1) e.1.2 (zAn e.2.1))) && decide (e.2.1 = 23 ∨ e.2.1 = 24)
theorem zAt_ok : zAt.all zAc = true := by decide +kernel
theorem zMul_ok : lw_tbl[116]? = some (Cond.classLink (zR0 9) 33 "[[I") := by decide +kernel
/-- all words of a list have places -/
def zal (ws : List Cond) (ix : List Nat) : Bool := ws.length == ix.length && (ws.zip ix).all (fun q => decide (lw_tbl[q.2]? = some q.1) && goodWord q.1)
/-! virtual calls: class and index; parameters; the method named; by the receiver's class: the method that is run, how (0 that one, 1 one that overrides it), the words' places -/
abbrev zVe : Type := (Nat × Nat) × Nat × Nat × List (Nat × Nat × Nat × List Nat)
def zVt : List zVe := [((12, 15), 2, 58, [(10, 58, 0, [345, 346, 347, 49])]), ((10, 77), 2, 28, [(8, 28, 0, [349, 350, 351, 50])]), ((12, 20), 0, 59, [(10, 59, 0, [353, 354, 355, 49])]), ((12, 25), 0, 60, [(10, 60, 0, [357, 358, 359, 49])]), ((10, 81), 1, 29, [(8, 29, 0, [361, 362, 363, 50])]), ((8, 19), 0, 43, [(9, 43, 0, [365, 366, 367, 51])]), ((8, 34), 0, 30, [(8, 30, 0, [369, 371, 0, 50])]), ((8, 95), 1, 31, [(8, 31, 0, [373, 375, 1, 50])]), ((8, 98), 0, 32, [(8, 32, 0, [377, 379, 2, 50])]), ((8, 109), 1, 33, [(8, 33, 0, [382, 384, 3, 50])]), ((8, 123), 0, 144, [(20, 144, 0, [386, 387, 388, 61])]), ((20, 335), 0, 145, [(20, 145, 0, [390, 391, 392, 61])]), ((8, 128), 1, 146, [(20, 146, 0, [396, 397, 398, 61])]), ((20, 492), 0, 147, [(20, 147, 0, [400, 401, 402, 61])]), ((8, 101), 1, 34, [(8, 34, 0, [437, 439, 4, 50])]), ((8, 104), 0, 35, [(8, 35, 0, [441, 443, 5, 50])]), ((8, 40), 1, 36, [(8, 36, 0, [448, 450, 6, 50])]), ((8, 50), 1, 37, [(8, 37, 0, [452, 454, 7, 50])]), ((8, 65), 2, 38, [(8, 38, 0, [456, 458, 8, 50])]), ((8, 72), 1, 44, [(9, 44, 0, [460, 461, 462, 51])]), ((8, 53), 1, 39, [(8, 39, 0, [464, 466, 9, 50])]), ((8, 79), 1, 45, [(9, 45, 0, [468, 469, 470, 51])]), ((8, 82), 1, 46, [(9, 46, 0, [472, 473, 474, 51])]), ((8, 86), 1, 47, [(9, 47, 0, [476, 477, 478, 51])]), ((9, 60), 1, 48, [(9, 48, 0, [480, 481, 482, 51])]), ((8, 56), 1, 40, [(8, 40, 0, [484, 486, 10, 50])]), ((8, 59), 1, 41, [(8, 41, 0, [488, 490, 11, 50])]), ((8, 47), 0, 49, [(9, 49, 0, [492, 493, 494, 51])]), ((9, 64), 0, 50, [(9, 50, 0, [496, 498, 12, 51])]), ((9, 67), 1, 51, [(9, 51, 0, [500, 502, 13, 51])]), ((9, 71), 2, 52, [(9, 52, 0, [504, 506, 14, 51])]), ((9, 75), 2, 53, [(9, 53, 0, [508, 510, 15, 51])]), ((10, 88), 1, 19, [(7, 19, 0, [512, 513, 514, 52])]), ((12, 29), 2, 61, [(10, 61, 0, [520, 521, 522, 49])]), ((10, 92), 1, 46, [(9, 46, 0, [524, 473, 474, 51])]), ((12, 34), 2, 62, [(10, 62, 0, [525, 526, 527, 49])]), ((10, 103), 1, 48, [(9, 48, 0, [529, 481, 482, 51])]), ((12, 38), 2, 63, [(10, 63, 0, [530, 531, 532, 49])]), ((12, 42), 1, 64, [(10, 64, 0, [534, 535, 536, 49])]), ((12, 47), 2, 65, [(10, 65, 0, [538, 539, 540, 49])]), ((10, 126), 3, 20, [(7, 20, 0, [542, 543, 544, 52])]), ((7, 63), 1, 48, [(9, 48, 0, [546, 481, 482, 51])]), ((7, 67), 1, 46, [(9, 46, 0, [547, 473, 474, 51])]), ((7, 79), 1, 21, [(7, 21, 0, [548, 550, 16, 52])]), ((12, 51), 0, 66, [(10, 66, 0, [559, 560, 561, 49])]), ((10, 136), 2, 22, [(7, 22, 0, [563, 564, 565, 52])]), ((7, 51), 3, 54, [(9, 54, 0, [567, 568, 569, 51])]), ((7, 55), 3, 55, [(9, 55, 0, [571, 572, 573, 51])]), ((9, 79), 3, 54, [(9, 54, 0, [575, 568, 569, 51])]), ((7, 59), 3, 20, [(7, 20, 0, [576, 543, 544, 52])]), ((12, 55), 1, 67, [(10, 67, 0, [578, 579, 580, 49])]), ((10, 146), 0, 23, [(7, 23, 0, [582, 583, 584, 52])]), ((12, 59), 1, 68, [(10, 68, 0, [586, 587, 588, 49])]), ((12, 63), 1, 69, [(10, 69, 0, [590, 591, 592, 49])]), ((10, 153), 1, 70, [(10, 70, 0, [594, 596, 17, 49])]), ((10, 202), 1, 24, [(7, 24, 0, [598, 599, 600, 52])]), ((12, 67), 0, 71, [(10, 71, 0, [602, 603, 604, 49])]), ((12, 71), 3, 72, [(10, 72, 0, [606, 607, 608, 49])]), ((10, 158), 3, 1, [(0, 1, 0, [611, 612, 613, 53])]), ((0, 37), 1, 46, [(9, 46, 0, [618, 473, 474, 51])]), ((0, 52), 3, 2, [(0, 2, 0, [623, 625, 18, 53])]), ((0, 86), 2, 3, [(0, 3, 0, [627, 629, 19, 53])]), ((0, 63), 3, 54, [(9, 54, 0, [631, 568, 569, 51])]), ((0, 90), 2, 4, [(0, 4, 0, [632, 634, 20, 53])]), ((0, 60), 1, 48, [(9, 48, 0, [640, 481, 482, 51])]), ((0, 76), 3, 55, [(9, 55, 0, [641, 572, 573, 51])]), ((12, 76), 2, 74, [(10, 74, 0, [646, 647, 648, 49])]), ((12, 80), 1, 75, [(10, 75, 0, [650, 651, 652, 49])]), ((10, 175), 0, 56, [(9, 56, 0, [654, 655, 656, 51])]), ((12, 84), 1, 76, [(10, 76, 0, [661, 662, 663, 49])]), ((12, 88), 3, 77, [(10, 77, 0, [665, 666, 667, 49])]), ((10, 190), 3, 25, [(7, 25, 0, [669, 670, 671, 52])]), ((12, 93), 0, 78, [(10, 78, 0, [673, 674, 675, 49])]), ((12, 97), 1, 79, [(10, 79, 0, [677, 678, 679, 49])]), ((10, 194), 1, 80, [(10, 80, 0, [681, 683, 21, 49])]), ((10, 213), 2, 26, [(7, 26, 0, [685, 686, 687, 52])]), ((12, 101), 2, 81, [(10, 81, 0, [689, 690, 691, 49])]), ((10, 198), 3, 17, [(1, 7, 1, [694, 697, 695, 698, 699, 56]), (2, 9, 1, [694, 697, 695, 703, 704, 55]), (3, 11, 1, [694, 697, 695, 708, 709, 57]), (4, 13, 1, [694, 697, 695, 713, 714, 59]), (5, 15, 1, [694, 697, 695, 718, 719, 58]), (6, 17, 0, [694, 695, 696, 54])]), ((12, 105), 1, 82, [(10, 82, 0, [724, 725, 726, 49])]), ((12, 109), 1, 83, [(10, 83, 0, [728, 729, 730, 49])]), ((12, 113), 1, 84, [(10, 84, 0, [732, 733, 734, 49])]), ((12, 117), 0, 85, [(10, 85, 0, [736, 737, 738, 49])]), ((12, 19), 2, 87, [(11, 87, 0, [807, 808, 809, 60])]), ((12, 24), 0, 89, [(11, 89, 0, [815, 816, 817, 60])]), ((12, 28), 0, 90, [(11, 90, 0, [819, 820, 821, 60])]), ((11, 112), 0, 91, [(11, 91, 0, [823, 825, 22, 60])]), ((11, 84), 0, 92, [(11, 92, 0, [827, 829, 23, 60])]), ((11, 58), 1, 93, [(11, 93, 0, [831, 833, 24, 60])]), ((11, 104), 0, 95, [(11, 95, 0, [838, 840, 25, 60])]), ((11, 108), 1, 96, [(11, 96, 0, [847, 849, 26, 60])]), ((11, 94), 0, 97, [(11, 97, 0, [851, 853, 27, 60])]), ((11, 91), 2, 98, [(11, 98, 0, [855, 857, 28, 60])]), ((11, 87), 2, 99, [(11, 99, 0, [859, 861, 29, 60])]), ((11, 98), 0, 100, [(11, 100, 0, [863, 865, 30, 60])]), ((11, 101), 3, 101, [(11, 101, 0, [867, 869, 31, 60])]), ((12, 33), 2, 102, [(11, 102, 0, [871, 872, 873, 60])]), ((11, 115), 1, 103, [(11, 103, 0, [875, 877, 32, 60])]), ((11, 118), 1, 104, [(11, 104, 0, [879, 881, 33, 60])]), ((12, 37), 2, 105, [(11, 105, 0, [883, 884, 885, 60])]), ((11, 121), 1, 106, [(11, 106, 0, [887, 889, 34, 60])]), ((12, 41), 2, 107, [(11, 107, 0, [891, 892, 893, 60])]), ((12, 46), 1, 108, [(11, 108, 0, [895, 896, 897, 60])]), ((12, 50), 2, 109, [(11, 109, 0, [899, 900, 901, 60])]), ((11, 146), 0, 110, [(11, 110, 0, [903, 905, 35, 60])]), ((11, 134), 1, 112, [(11, 112, 0, [910, 912, 36, 60])]), ((12, 54), 0, 114, [(11, 114, 0, [918, 919, 920, 60])]), ((11, 149), 2, 115, [(11, 115, 0, [922, 924, 37, 60])]), ((11, 153), 0, 116, [(11, 116, 0, [926, 928, 38, 60])]), ((11, 143), 1, 117, [(11, 117, 0, [930, 932, 39, 60])]), ((12, 58), 1, 118, [(11, 118, 0, [934, 935, 936, 60])]), ((12, 62), 1, 119, [(11, 119, 0, [938, 939, 940, 60])]), ((12, 66), 1, 120, [(11, 120, 0, [942, 943, 944, 60])]), ((11, 156), 1, 121, [(11, 121, 0, [946, 948, 40, 60])]), ((12, 70), 0, 122, [(11, 122, 0, [950, 951, 952, 60])]), ((12, 75), 3, 123, [(11, 123, 0, [954, 955, 956, 60])]), ((11, 167), 0, 124, [(11, 124, 0, [960, 962, 41, 60])]), ((11, 178), 1, 125, [(11, 125, 0, [964, 966, 42, 60])]), ((11, 170), 2, 126, [(11, 126, 0, [968, 970, 43, 60])]), ((11, 163), 1, 127, [(11, 127, 0, [972, 974, 44, 60])]), ((12, 79), 2, 130, [(11, 130, 0, [982, 983, 984, 60])]), ((11, 185), 0, 131, [(11, 131, 0, [986, 988, 45, 60])]), ((12, 83), 1, 132, [(11, 132, 0, [990, 991, 992, 60])]), ((11, 188), 1, 133, [(11, 133, 0, [994, 996, 46, 60])]), ((12, 87), 1, 134, [(11, 134, 0, [998, 999, 1000, 60])]), ((12, 92), 3, 135, [(11, 135, 0, [1002, 1003, 1004, 60])]), ((12, 96), 0, 136, [(11, 136, 0, [1006, 1007, 1008, 60])]), ((12, 100), 1, 137, [(11, 137, 0, [1010, 1011, 1012, 60])]), ((11, 191), 1, 138, [(11, 138, 0, [1014, 1016, 47, 60])]), ((12, 104), 2, 139, [(11, 139, 0, [1018, 1019, 1020, 60])]), ((12, 108), 1, 140, [(11, 140, 0, [1028, 1029, 1030, 60])]), ((12, 112), 1, 141, [(11, 141, 0, [1032, 1033, 1034, 60])]), ((12, 116), 1, 142, [(11, 142, 0, [1036, 1037, 1038, 60])]), ((12, 121), 0, 143, [(11, 143, 0, [1040, 1041, 1042, 60])])]
def zV (j i : Nat) : Option (Nat × List (Nat × Nat × Nat × List Nat)) := (zVt.find? (fun e => e.1.1 == j && e.1.2 == i)).map (fun e => (e.2.1, e.2.2.2))
def zw0 (own : String) (i : Nat) (C : String) (y : MethodName) : List Cond := [.methodLink own i y, .instanceMethod y, .selects C y y, .initialized C]
def zw1 (own : String) (i : Nat) (C : String) (x y : MethodName) : List Cond := [.methodLink own i x, .sameMethod x.cls x.cls x.name x.desc, .instanceMethod x, .selects C x y, .instanceMethod y, .initialized y.cls]
def zVc (e : zVe) : Bool := e.2.2.2.all (fun t => match zMs[t.2.1]?, zMs[e.2.2.1]? with
  | some mm, some m0 => decide ((parseMethodDescriptor mm.1.desc).map (fun d => d.parameters.length) = some e.2.1) && decide (mm.1.cls = zR0 t.1) && (if t.2.2.1 = 0 then zal (zw0 (zR0 e.1.1) e.1.2 (zR0 t.1) mm.1) t.2.2.2 else (decide (e.2.2.1 = 17 ∧ mm.1.name = m0.1.name ∧ mm.1.desc = m0.1.desc) && zal (zw1 (zR0 e.1.1) e.1.2 (zR0 t.1) m0.1 mm.1) t.2.2.2))
  | _, _ => false)
theorem zVt_ok : zVt.all zVc = true := by decide +kernel
abbrev zSe : Type := (Nat × Nat) × Nat × Nat × List Nat
def zSt : List zSe := [((20, 495), 2, 149, [404, 405, 62]), ((21, 9), 2, 148, [407, 408, 61]), ((20, 1059), 3, 153, [412, 413, 63]), ((7, 40), 2, 151, [516, 517, 66]), ((7, 83), 1, 150, [552, 553, 67]), ((10, 140), 1, 150, [577, 553, 67]), ((0, 25), 2, 152, [615, 616, 66]), ((0, 70), 1, 150, [636, 553, 67]), ((0, 56), 5, 5, [637, 638, 53]), ((10, 168), 3, 73, [643, 644, 49]), ((11, 46), 3, 88, [811, 812, 60]), ((11, 65), 1, 94, [835, 836, 60]), ((11, 131), 1, 111, [907, 908, 60]), ((11, 137), 2, 113, [915, 916, 60]), ((11, 181), 3, 128, [976, 977, 60]), ((11, 159), 2, 129, [979, 980, 60])]
def zS (j i : Nat) : Option (Nat × Nat) := (zSt.find? (fun e => e.1.1 == j && e.1.2 == i)).map (fun e => (e.2.1, e.2.2.1))
def zSc0 (e : zSe) : Bool := match zMs[e.2.2.1]? with
  | some mm => decide ((parseMethodDescriptor mm.1.desc).map (fun d => d.parameters.length) = some e.2.1) && zal [.methodLink (zR0 e.1.1) e.1.2 mm.1, .static mm.1, .initialized mm.1.cls] e.2.2.2
  | none => false
theorem zSt_ok : zSt.all zSc0 = true := by decide +kernel
/-! special calls: 0 a constructor, 1 what the class above does, 2 a private constructor of a nest mate -/
abbrev zIe : Type := (Nat × Nat) × Nat × Nat × Nat × List Nat
def zIt : List zIe := [((12, 9), 0, 57, 0, [49, 71, 72]), ((10, 9), 0, 27, 2, [79, 50, 80]), ((10, 18), 0, 42, 0, [51, 112, 113]), ((10, 28), 0, 18, 0, [52, 190, 191]), ((10, 46), 0, 0, 2, [235, 53, 236]), ((10, 57), 0, 16, 2, [258, 54, 259]), ((10, 60), 0, 8, 2, [279, 55, 280]), ((2, 1), 0, 16, 2, [282, 54, 259]), ((10, 63), 0, 6, 2, [287, 56, 288]), ((1, 1), 0, 16, 2, [290, 54, 259]), ((10, 66), 0, 10, 2, [295, 57, 296]), ((3, 1), 0, 8, 2, [298, 55, 280]), ((10, 69), 0, 14, 2, [303, 58, 304]), ((5, 1), 0, 6, 2, [306, 56, 288]), ((10, 72), 0, 12, 2, [311, 59, 312]), ((4, 1), 0, 16, 2, [314, 54, 259]), ((1, 15), 3, 17, 1, [702, 697, 292, 695, 54]), ((2, 15), 3, 17, 1, [707, 697, 284, 695, 54]), ((3, 15), 3, 9, 1, [712, 1045, 300, 704, 55]), ((4, 15), 3, 17, 1, [717, 697, 316, 695, 54]), ((5, 15), 3, 7, 1, [722, 1046, 308, 699, 56]), ((12, 12), 0, 86, 0, [60, 742, 743])]
def zI (j i : Nat) : Option (Nat × Nat × Nat) := (zIt.find? (fun e => e.1.1 == j && e.1.2 == i)).map (fun e => (e.2.1, e.2.2.1, e.2.2.2.1))
def zIc (e : zIe) : Bool := match zMs[e.2.2.1]? with
  | some mm => decide ((parseMethodDescriptor mm.1.desc).map (fun d => d.parameters.length) = some e.2.1) && (match e.2.2.2.1 with
    | 0 => decide (mm.1.name = "<init>" ∧ mm.2.2.2.1 = none) && zal [.initialized mm.1.cls, .methodLink (zR0 e.1.1) e.1.2 mm.1, .instanceMethod mm.1] e.2.2.2.2
    | 1 => decide (mm.1.name ≠ "<init>") && zal [.methodLink (zR0 e.1.1) e.1.2 mm.1, .sameMethod mm.1.cls mm.1.cls mm.1.name mm.1.desc, .superclass (zR0 e.1.1) mm.1.cls, .instanceMethod mm.1, .initialized mm.1.cls] e.2.2.2.2
    | _ => decide (mm.1.name = "<init>" ∧ mm.2.2.2.1 = none) && (match e.2.2.2.2 with
      | w :: r => decide (lw_tbl[w]? = some (.methodLinkNest (zR0 e.1.1) e.1.2 mm.1 RX10)) && zal [.initialized mm.1.cls, .instanceMethod mm.1] r
      | [] => false))
  | none => false
theorem zIt_ok : zIt.all zIc = true := by decide +kernel
/-! Object() -/
def zOt : List ((Nat × Nat) × Nat) := [((10, 1), 74), ((8, 3), 82), ((9, 3), 115), ((7, 3), 193), ((0, 3), 238), ((6, 1), 261), ((11, 1), 745)]
def zO (j i : Nat) : Bool := zOt.any (fun e => e.1.1 == j && e.1.2 == i)
theorem zOt_ok : zOt.all (fun e => decide (lw_tbl[e.2]? = some (Cond.methodLink (zR0 e.1.1) e.1.2 objectInit))) = true := by decide +kernel
theorem zO_w : lw_tbl[75]? = some (Cond.instanceMethod objectInit) ∧ lw_tbl[76]? = some (Cond.code objectInit ⟨#[0xb1]⟩ 1 none) := by decide +kernel
/-! arraycopy: class 0, index 44 -/
theorem zC_w : lw_tbl[619]? = some (Cond.methodLink (zR0 0) 44 arraycopyName) ∧ lw_tbl[621]? = some (Cond.native arraycopyName) ∧ lw_tbl[620]? = some (Cond.static arraycopyName) ∧ lw_tbl[68]? = some (Cond.initialized "java/lang/System") := by decide +kernel
/-! Math.min: class 8, index 117 -/
def zBmin : Nat × Nat := (8, 117)
theorem zB_min : lw_tbl[445]? = some (Cond.methodLink (zR0 8) 117 Lib.Math.min.name) ∧ lw_tbl[446]? = some (Cond.static Lib.Math.min.name) ∧ lw_tbl[65]? = some (Cond.initialized "java/lang/Math") ∧ lw_tbl[447]? = some (Cond.code Lib.Math.min.name Lib.Math.min.code 2 (some .int)) := ⟨by decide +kernel, by decide +kernel, by decide +kernel, by decide +kernel⟩
/-! Math.max: class 10, index 178 -/
def zBmax : Nat × Nat := (10, 178)
theorem zB_max : lw_tbl[658]? = some (Cond.methodLink (zR0 10) 178 Lib.Math.max.name) ∧ lw_tbl[659]? = some (Cond.static Lib.Math.max.name) ∧ lw_tbl[65]? = some (Cond.initialized "java/lang/Math") ∧ lw_tbl[660]? = some (Cond.code Lib.Math.max.name Lib.Math.max.code 2 (some .int)) := ⟨by decide +kernel, by decide +kernel, by decide +kernel, by decide +kernel⟩
-- ('arrayClass', 'Jvm.ClassFile.FieldType.int') place 109
-- ('arrayOver', '(Jvm.ClassFile.FieldType.array Jvm.ClassFile.FieldType.int)') place 117
-- ('arrayOver', '(Jvm.ClassFile.FieldType.object "FindersHide$State")') place 232
-- ('arrayClass', 'Jvm.ClassFile.FieldType.boolean') place 253
-- ('arrayClass', 'Jvm.ClassFile.FieldType.long') place 254
-- ('arrayOver', '(Jvm.ClassFile.FieldType.object "FindersHide$SeekerKind")') place 256
-- ('arrayClass', 'Jvm.ClassFile.FieldType.byte') place 519
-- ('fieldLink', 'java/lang/String', 38, 'java/lang/String', 'COMPACT_STRINGS', 'Z') place 394
-- ('fieldLink', 'java/lang/String', 1053, 'jdk/internal/util/Preconditions', 'SIOOBE_FORMATTER', 'Ljava/util/function/BiFunction;') place 410
-- ('fieldLink', 'java/lang/String', 9, 'java/lang/String', 'value', '[B') place 1052
-- ('fieldLink', 'java/lang/String', 15, 'java/lang/String', 'coder', 'B') place 1053
end
section
/-! THE MACHINE ONCE MORE, SMALL. Memory by the numbers of cells: shapes (how many cells; of each its kind and length), references, ints, longs. 'zstp': one instruction; 'zR': a frame (the least thing that is closed under the steps); 'zW d': a call, at most d frames deep; each with what shall hold behind it. Kinds: 0 .. 11 objects of that class, 20 int[], 21 boolean[], 22 long[], 23 State[], 24 SeekerKind[], 25 int[][]. Numbers from 5000 on: 5000 .. the four texts, 6000 .. their bytes, 7000 the script. -/
abbrev zSh : Type := Nat × (Nat → Nat × Nat)
abbrev zRf : Type := Nat → Nat → Option Nat
abbrev zIm : Type := Nat → Nat → Int32
abbrev zLm : Type := Nat → Nat → Int64
abbrev zLo : Type := List (Option Value)
abbrev zPo : Type := Option Value → zSh → zRf → zIm → zLm → Prop
abbrev zBd : Type := zM → List Value → zSh → zRf → zIm → zLm → zPo → Prop
abbrev zCt : Type := Nat → zLo → List Value → Nat → Nat → zSh → zRf → zIm → zLm → Prop
abbrev zSc : Type := Option (Nat × (Nat → Int32))
/-- memory with one place changed -/
def zup {α : Type} (f : Nat → Nat → α) (c k : Nat) (v : α) : Nat → Nat → α := fun a j => if a = c ∧ j = k then v else f a j
/-- a fresh cell's places -/
def zfr {α : Type} (f : Nat → Nat → α) (c : Nat) (v : α) : Nat → Nat → α := fun a j => if a = c then v else f a j
def zsh (σ : zSh) (kd n : Nat) : zSh := (σ.1 + 1, fun a => if a = σ.1 then (kd, n) else σ.2 a)
/-- the place below a stored one: a long there is gone -/
def zk (o : Option Value) : Option Value := match o with
  | some (.long _) => none
  | some (.double _) => none
  | o => o
def zs1 : zLo → Nat → Value → zLo
  | [], _, _ => []
  | _ :: r, 0, v => some v :: r
  | o :: r, 1, v => zk o :: zs1 r 0 v
  | o :: r, (i + 2), v => o :: zs1 r (i + 1) v
def zs2 : zLo → Nat → Value → zLo
  | [], _, _ => []
  | _ :: r, 0, v => some v :: (match r with
    | [] => []
    | _ :: r => none :: r)
  | o :: r, 1, v => zk o :: zs2 r 0 v
  | o :: r, (i + 2), v => o :: zs2 r (i + 1) v
/-- the locals at a method's start -/
def zla : List Value → zLo
  | [] => []
  | v :: vs => if v.category = 2 then some v :: none :: zla vs else some v :: zla vs
def zen (n : Nat) (as : List Value) : zLo := zla as ++ List.replicate (n - (zla as).length) none
def zlg (ls : zLo) (i : Nat) : Option Value := (ls[i]?).join
def zfv (ty : Nat) (ρ : zRf) (I : zIm) (L : zLm) (a k : Nat) : Value := match ty with
  | 2 => .long (L a k)
  | 3 => va_rf (ρ a k)
  | _ => .int (I a k)
/-- an array's place: in range, of a cell of the kind -/
def zin (σ : zSh) (a kd : Nat) (i : Int32) : Prop := a < σ.1 ∧ (σ.2 a).1 = kd ∧ vp_in i (σ.2 a).2
def zsum (st : List Value) : Nat := (st.map fun v => v.category).sum
def zj (pc : Nat) (off : Int) (K : Nat → Prop) : Prop := match (pc : Int) + off with
  | .ofNat t => K t
  | .negSucc _ => False
def z1 (st : List Value) (K : Int32 → List Value → Prop) : Prop := match st with
  | .int x :: r => K x r
  | _ => False
def z2 (st : List Value) (K : Int32 → Int32 → List Value → Prop) : Prop := match st with
  | .int y :: .int x :: r => K x y r
  | _ => False
def z1l (st : List Value) (K : Int64 → List Value → Prop) : Prop := match st with
  | .long x :: r => K x r
  | _ => False
def z2l (st : List Value) (K : Int64 → Int64 → List Value → Prop) : Prop := match st with
  | .long y :: .long x :: r => K x y r
  | _ => False
def zli (st : List Value) (K : Int64 → Int32 → List Value → Prop) : Prop := match st with
  | .int y :: .long x :: r => K x y r
  | _ => False
def z1r (st : List Value) (K : Nat → List Value → Prop) : Prop := match st with
  | .ref a :: r => K a r
  | _ => False
def zra (st : List Value) (K : Nat → Int32 → List Value → Prop) : Prop := match st with
  | .int i :: .ref a :: r => K a i r
  | _ => False
def zia (st : List Value) (K : Nat → Int32 → Int32 → List Value → Prop) : Prop := match st with
  | .int x :: .int i :: .ref a :: r => K a i x r
  | _ => False
def zil (st : List Value) (K : Nat → Int32 → Int64 → List Value → Prop) : Prop := match st with
  | .long x :: .int i :: .ref a :: r => K a i x r
  | _ => False
def zir (st : List Value) (K : Nat → Int32 → Nat → List Value → Prop) : Prop := match st with
  | .ref x :: .int i :: .ref a :: r => K a i x r
  | _ => False
def z1v (st : List Value) (K : Value → List Value → Prop) : Prop := match st with
  | x :: r => K x r
  | _ => False
def z2v (st : List Value) (K : Value → Value → List Value → Prop) : Prop := match st with
  | x :: y :: r => K x y r
  | _ => False
/-- a call -/
def zcl (X : zCt) (B : zBd) (mm : zM) (pc : Nat) (ls : zLo) (u v : Nat) (σ : zSh) (ρ : zRf) (I : zIm) (L : zLm) (mi : Nat) (as r : List Value) : Prop := match zMs[mi]? with
  | some cm => zsum r ≤ 8 ∧ u + cm.2.2.2.2.2.1 ≤ mm.2.2.2.2.2.1 ∧ v + cm.2.2.2.2.2.2 ≤ mm.2.2.2.2.2.2 ∧ B cm as σ ρ I L (fun w σ' ρ' I' L' => X (pc + 3) ls (w.toList ++ r) (u + cm.2.2.2.2.2.1) (v + cm.2.2.2.2.2.2) σ' ρ' I' L')
  | none => False
/-- a receiver's kind -/
def zkd (σ : zSh) (a : Nat) (K : Nat → Prop) : Prop := if a < σ.1 then (σ.2 a).1 < 12 ∧ K (σ.2 a).1 else if 5000 ≤ a ∧ a < 5004 then K 20 else False
/-- the texts' bytes -/
def zbyt : List (List Int32) := [[112, 108, 97, 99, 101], [115, 101, 101, 107, 101, 114], [114, 105, 110, 103], [108, 97, 119]]
def zlen : List Nat := [5, 6, 4, 3]
/-- one field read; class 20 is String -/
def zgf (X : zCt) (mm : zM) (pc : Nat) (ls : zLo) (st : List Value) (u v : Nat) (σ : zSh) (ρ : zRf) (I : zIm) (L : zLm) (i : Nat) : Prop := z1r st fun a r =>
  if mm.2.2.2.2.1 = 20 then 5000 ≤ a ∧ a < 5004 ∧ (if i = 9 then X (pc + 3) ls (.ref (a + 1000) :: r) u v σ ρ I L else if i = 15 then X (pc + 3) ls (.int 0 :: r) u v σ ρ I L else False)
  else match zF mm.2.2.2.2.1 i with
    | some (ty, k, _, oks) => a < σ.1 ∧ (σ.2 a).1 ∈ oks ∧ X (pc + 3) ls (zfv ty ρ I L a k :: r) u v σ ρ I L
    | none => False
def zpf (X : zCt) (mm : zM) (pc : Nat) (ls : zLo) (st : List Value) (u v : Nat) (σ : zSh) (ρ : zRf) (I : zIm) (L : zLm) (i : Nat) : Prop := z2v st fun w y r => match y with
  | .ref a => match zF mm.2.2.2.2.1 i with
    | some (ty, k, fin, oks) => a < σ.1 ∧ (σ.2 a).1 ∈ oks ∧ (fin = true → mm.1.name = "<init>" ∧ (σ.2 a).1 = mm.2.2.2.2.1) ∧ (match ty, w with
        | 0, .int x => X (pc + 3) ls r u v σ ρ (zup I a k x) L
        | 1, .int x => (x = 0 ∨ x = 1) ∧ X (pc + 3) ls r u v σ ρ (zup I a k x) L
        | 2, .long x => X (pc + 3) ls r u v σ ρ I (zup L a k x)
        | 3, .ref b => X (pc + 3) ls r u v σ (zup ρ a k (some b)) I L
        | _, _ => False)
    | none => False
  | _ => False
def zret (mm : zM) (Q : zPo) (ty : Option FieldType) (u v : Nat) (o : Option Value) (σ : zSh) (ρ : zRf) (I : zIm) (L : zLm) : Prop := mm.2.2.2.1 = ty ∧ u ≤ mm.2.2.2.2.2.1 ∧ v ≤ mm.2.2.2.2.2.2 ∧ Q o σ ρ I L
def znw (x : Int32) (t : FieldType) : Prop := narrow t (.int x) = .int x
/-- new cells -/
def znew (X : zCt) (mm : zM) (pc : Nat) (ls : zLo) (r : List Value) (u v : Nat) (σ : zSh) (ρ : zRf) (I : zIm) (L : zLm) (kd n : Nat) : Prop := u + 1 ≤ mm.2.2.2.2.2.1 ∧ v + n ≤ mm.2.2.2.2.2.2 ∧ σ.1 < 4000 ∧ n ≤ 100000 ∧ X pc ls (.ref σ.1 :: r) (u + 1) (v + n) (zsh σ kd n) (zfr ρ σ.1 none) (zfr I σ.1 0) (zfr L σ.1 0)
/-- int[n][k]: the outer row, and the inner ones behind it -/
def zmul (X : zCt) (mm : zM) (pc : Nat) (ls : zLo) (r : List Value) (u v : Nat) (σ : zSh) (ρ : zRf) (I : zIm) (L : zLm) (n k : Nat) : Prop := u + (1 + n) ≤ mm.2.2.2.2.2.1 ∧ v + (n + n * k) ≤ mm.2.2.2.2.2.2 ∧ σ.1 + n < 4000 ∧ n ≤ 100 ∧ k ≤ 100 ∧
  X pc ls (.ref σ.1 :: r) (u + 1 + n) (v + n + n * k) (σ.1 + 1 + n, fun a => if a = σ.1 then (25, n) else if σ.1 < a ∧ a ≤ σ.1 + n then (20, k) else σ.2 a) (fun a j => if a = σ.1 then (if j < n then some (σ.1 + 1 + j) else none) else if σ.1 < a ∧ a ≤ σ.1 + n then none else ρ a j) (fun a j => if σ.1 ≤ a ∧ a ≤ σ.1 + n then 0 else I a j) (fun a j => if σ.1 ≤ a ∧ a ≤ σ.1 + n then 0 else L a j)
/-- arraycopy of ints -/
def zcpy (X : zCt) (pc : Nat) (ls : zLo) (st : List Value) (u v : Nat) (σ : zSh) (ρ : zRf) (I : zIm) (L : zLm) : Prop := match st with
  | .int n :: .int dp :: .ref d :: .int sp :: .ref s :: r => s < σ.1 ∧ d < σ.1 ∧ (σ.2 s).1 = 20 ∧ (σ.2 d).1 = 20 ∧ ¬ sp < 0 ∧ ¬ dp < 0 ∧ ¬ n < 0 ∧ sp.toNatClampNeg + n.toNatClampNeg ≤ (σ.2 s).2 ∧ dp.toNatClampNeg + n.toNatClampNeg ≤ (σ.2 d).2 ∧ zsum r ≤ 8 ∧ X (pc + 3) ls r u v σ ρ (fun a j => if a = d then va_cpy (I s) (I d) sp.toNatClampNeg dp.toNatClampNeg n.toNatClampNeg j else I a j) L
  | _ => False
def zkons (X : Value → Prop) (mm : zM) (i : Nat) : Prop := match zK mm.2.2.2.2.1 i with
  | some w => X w
  | none => False
/-- one instruction of length n -/
def zstp (scr : zSc) (X : zCt) (B : zBd) (mm : zM) (Q : zPo) (pc : Nat) (ls : zLo) (st : List Value) (u v : Nat) (σ : zSh) (ρ : zRf) (I : zIm) (L : zLm) (n : Nat) (ins : Instr) : Prop := match ins with
  | .iconst k => n = 1 ∧ X (pc + 1) ls (.int (Int32.ofInt k) :: st) u v σ ρ I L
  | .bipush k => n = 2 ∧ X (pc + 2) ls (.int (Int8.ofInt k).toInt32 :: st) u v σ ρ I L
  | .sipush k => n = 3 ∧ X (pc + 3) ls (.int (Int16.ofInt k).toInt32 :: st) u v σ ρ I L
  | .lconst k => n = 1 ∧ X (pc + 1) ls (.long (Int64.ofNat k) :: st) u v σ ρ I L
  | .ldc i => n = 2 ∧ zkons (fun w => match w with
      | .long _ => False
      | w => X (pc + 2) ls (w :: st) u v σ ρ I L) mm i
  | .ldc_w i => n = 3 ∧ zkons (fun w => match w with
      | .int x => X (pc + 3) ls (.int x :: st) u v σ ρ I L
      | _ => False) mm i
  | .ldc2_w i => n = 3 ∧ zkons (fun w => match w with
      | .long x => X (pc + 3) ls (.long x :: st) u v σ ρ I L
      | _ => False) mm i
  | .iload i => n = 2 ∧ (match zlg ls i with
      | some (.int x) => X (pc + 2) ls (.int x :: st) u v σ ρ I L
      | _ => False)
  | .iload_n i => n = 1 ∧ (match zlg ls i with
      | some (.int x) => X (pc + 1) ls (.int x :: st) u v σ ρ I L
      | _ => False)
  | .lload i => n = 2 ∧ (match zlg ls i with
      | some (.long x) => X (pc + 2) ls (.long x :: st) u v σ ρ I L
      | _ => False)
  | .lload_n i => n = 1 ∧ (match zlg ls i with
      | some (.long x) => X (pc + 1) ls (.long x :: st) u v σ ρ I L
      | _ => False)
  | .aload i => n = 2 ∧ (match zlg ls i with
      | some (.ref x) => X (pc + 2) ls (.ref x :: st) u v σ ρ I L
      | _ => False)
  | .aload_n i => n = 1 ∧ (match zlg ls i with
      | some (.ref x) => X (pc + 1) ls (.ref x :: st) u v σ ρ I L
      | _ => False)
  | .istore i => n = 2 ∧ z1 st fun x r => i < ls.length ∧ X (pc + 2) (zs1 ls i (.int x)) r u v σ ρ I L
  | .istore_n i => n = 1 ∧ z1 st fun x r => (i : Nat) < ls.length ∧ X (pc + 1) (zs1 ls i (.int x)) r u v σ ρ I L
  | .lstore i => n = 2 ∧ z1l st fun x r => i + 1 < ls.length ∧ X (pc + 2) (zs2 ls i (.long x)) r u v σ ρ I L
  | .lstore_n i => n = 1 ∧ z1l st fun x r => (i : Nat) + 1 < ls.length ∧ X (pc + 1) (zs2 ls i (.long x)) r u v σ ρ I L
  | .astore i => n = 2 ∧ z1r st fun x r => i < ls.length ∧ X (pc + 2) (zs1 ls i (.ref x)) r u v σ ρ I L
  | .astore_n i => n = 1 ∧ z1r st fun x r => (i : Nat) < ls.length ∧ X (pc + 1) (zs1 ls i (.ref x)) r u v σ ρ I L
  | .iinc i k => n = 3 ∧ (match zlg ls i with
      | some (.int x) => X (pc + 3) (zs1 ls i (.int (x + Int32.ofInt k))) st u v σ ρ I L
      | _ => False)
  | .iadd => n = 1 ∧ z2 st fun x y r => X (pc + 1) ls (.int (x + y) :: r) u v σ ρ I L
  | .isub => n = 1 ∧ z2 st fun x y r => X (pc + 1) ls (.int (x - y) :: r) u v σ ρ I L
  | .imul => n = 1 ∧ z2 st fun x y r => X (pc + 1) ls (.int (x * y) :: r) u v σ ρ I L
  | .iand => n = 1 ∧ z2 st fun x y r => X (pc + 1) ls (.int (x &&& y) :: r) u v σ ρ I L
  | .ior => n = 1 ∧ z2 st fun x y r => X (pc + 1) ls (.int (x ||| y) :: r) u v σ ρ I L
  | .ishl => n = 1 ∧ z2 st fun x y r => X (pc + 1) ls (.int (x <<< (y &&& 31)) :: r) u v σ ρ I L
  | .ishr => n = 1 ∧ z2 st fun x y r => X (pc + 1) ls (.int (x >>> (y &&& 31)) :: r) u v σ ρ I L
  | .iushr => n = 1 ∧ z2 st fun x y r => X (pc + 1) ls (.int (x.toUInt32 >>> (y.toUInt32 &&& Int32.toUInt32 31)).toInt32 :: r) u v σ ρ I L
  | .idiv => n = 1 ∧ z2 st fun x y r => ¬ y = 0 ∧ X (pc + 1) ls (.int (x / y) :: r) u v σ ρ I L
  | .irem => n = 1 ∧ z2 st fun x y r => ¬ y = 0 ∧ X (pc + 1) ls (.int (x - x / y * y) :: r) u v σ ρ I L
  | .ladd => n = 1 ∧ z2l st fun x y r => X (pc + 1) ls (.long (x + y) :: r) u v σ ρ I L
  | .lsub => n = 1 ∧ z2l st fun x y r => X (pc + 1) ls (.long (x - y) :: r) u v σ ρ I L
  | .lmul => n = 1 ∧ z2l st fun x y r => X (pc + 1) ls (.long (x * y) :: r) u v σ ρ I L
  | .land => n = 1 ∧ z2l st fun x y r => X (pc + 1) ls (.long (x &&& y) :: r) u v σ ρ I L
  | .lor => n = 1 ∧ z2l st fun x y r => X (pc + 1) ls (.long (x ||| y) :: r) u v σ ρ I L
  | .ldiv => n = 1 ∧ z2l st fun x y r => ¬ y = 0 ∧ X (pc + 1) ls (.long (x / y) :: r) u v σ ρ I L
  | .lrem => n = 1 ∧ z2l st fun x y r => ¬ y = 0 ∧ X (pc + 1) ls (.long (x - x / y * y) :: r) u v σ ρ I L
  | .lcmp => n = 1 ∧ z2l st fun x y r => X (pc + 1) ls (.int (lg_cmp x y) :: r) u v σ ρ I L
  | .lshl => n = 1 ∧ zli st fun x y r => X (pc + 1) ls (.long (x <<< (y.toInt64 &&& 63)) :: r) u v σ ρ I L
  | .lshr => n = 1 ∧ zli st fun x y r => X (pc + 1) ls (.long (x >>> (y.toInt64 &&& 63)) :: r) u v σ ρ I L
  | .lushr => n = 1 ∧ zli st fun x y r => X (pc + 1) ls (.long (x.toUInt64 >>> (y.toInt64.toUInt64 &&& Int64.toUInt64 63)).toInt64 :: r) u v σ ρ I L
  | .i2l => n = 1 ∧ z1 st fun x r => X (pc + 1) ls (.long x.toInt64 :: r) u v σ ρ I L
  | .i2c => n = 1 ∧ z1 st fun x r => X (pc + 1) ls (.int (x.toUInt32 % 65536).toInt32 :: r) u v σ ρ I L
  | .l2i => n = 1 ∧ z1l st fun x r => X (pc + 1) ls (.int x.toInt32 :: r) u v σ ρ I L
  | .pop => n = 1 ∧ z1v st fun w r => w.category = 1 ∧ X (pc + 1) ls r u v σ ρ I L
  | .dup => n = 1 ∧ z1v st fun w r => w.category = 1 ∧ X (pc + 1) ls (w :: w :: r) u v σ ρ I L
  | .dup2 => n = 1 ∧ z1v st fun w r => if w.category = 2 then X (pc + 1) ls (w :: w :: r) u v σ ρ I L else z1v r fun y r => w.category = 1 ∧ y.category = 1 ∧ X (pc + 1) ls (w :: y :: w :: y :: r) u v σ ρ I L
  | .goto off => n = 3 ∧ zj pc off fun t => X t ls st u v σ ρ I L
  | .ifCond .eq off => n = 3 ∧ z1 st fun x r => zj pc off fun t => if x = 0 then X t ls r u v σ ρ I L else X (pc + 3) ls r u v σ ρ I L
  | .ifCond .ne off => n = 3 ∧ z1 st fun x r => zj pc off fun t => if x = 0 then X (pc + 3) ls r u v σ ρ I L else X t ls r u v σ ρ I L
  | .ifCond .lt off => n = 3 ∧ z1 st fun x r => zj pc off fun t => if x < 0 then X t ls r u v σ ρ I L else X (pc + 3) ls r u v σ ρ I L
  | .ifCond .ge off => n = 3 ∧ z1 st fun x r => zj pc off fun t => if 0 ≤ x then X t ls r u v σ ρ I L else X (pc + 3) ls r u v σ ρ I L
  | .ifCond .gt off => n = 3 ∧ z1 st fun x r => zj pc off fun t => if 0 < x then X t ls r u v σ ρ I L else X (pc + 3) ls r u v σ ρ I L
  | .ifCond .le off => n = 3 ∧ z1 st fun x r => zj pc off fun t => if x ≤ 0 then X t ls r u v σ ρ I L else X (pc + 3) ls r u v σ ρ I L
  | .if_icmp .eq off => n = 3 ∧ z2 st fun x y r => zj pc off fun t => if x = y then X t ls r u v σ ρ I L else X (pc + 3) ls r u v σ ρ I L
  | .if_icmp .ne off => n = 3 ∧ z2 st fun x y r => zj pc off fun t => if x = y then X (pc + 3) ls r u v σ ρ I L else X t ls r u v σ ρ I L
  | .if_icmp .lt off => n = 3 ∧ z2 st fun x y r => zj pc off fun t => if x < y then X t ls r u v σ ρ I L else X (pc + 3) ls r u v σ ρ I L
  | .if_icmp .ge off => n = 3 ∧ z2 st fun x y r => zj pc off fun t => if y ≤ x then X t ls r u v σ ρ I L else X (pc + 3) ls r u v σ ρ I L
  | .if_icmp .gt off => n = 3 ∧ z2 st fun x y r => zj pc off fun t => if y < x then X t ls r u v σ ρ I L else X (pc + 3) ls r u v σ ρ I L
  | .if_icmp .le off => n = 3 ∧ z2 st fun x y r => zj pc off fun t => if x ≤ y then X t ls r u v σ ρ I L else X (pc + 3) ls r u v σ ρ I L
  | .tableswitch dflt lo hi offs => z1 st fun x r => if x.toInt < lo ∨ hi < x.toInt then zj pc dflt fun t => X t ls r u v σ ρ I L else (match offs[(x.toInt - lo).toNat]? with
      | some off => zj pc off fun t => X t ls r u v σ ρ I L
      | none => False)
  | .getfield i => n = 3 ∧ zgf X mm pc ls st u v σ ρ I L i
  | .putfield i => n = 3 ∧ zpf X mm pc ls st u v σ ρ I L i
  | .getstatic i => n = 3 ∧ mm.2.2.2.2.1 = 20 ∧ (if i = 38 then X (pc + 3) ls (.int 1 :: st) u v σ ρ I L else if i = 1053 then X (pc + 3) ls (.retAddr 0 :: st) u v σ ρ I L else False)
  | .iaload => n = 1 ∧ zra st fun a i r => if a = 7000 then (match scr with
      | some (N, xs) => vp_in i N ∧ X (pc + 1) ls (.int (xs i.toNatClampNeg) :: r) u v σ ρ I L
      | none => False) else zin σ a 20 i ∧ X (pc + 1) ls (.int (I a i.toNatClampNeg) :: r) u v σ ρ I L
  | .baload => n = 1 ∧ zra st fun a i r => if 6000 ≤ a ∧ a < 6004 then vp_in i (zlen.getD (a - 6000) 0) ∧ X (pc + 1) ls (.int ((zbyt.getD (a - 6000) []).getD i.toNatClampNeg 0) :: r) u v σ ρ I L else zin σ a 21 i ∧ X (pc + 1) ls (.int (I a i.toNatClampNeg) :: r) u v σ ρ I L
  | .laload => n = 1 ∧ zra st fun a i r => zin σ a 22 i ∧ X (pc + 1) ls (.long (L a i.toNatClampNeg) :: r) u v σ ρ I L
  | .aaload => n = 1 ∧ zra st fun a i r => a < σ.1 ∧ ((σ.2 a).1 = 23 ∨ (σ.2 a).1 = 24 ∨ (σ.2 a).1 = 25) ∧ vp_in i (σ.2 a).2 ∧ X (pc + 1) ls (va_rf (ρ a i.toNatClampNeg) :: r) u v σ ρ I L
  | .iastore => n = 1 ∧ zia st fun a i x r => zin σ a 20 i ∧ X (pc + 1) ls r u v σ ρ (zup I a i.toNatClampNeg x) L
  | .bastore => n = 1 ∧ zia st fun a i x r => zin σ a 21 i ∧ (x = 0 ∨ x = 1) ∧ X (pc + 1) ls r u v σ ρ (zup I a i.toNatClampNeg x) L
  | .lastore => n = 1 ∧ zil st fun a i x r => zin σ a 22 i ∧ X (pc + 1) ls r u v σ ρ I (zup L a i.toNatClampNeg x)
  | .aastore => n = 1 ∧ zir st fun a i b r => a < σ.1 ∧ b < σ.1 ∧ vp_in i (σ.2 a).2 ∧ ((σ.2 a).1 = 23 ∧ (σ.2 b).1 = 7 ∨ (σ.2 a).1 = 24 ∧ 1 ≤ (σ.2 b).1 ∧ (σ.2 b).1 ≤ 6) ∧ X (pc + 1) ls r u v σ (zup ρ a i.toNatClampNeg (some b)) I L
  | .arraylength => n = 1 ∧ z1r st fun a r => if a = 7000 then (match scr with
      | some (N, _) => X (pc + 1) ls (.int (Int32.ofNat N) :: r) u v σ ρ I L
      | none => False) else if 6000 ≤ a ∧ a < 6004 then X (pc + 1) ls (.int (Int32.ofNat (zlen.getD (a - 6000) 0)) :: r) u v σ ρ I L else a < σ.1 ∧ 20 ≤ (σ.2 a).1 ∧ (σ.2 a).1 ≤ 25 ∧ X (pc + 1) ls (.int (Int32.ofNat (σ.2 a).2) :: r) u v σ ρ I L
  | .new i => n = 3 ∧ (match zN mm.2.2.2.2.1 i with
      | some ci => znew X mm (pc + 3) ls st u v σ ρ I L ci ((zfl.getD ci []).length)
      | none => False)
  | .newarray ty => n = 2 ∧ z1 st fun x r => ¬ x < 0 ∧ (match ty with
      | .int => znew X mm (pc + 2) ls r u v σ ρ I L 20 x.toNatClampNeg
      | .boolean => znew X mm (pc + 2) ls r u v σ ρ I L 21 x.toNatClampNeg
      | .long => znew X mm (pc + 2) ls r u v σ ρ I L 22 x.toNatClampNeg
      | _ => False)
  | .anewarray i => n = 3 ∧ z1 st fun x r => ¬ x < 0 ∧ (match zA mm.2.2.2.2.1 i with
      | some kd => znew X mm (pc + 3) ls r u v σ ρ I L kd x.toNatClampNeg
      | none => False)
  | .multianewarray i d => n = 4 ∧ d = 2 ∧ mm.2.2.2.2.1 = 9 ∧ i = 33 ∧ z2 st fun x y r => ¬ x < 0 ∧ ¬ y < 0 ∧ zmul X mm (pc + 4) ls r u v σ ρ I L x.toNatClampNeg y.toNatClampNeg
  | .invokevirtual i => n = 3 ∧ (match zV mm.2.2.2.2.1 i with
      | some (k, ts) => z1r (st.drop k) fun a r => zkd σ a fun kd => (match ts.find? (fun t => t.1 == kd) with
          | some t => zcl X B mm pc ls u v σ ρ I L t.2.1 (.ref a :: (st.take k).reverse) r
          | none => False)
      | none => False)
  | .invokespecial i => n = 3 ∧ (if zO mm.2.2.2.2.1 i = true then z1r st fun _ r => zsum r ≤ 8 ∧ X (pc + 3) ls r u v σ ρ I L else match zI mm.2.2.2.2.1 i with
      | some (k, mi, _) => z1r (st.drop k) fun a r => a < σ.1 ∧ (σ.2 a).1 < 12 ∧ zcl X B mm pc ls u v σ ρ I L mi (.ref a :: (st.take k).reverse) r
      | none => False)
  | .invokestatic i => n = 3 ∧ (if mm.2.2.2.2.1 = 0 ∧ i = 44 then zcpy X pc ls st u v σ ρ I L
      else if mm.2.2.2.2.1 = zBmax.1 ∧ i = zBmax.2 then z2 st fun x y r => zsum r ≤ 8 ∧ u ≤ mm.2.2.2.2.2.1 ∧ v ≤ mm.2.2.2.2.2.2 ∧ X (pc + 3) ls (.int (if x < y then y else x) :: r) u v σ ρ I L
      else if mm.2.2.2.2.1 = zBmin.1 ∧ i = zBmin.2 then z2 st fun x y r => zsum r ≤ 8 ∧ u ≤ mm.2.2.2.2.2.1 ∧ v ≤ mm.2.2.2.2.2.2 ∧ X (pc + 3) ls (.int (if y < x then y else x) :: r) u v σ ρ I L
      else match zS mm.2.2.2.2.1 i with
        | some (k, mi) => k ≤ st.length ∧ zcl X B mm pc ls u v σ ρ I L mi (st.take k).reverse (st.drop k)
        | none => False)
  | .ireturn => n = 1 ∧ (match st with
      | [.int x] => (match mm.2.2.2.1 with
        | some ty => znw x ty ∧ zret mm Q (some ty) u v (some (.int x)) σ ρ I L
        | none => False)
      | _ => False)
  | .lreturn => n = 1 ∧ (match st with
      | [.long x] => zret mm Q (some .long) u v (some (.long x)) σ ρ I L
      | _ => False)
  | .return_ => n = 1 ∧ (match st with
      | [] => zret mm Q none u v none σ ρ I L
      | _ => False)
  | _ => False
def zst (scr : zSc) (X : zCt) (B : zBd) (mm : zM) (Q : zPo) (pc : Nat) (ls : zLo) (st : List Value) (u v : Nat) (σ : zSh) (ρ : zRf) (I : zIm) (L : zLm) : Prop := match decode mm.2.1 pc with
  | .ok (ins, n) => zstp scr X B mm Q pc ls st u v σ ρ I L n ins
  | _ => False
/-- what a frame comes to -/
def zR (scr : zSc) (B : zBd) (mm : zM) (Q : zPo) : zCt := fun pc ls st u v σ ρ I L => ∀ X : zCt, (∀ pc ls st u v σ ρ I L, zst scr X B mm Q pc ls st u v σ ρ I L → X pc ls st u v σ ρ I L) → X pc ls st u v σ ρ I L
/-- what a call comes to -/
def zW : Nat → zBd
  | 0 => fun _ _ _ _ _ _ _ => False
  | d + 1 => fun mm as σ ρ I L Q => (zla as).length ≤ mm.2.2.1 ∧ zR none (zW d) mm Q 0 (zen mm.2.2.1 as) [] 0 0 σ ρ I L
end
section
/-! 'zstp' grows with what it goes on with: so 'zR' is one step of itself -/
def zBmono (B : zBd) : Prop := ∀ mm as σ ρ I L (Q Q' : zPo), (∀ o σ ρ I L, Q o σ ρ I L → Q' o σ ρ I L) → B mm as σ ρ I L Q → B mm as σ ρ I L Q'
theorem zcl_mono {X X' : zCt} {B : zBd} (hB : zBmono B) (hX : ∀ pc ls st u v σ ρ I L, X pc ls st u v σ ρ I L → X' pc ls st u v σ ρ I L) {mm pc ls u v σ ρ I L mi as r} (h : zcl X B mm pc ls u v σ ρ I L mi as r) : zcl X' B mm pc ls u v σ ρ I L mi as r := by
  unfold zcl at h ⊢
  split at h
  · exact ⟨h.1, h.2.1, h.2.2.1, hB _ _ _ _ _ _ _ _ (fun o σ ρ I L q => hX _ _ _ _ _ _ _ _ _ q) h.2.2.2⟩
  · exact h
theorem z1_mono {st : List Value} {K K' : Int32 → List Value → Prop} (h : ∀ x r, K x r → K' x r) (q : z1 st K) : z1 st K' := by
  unfold z1 at q ⊢; split at q <;> first | exact h _ _ q | exact q
theorem z2_mono {st : List Value} {K K' : Int32 → Int32 → List Value → Prop} (h : ∀ x y r, K x y r → K' x y r) (q : z2 st K) : z2 st K' := by
  unfold z2 at q ⊢; split at q <;> first | exact h _ _ _ q | exact q
theorem z1l_mono {st : List Value} {K K' : Int64 → List Value → Prop} (h : ∀ x r, K x r → K' x r) (q : z1l st K) : z1l st K' := by
  unfold z1l at q ⊢; split at q <;> first | exact h _ _ q | exact q
theorem z2l_mono {st : List Value} {K K' : Int64 → Int64 → List Value → Prop} (h : ∀ x y r, K x y r → K' x y r) (q : z2l st K) : z2l st K' := by
  unfold z2l at q ⊢; split at q <;> first | exact h _ _ _ q | exact q
theorem zli_mono {st : List Value} {K K' : Int64 → Int32 → List Value → Prop} (h : ∀ x y r, K x y r → K' x y r) (q : zli st K) : zli st K' := by
  unfold zli at q ⊢; split at q <;> first | exact h _ _ _ q | exact q
theorem z1r_mono {st : List Value} {K K' : Nat → List Value → Prop} (h : ∀ x r, K x r → K' x r) (q : z1r st K) : z1r st K' := by
  unfold z1r at q ⊢; split at q <;> first | exact h _ _ q | exact q
theorem zra_mono {st : List Value} {K K' : Nat → Int32 → List Value → Prop} (h : ∀ x y r, K x y r → K' x y r) (q : zra st K) : zra st K' := by
  unfold zra at q ⊢; split at q <;> first | exact h _ _ _ q | exact q
theorem zia_mono {st : List Value} {K K' : Nat → Int32 → Int32 → List Value → Prop} (h : ∀ x y z r, K x y z r → K' x y z r) (q : zia st K) : zia st K' := by
  unfold zia at q ⊢; split at q <;> first | exact h _ _ _ _ q | exact q
theorem zil_mono {st : List Value} {K K' : Nat → Int32 → Int64 → List Value → Prop} (h : ∀ x y z r, K x y z r → K' x y z r) (q : zil st K) : zil st K' := by
  unfold zil at q ⊢; split at q <;> first | exact h _ _ _ _ q | exact q
theorem zir_mono {st : List Value} {K K' : Nat → Int32 → Nat → List Value → Prop} (h : ∀ x y z r, K x y z r → K' x y z r) (q : zir st K) : zir st K' := by
  unfold zir at q ⊢; split at q <;> first | exact h _ _ _ _ q | exact q
theorem z1v_mono {st : List Value} {K K' : Value → List Value → Prop} (h : ∀ x r, K x r → K' x r) (q : z1v st K) : z1v st K' := by
  unfold z1v at q ⊢; split at q <;> first | exact h _ _ q | exact q
theorem z2v_mono {st : List Value} {K K' : Value → Value → List Value → Prop} (h : ∀ x y r, K x y r → K' x y r) (q : z2v st K) : z2v st K' := by
  unfold z2v at q ⊢; split at q <;> first | exact h _ _ _ q | exact q
theorem zj_mono {pc off} {K K' : Nat → Prop} (h : ∀ t, K t → K' t) (q : zj pc off K) : zj pc off K' := by
  unfold zj at q ⊢; split at q <;> first | exact h _ q | exact q
theorem zif_mono {c A B A' B' : Prop} [Decidable c] (h1 : A → A') (h2 : B → B') (q : if c then A else B) : if c then A' else B' := by
  by_cases hc : c
  · rw [if_pos hc] at q ⊢; exact h1 q
  · rw [if_neg hc] at q ⊢; exact h2 q
theorem zkd_mono {σ a} {K K' : Nat → Prop} (h : ∀ t, K t → K' t) (q : zkd σ a K) : zkd σ a K' := zif_mono (fun q => ⟨q.1, h _ q.2⟩) (zif_mono (h _) id) q
theorem zkons_mono {K K' : Value → Prop} {mm i} (h : ∀ t, K t → K' t) (q : zkons K mm i) : zkons K' mm i := by
  unfold zkons at q ⊢; split at q <;> first | exact h _ q | exact q
theorem zgf_mono {X X' : zCt} (hX : ∀ pc ls st u v σ ρ I L, X pc ls st u v σ ρ I L → X' pc ls st u v σ ρ I L) {mm pc ls st u v σ ρ I L i} (h : zgf X mm pc ls st u v σ ρ I L i) : zgf X' mm pc ls st u v σ ρ I L i := by
  unfold zgf at h ⊢
  refine z1r_mono (fun a r q => zif_mono (fun q => ⟨q.1, q.2.1, zif_mono (hX _ _ _ _ _ _ _ _ _) (zif_mono (hX _ _ _ _ _ _ _ _ _) id) q.2.2⟩) (fun q => ?_) q) h
  split at q
  · exact ⟨q.1, q.2.1, hX _ _ _ _ _ _ _ _ _ q.2.2⟩
  · exact q
theorem zpf_mono {X X' : zCt} (hX : ∀ pc ls st u v σ ρ I L, X pc ls st u v σ ρ I L → X' pc ls st u v σ ρ I L) {mm pc ls st u v σ ρ I L i} (h : zpf X mm pc ls st u v σ ρ I L i) : zpf X' mm pc ls st u v σ ρ I L i := by
  unfold zpf at h ⊢
  refine z2v_mono (fun w y r q => ?_) h
  split at q
  · split at q
    · refine ⟨q.1, q.2.1, q.2.2.1, ?_⟩
      have q := q.2.2.2
      split at q
      · exact hX _ _ _ _ _ _ _ _ _ q
      · exact ⟨q.1, hX _ _ _ _ _ _ _ _ _ q.2⟩
      · exact hX _ _ _ _ _ _ _ _ _ q
      · exact hX _ _ _ _ _ _ _ _ _ q
      · exact q
    · exact q
  · exact q
theorem znew_mono {X X' : zCt} (hX : ∀ pc ls st u v σ ρ I L, X pc ls st u v σ ρ I L → X' pc ls st u v σ ρ I L) {mm pc ls st u v σ ρ I L kd n} (h : znew X mm pc ls st u v σ ρ I L kd n) : znew X' mm pc ls st u v σ ρ I L kd n := ⟨h.1, h.2.1, h.2.2.1, h.2.2.2.1, hX _ _ _ _ _ _ _ _ _ h.2.2.2.2⟩
theorem zmul_mono {X X' : zCt} (hX : ∀ pc ls st u v σ ρ I L, X pc ls st u v σ ρ I L → X' pc ls st u v σ ρ I L) {mm pc ls st u v σ ρ I L n k} (h : zmul X mm pc ls st u v σ ρ I L n k) : zmul X' mm pc ls st u v σ ρ I L n k := ⟨h.1, h.2.1, h.2.2.1, h.2.2.2.1, h.2.2.2.2.1, hX _ _ _ _ _ _ _ _ _ h.2.2.2.2.2⟩
theorem zcpy_mono {X X' : zCt} (hX : ∀ pc ls st u v σ ρ I L, X pc ls st u v σ ρ I L → X' pc ls st u v σ ρ I L) {pc ls st u v σ ρ I L} (h : zcpy X pc ls st u v σ ρ I L) : zcpy X' pc ls st u v σ ρ I L := by
  unfold zcpy at h ⊢
  split at h
  · obtain ⟨a1, a2, a3, a4, a5, a6, a7, a8, a9, a10, a11⟩ := h
    exact ⟨a1, a2, a3, a4, a5, a6, a7, a8, a9, a10, hX _ _ _ _ _ _ _ _ _ a11⟩
  · exact h
theorem zret_mono {mm Q Q' ty u v o σ ρ I L} (hQ : ∀ o σ ρ I L, Q o σ ρ I L → Q' o σ ρ I L) (h : zret mm Q ty u v o σ ρ I L) : zret mm Q' ty u v o σ ρ I L := ⟨h.1, h.2.1, h.2.2.1, hQ _ _ _ _ _ h.2.2.2⟩
set_option maxHeartbeats 4000000 in
theorem zstp_mono {scr : zSc} {X X' : zCt} {B : zBd} {mm : zM} {Q Q' : zPo} (hB : zBmono B) (hX : ∀ pc ls st u v σ ρ I L, X pc ls st u v σ ρ I L → X' pc ls st u v σ ρ I L) (hQ : ∀ o σ ρ I L, Q o σ ρ I L → Q' o σ ρ I L)
    {pc ls st u v σ ρ I L n ins} (h : zstp scr X B mm Q pc ls st u v σ ρ I L n ins) : zstp scr X' B mm Q' pc ls st u v σ ρ I L n ins := by
  have hx : ∀ {pc ls st u v σ ρ I L}, X pc ls st u v σ ρ I L → X' pc ls st u v σ ρ I L := fun q => hX _ _ _ _ _ _ _ _ _ q
  unfold zstp at h ⊢
  split at h
  all_goals first
    | exact h
    | exact ⟨h.1, hx h.2⟩
    | (refine ⟨h.1, ?_⟩; have h := h.2; first
      | (split at h <;> first | exact hx h | exact h; done)
      | exact z1_mono (fun _ _ q => hx q) h
      | exact z2_mono (fun _ _ _ q => hx q) h
      | exact z2_mono (fun _ _ _ q => ⟨q.1, hx q.2⟩) h
      | exact z2l_mono (fun _ _ _ q => hx q) h
      | exact z2l_mono (fun _ _ _ q => ⟨q.1, hx q.2⟩) h
      | exact zli_mono (fun _ _ _ q => hx q) h
      | exact z1l_mono (fun _ _ q => hx q) h
      | exact z1_mono (fun _ _ q => ⟨q.1, hx q.2⟩) h
      | exact z1l_mono (fun _ _ q => ⟨q.1, hx q.2⟩) h
      | exact z1r_mono (fun _ _ q => ⟨q.1, hx q.2⟩) h
      | exact z1v_mono (fun _ _ q => ⟨q.1, hx q.2⟩) h
      | exact z1v_mono (fun _ _ q => zif_mono hx (fun q => z1v_mono (fun _ _ q => ⟨q.1, q.2.1, hx q.2.2⟩) q) q) h
      | exact zj_mono (fun _ q => hx q) h
      | exact z1_mono (fun _ _ q => zj_mono (fun _ q => zif_mono (fun q => hx q) (fun q => hx q) q) q) h
      | exact z2_mono (fun _ _ _ q => zj_mono (fun _ q => zif_mono (fun q => hx q) (fun q => hx q) q) q) h
      | exact zia_mono (fun _ _ _ _ q => ⟨q.1, hx q.2⟩) h
      | exact zia_mono (fun _ _ _ _ q => ⟨q.1, q.2.1, hx q.2.2⟩) h
      | exact zil_mono (fun _ _ _ _ q => ⟨q.1, hx q.2⟩) h
      | exact zra_mono (fun _ _ _ q => ⟨q.1, hx q.2⟩) h
      | exact zra_mono (fun _ _ _ q => ⟨q.1, q.2.1, q.2.2.1, hx q.2.2.2⟩) h
      | exact zra_mono (fun _ _ _ q => zif_mono (fun q => ⟨q.1, hx q.2⟩) (fun q => ⟨q.1, hx q.2⟩) q) h
      | exact zra_mono (fun _ _ _ q => zif_mono (fun q => by split at q; exact ⟨q.1, hx q.2⟩; exact q) (fun q => ⟨q.1, hx q.2⟩) q) h
      | exact zir_mono (fun _ _ _ _ q => ⟨q.1, q.2.1, q.2.2.1, q.2.2.2.1, hx q.2.2.2.2⟩) h
      | exact z1r_mono (fun _ _ q => zif_mono (fun q => by split at q; exact hx q; exact q) (fun q => zif_mono (fun q => hx q) (fun q => ⟨q.1, q.2.1, q.2.2.1, hx q.2.2.2⟩) q) q) h)
    | skip
  · refine ⟨h.1, zkons_mono (fun w q => ?_) h.2⟩
    split at q
    · exact q
    · exact hx q
  · refine ⟨h.1, zkons_mono (fun w q => ?_) h.2⟩
    split at q
    · exact hx q
    · exact q
  · refine ⟨h.1, zkons_mono (fun w q => ?_) h.2⟩
    split at q
    · exact hx q
    · exact q
  · refine z1_mono (fun x r q => zif_mono (fun q => zj_mono (fun _ q => hx q) q) (fun q => ?_) q) h
    split at q
    · exact zj_mono (fun _ q => hx q) q
    · exact q
  · exact ⟨h.1, zgf_mono hX h.2⟩
  · exact ⟨h.1, zpf_mono hX h.2⟩
  · exact ⟨h.1, h.2.1, zif_mono hx (zif_mono hx id) h.2.2⟩
  · refine ⟨h.1, ?_⟩
    have h := h.2
    split at h
    · exact znew_mono hX h
    · exact h
  · refine ⟨h.1, z1_mono (fun x r q => ⟨q.1, ?_⟩) h.2⟩
    have q := q.2
    split at q
    · exact znew_mono hX q
    · exact znew_mono hX q
    · exact znew_mono hX q
    · exact q
  · refine ⟨h.1, z1_mono (fun x r q => ⟨q.1, ?_⟩) h.2⟩
    have q := q.2
    split at q
    · exact znew_mono hX q
    · exact q
  · exact ⟨h.1, h.2.1, h.2.2.1, h.2.2.2.1, z2_mono (fun x y r q => ⟨q.1, q.2.1, zmul_mono hX q.2.2⟩) h.2.2.2.2⟩
  · refine ⟨h.1, ?_⟩
    have h := h.2
    split at h
    · refine z1r_mono (fun a r q => zkd_mono (fun kd q => ?_) q) h
      split at q
      · exact zcl_mono hB hX q
      · exact q
    · exact h
  · refine ⟨h.1, zif_mono (fun q => z1r_mono (fun _ _ q => ⟨q.1, hx q.2⟩) q) (fun q => ?_) h.2⟩
    split at q
    · exact z1r_mono (fun _ _ q => ⟨q.1, q.2.1, zcl_mono hB hX q.2.2⟩) q
    · exact q
  · refine ⟨h.1, zif_mono (zcpy_mono hX) (zif_mono (z2_mono (fun _ _ _ q => ⟨q.1, q.2.1, q.2.2.1, hx q.2.2.2⟩)) (zif_mono (z2_mono (fun _ _ _ q => ⟨q.1, q.2.1, q.2.2.1, hx q.2.2.2⟩)) (fun q => ?_))) h.2⟩
    split at q
    · exact ⟨q.1, zcl_mono hB hX q.2⟩
    · exact q
  · refine ⟨h.1, ?_⟩
    have h := h.2
    split at h
    · split at h
      · exact ⟨h.1, zret_mono hQ h.2⟩
      · exact h
    · exact h
  · refine ⟨h.1, ?_⟩
    have h := h.2
    split at h
    · exact zret_mono hQ h
    · exact h
  · refine ⟨h.1, ?_⟩
    have h := h.2
    split at h
    · exact zret_mono hQ h
    · exact h
theorem zst_mono {scr : zSc} {X X' : zCt} {B : zBd} {mm : zM} {Q Q' : zPo} (hB : zBmono B) (hX : ∀ pc ls st u v σ ρ I L, X pc ls st u v σ ρ I L → X' pc ls st u v σ ρ I L) (hQ : ∀ o σ ρ I L, Q o σ ρ I L → Q' o σ ρ I L)
    {pc ls st u v σ ρ I L} (h : zst scr X B mm Q pc ls st u v σ ρ I L) : zst scr X' B mm Q' pc ls st u v σ ρ I L := by
  unfold zst at h ⊢
  split at h
  · exact zstp_mono hB hX hQ h
  · exact h
theorem zR_fold {scr B mm Q} (hB : zBmono B) {pc ls st u v σ ρ I L} (h : zst scr (zR scr B mm Q) B mm Q pc ls st u v σ ρ I L) : zR scr B mm Q pc ls st u v σ ρ I L :=
  fun X hX => hX _ _ _ _ _ _ _ _ _ (zst_mono hB (fun _ _ _ _ _ _ _ _ _ q => q X hX) (fun _ _ _ _ _ q => q) h)
theorem zR_unfold {scr B mm Q} (hB : zBmono B) {pc ls st u v σ ρ I L} (h : zR scr B mm Q pc ls st u v σ ρ I L) : zst scr (zR scr B mm Q) B mm Q pc ls st u v σ ρ I L :=
  h (fun pc ls st u v σ ρ I L => zst scr (zR scr B mm Q) B mm Q pc ls st u v σ ρ I L) (fun _ _ _ _ _ _ _ _ _ q => zst_mono hB (fun _ _ _ _ _ _ _ _ _ q => zR_fold hB q) (fun _ _ _ _ _ q => q) q)
theorem zR_post {scr B mm} {Q Q' : zPo} (hB : zBmono B) (hQ : ∀ o σ ρ I L, Q o σ ρ I L → Q' o σ ρ I L) {pc ls st u v σ ρ I L} (h : zR scr B mm Q pc ls st u v σ ρ I L) : zR scr B mm Q' pc ls st u v σ ρ I L :=
  h (zR scr B mm Q') (fun _ _ _ _ _ _ _ _ _ q => zR_fold hB (zst_mono hB (fun _ _ _ _ _ _ _ _ _ q => q) hQ q))
theorem zW_mono : ∀ d, zBmono (zW d)
  | 0 => fun _ _ _ _ _ _ _ _ _ h => h
  | d + 1 => fun _ _ _ _ _ _ _ _ hQ h => ⟨h.1, zR_post (zW_mono d) hQ h.2⟩
/-- one step of a frame, as an equation -/
theorem zR_eq {scr d mm Q pc ls st u v σ ρ I L} : zR scr (zW d) mm Q pc ls st u v σ ρ I L = zst scr (zR scr (zW d) mm Q) (zW d) mm Q pc ls st u v σ ρ I L := propext ⟨zR_unfold (zW_mono d), zR_fold (zW_mono d)⟩
theorem zR_op {scr d mm Q pc ls st u v σ ρ I L ins n} (hd : decode mm.2.1 pc = .ok (ins, n)) : zR scr (zW d) mm Q pc ls st u v σ ρ I L = zstp scr (zR scr (zW d) mm Q) (zW d) mm Q pc ls st u v σ ρ I L n ins := by
  rw [zR_eq]; unfold zst; rw [hd]
end
section
/-! WHAT THE NUMBERS STAND FOR -/
/-- base; the texts' addresses, their bytes'; the script's; the formatter; the classes and their slots; the arrays' classes by kind -/
abbrev zE : Type := Nat × (Nat → Nat) × (Nat → Nat) × Nat × Value × va_G × (Nat → ClassId)
def zAd (E : zE) : Nat → Prop := fun q => E.1 ≤ q
def zad (E : zE) (a : Nat) : Nat := if a < 5000 then E.1 + a else if a < 6000 then E.2.1 (a - 5000) else if a < 7000 then E.2.2.1 (a - 6000) else E.2.2.2.1
def zco (E : zE) : Value → Value
  | .ref a => .ref (zad E a)
  | .retAddr _ => E.2.2.2.2.1
  | v => v
def zTG : List Cond := lw_tbl.filter goodWord
theorem zTG_in {i : Nat} {w : Cond} (h : lw_tbl[i]? = some w) (hg : goodWord w = true) : w ∈ zTG := List.mem_filter.mpr ⟨List.mem_of_getElem? h, hg⟩
theorem zTG_good : ∀ w ∈ zTG, (w.onTables && w.keeps) = true ∨ ∃ ty, w = .arrayClass ty := fun _ h => good_of_word (List.mem_filter.mp h).2
theorem zal_in {ws : List Cond} {ix : List Nat} (h : zal ws ix = true) : ∀ w ∈ ws, w ∈ zTG := by
  unfold zal at h
  rw [Bool.and_eq_true, beq_iff_eq, List.all_eq_true] at h
  intro w hw
  obtain ⟨k, hk, rfl⟩ := List.mem_iff_getElem.mp hw
  have hk2 : k < ix.length := by omega
  have hm : (ws[k], ix[k]) ∈ ws.zip ix := by
    rw [List.mem_iff_getElem]
    exact ⟨k, by simp; omega, by simp⟩
  have := h.2 _ hm
  rw [Bool.and_eq_true, decide_eq_true_eq] at this
  exact zTG_in this.1 this.2
def zaty (kd : Nat) : FieldType := match kd with
  | 20 => .int
  | 21 => .boolean
  | 22 => .long
  | 23 => .object RX7
  | 24 => .object RX6
  | _ => .array .int
def zty (E : zE) : List (ClassId × FieldType) := (List.range 6).map fun k => (E.2.2.2.2.2.2 (20 + k), zaty (20 + k))
def zav (E : zE) (kd : Nat) (ρ : zRf) (I : zIm) (L : zLm) (c j : Nat) : Value := if kd = 22 then .long (L c j) else if kd ≤ 21 then .int (I c j) else zco E (va_rf (ρ c j))
def zN0 (kd : Nat) : Nat := (zfl.getD kd []).length
def zat (E : zE) (σ : zSh) (ρ : zRf) (I : zIm) (L : zLm) (c : Nat) (H : Heap) : Prop :=
  ((σ.2 c).1 < 12 ∧ t_OB (E.1 + c) (E.2.2.2.2.2.1.1 (σ.2 c).1) (zN0 (σ.2 c).1) (E.2.2.2.2.2.1.2 (σ.2 c).1) H (fun k => zco E (zfv (zft (σ.2 c).1 k) ρ I L c k))) ∨
  (20 ≤ (σ.2 c).1 ∧ (σ.2 c).1 ≤ 25 ∧ H[E.1 + c]? = some (arrV (E.2.2.2.2.2.2 (σ.2 c).1) (σ.2 c).2 (zav E (σ.2 c).1 ρ I L c)))
/-- the heap holds the memory -/
def zP (E : zE) (σ : zSh) (ρ : zRf) (I : zIm) (L : zLm) (H : Heap) : Prop := σ.1 ≤ 5000 ∧ H.size = E.1 + σ.1 ∧ ∀ c, c < σ.1 → zat E σ ρ I L c H
def zAOA (U : State) : Prop := (Cond.arrayOver (.array .int)).before #[] U = true
theorem zfind_moved {u U : State} (hvm : u.vm.Alike U.vm) (p : Class → Bool) (hp : ∀ k k' : Class, k'.kind = k.kind → p k' = p k) : U.vm.classes.findIdx? p = u.vm.classes.findIdx? p := by
  have e : U.vm.classes.map p = u.vm.classes.map p := by
    apply Array.ext
    · simp [hvm.2.1]
    · intro i h1 h2
      simp only [Array.size_map] at h1 h2
      obtain ⟨k', hk', he⟩ := hvm.2.2 i _ (Array.getElem?_eq_getElem h2)
      have h3 : U.vm.classes[i] = k' := by
        have := Array.getElem?_eq_getElem h1
        rw [hk'] at this
        exact (Option.some.inj this).symm
      simp only [Array.getElem_map]
      rw [h3]
      exact hp _ _ (by rw [he])
  have a1 := Array.findIdx?_map (xs := U.vm.classes) (f := p) (p := id)
  have a2 := Array.findIdx?_map (xs := u.vm.classes) (f := p) (p := id)
  rw [e] at a1
  exact a1.symm.trans a2
theorem zAOA.moved {u U : State} (hvm : u.vm.Alike U.vm) (h : zAOA u) : zAOA U := by
  have hF : ∀ n, U.vm.findClass n = u.vm.findClass n := fun n => by rw [hvm.findClass]
  unfold zAOA Cond.before Cond.holds at h ⊢
  simp only [Cond.value] at h ⊢
  rw [hF]
  cases hc : u.vm.findClass (FieldType.array FieldType.int).toString with
  | none => rw [hc] at h; exact h
  | some comp =>
    rw [hc] at h
    simp only [Option.bind_some] at h ⊢
    rw [zfind_moved hvm _ (fun k k' hk => by rw [hk])]
    generalize hi : Array.findIdx? _ u.vm.classes = x at h ⊢
    cases x with
    | none => exact h
    | some c =>
      simp only [Option.bind_some] at h ⊢
      cases hk : u.vm.classes[c]? with
      | none => rw [hk] at h; simp at h
      | some k =>
        obtain ⟨k', hk', he⟩ := hvm.2.2 _ _ hk
        rw [hk] at h
        rw [hk', he]
        simp only [Option.map_some] at h ⊢
        rw [hF]
        exact h
/-- what holds of the tables and of the constants, in a state with the heap H -/
def zEv (E : zE) (s : State) (H : Heap) : Prop := va_K E.2.2.2.2.2.1 vwCl (zty E) s ∧ vk_S 4 zlen zbyt E.2.1 E.2.2.1 (zAd E) s H ∧ (∀ i, i < 4 → vk_R RX8 (zki.getD i 0) (ztx.getD i "") (E.2.1 i) s) ∧
  va_Z RJ0 "COMPACT_STRINGS" "Z" (.int 1) (zAd E) s H ∧ va_Z RJ3 "SIOOBE_FORMATTER" "Ljava/util/function/BiFunction;" E.2.2.2.2.1 (zAd E) s H ∧ E.2.2.2.2.1.category = 1 ∧
  (∀ (j i : Nat) (y : MethodName), (Cond.methodLinkNest (zR0 j) i y RX10) ∈ lw_tbl → va_Nw (.methodLinkNest (zR0 j) i y RX10) s) ∧ va_AO RX7 s ∧ va_AO RX6 s ∧ zAOA s ∧ (∀ k : Nat, 1 ≤ k → k ≤ 5 → va_Nw (.castable (zR0 k) RX6) s)
end
section
/-! ROWS: what the machine's rows of cells become over the small memory -/
theorem zad_lt {E : zE} {a : Nat} (h : a < 5000) : zad E a = E.1 + a := if_pos h
theorem zP.adr {E σ ρ I L H a} (h : zP E σ ρ I L H) (ha : a < σ.1) : zad E a = E.1 + a := zad_lt (Nat.lt_of_lt_of_le ha h.1)
theorem zfv_same {ty ρ I L ρ' I' L' c k} (h1 : ρ' c k = ρ c k) (h2 : I' c k = I c k) (h3 : L' c k = L c k) : zfv ty ρ' I' L' c k = zfv ty ρ I L c k := by
  unfold zfv
  split
  · rw [h3]
  · rw [h1]
  · rw [h2]
theorem zav_same {E kd ρ I L ρ' I' L' c k} (h1 : ρ' c k = ρ c k) (h2 : I' c k = I c k) (h3 : L' c k = L c k) : zav E kd ρ' I' L' c k = zav E kd ρ I L c k := by
  unfold zav
  rw [h1, h2, h3]
theorem zat_kept {E σ ρ I L ρ' I' L' c H H1} (h : zat E σ ρ I L c H) (hq : H1[E.1 + c]? = H[E.1 + c]?) (h1 : ∀ k, ρ' c k = ρ c k) (h2 : ∀ k, I' c k = I c k) (h3 : ∀ k, L' c k = L c k) : zat E σ ρ' I' L' c H1 := by
  rcases h with ⟨a, b⟩ | ⟨a, b, d⟩
  · exact Or.inl ⟨a, (b.kept hq).to fun k _ => by rw [zfv_same (h1 k) (h2 k) (h3 k)]⟩
  · refine Or.inr ⟨a, b, ?_⟩
    rw [hq, d]
    congr 2
    funext k
    exact (zav_same (h1 k) (h2 k) (h3 k)).symm
/-- one cell is written -/
theorem zP.put {E σ ρ I L ρ' I' L' H H1 a} (h : zP E σ ρ I L H) (z : H1.size = H.size) (oq : ∀ q : Nat, q ≠ E.1 + a → H1[q]? = H[q]?) (hat : zat E σ ρ' I' L' a H1) (h1 : ∀ c k, c ≠ a → ρ' c k = ρ c k) (h2 : ∀ c k, c ≠ a → I' c k = I c k) (h3 : ∀ c k, c ≠ a → L' c k = L c k) : zP E σ ρ' I' L' H1 := by
  refine ⟨h.1, z.trans h.2.1, fun c hc => ?_⟩
  by_cases e : c = a
  · subst e; exact hat
  · exact zat_kept (h.2.2 c hc) (oq _ (by omega)) (fun k => h1 c k e) (fun k => h2 c k e) (fun k => h3 c k e)
theorem zup_s {α : Type} {f : Nat → Nat → α} {c k : Nat} {v : α} : zup f c k v c k = v := if_pos ⟨rfl, rfl⟩
theorem zup_c {α : Type} {f : Nat → Nat → α} {c k : Nat} {v : α} {a j : Nat} (h : a ≠ c) : zup f c k v a j = f a j := if_neg fun q => h q.1
theorem zup_k {α : Type} {f : Nat → Nat → α} {c k : Nat} {v : α} {a j : Nat} (h : j ≠ k) : zup f c k v a j = f a j := if_neg fun q => h q.2
/-- every class: its number's row, its name, its words, its fields' default values -/
def zdf (ty : Nat) : Value := match ty with
  | 2 => .long 0
  | 3 => .null
  | _ => .int 0
def zcls (kd : Nat) : Bool := match vwCl[kd]? with
  | none => false
  | some r => decide (r.1 = zR0 kd) && decide (r.2.2 = zN0 kd) && (List.range r.2.2).all (fun k => decide ((parseFieldDescriptor (r.2.1 k).2.2.1).map defaultValue = some (zdf (zft kd k))) && (zft kd k != 0 || decide (parseFieldDescriptor (r.2.1 k).2.2.1 = some .int)) && (zft kd k != 1 || decide (parseFieldDescriptor (r.2.1 k).2.2.1 = some .boolean)) && (zft kd k != 2 || decide (parseFieldDescriptor (r.2.1 k).2.2.1 = some .long)) && (zft kd k != 3 || (match parseFieldDescriptor (r.2.1 k).2.2.1 with
    | some (.object _) => true
    | some (.array _) => true
    | _ => false))) && (List.range r.2.2).all (fun a => (List.range r.2.2).all (fun b => a == b || decide ((r.2.1 a).2.1 ≠ (r.2.1 b).2.1)))
theorem zcls_ok : ∀ kd, kd < 12 → zcls kd = true := by decide +kernel
set_option maxRecDepth 20000 in
theorem zuw_ok : ∀ kd, kd < 12 → ∀ r, vwCl[kd]? = some r → ∀ w ∈ u_ws r.1 r.2.1 r.2.2, w ∈ zTG := by
  have h : (List.range 12).all (fun kd => match vwCl[kd]? with | none => false | some r => (u_ws r.1 r.2.1 r.2.2).all (fun w => decide (w ∈ lw_tbl) && goodWord w)) = true := by decide +kernel
  rw [List.all_eq_true] at h
  intro kd hkd r hr w hw
  have h1 := h kd (List.mem_range.mpr hkd)
  rw [hr] at h1
  have h2 := List.all_eq_true.mp h1 w hw
  rw [Bool.and_eq_true, decide_eq_true_eq] at h2
  exact List.mem_filter.mpr h2
theorem zcl_row {kd : Nat} (h : kd < 12) : ∃ r : vw_C, vwCl[kd]? = some r ∧ r.1 = zR0 kd ∧ r.2.2 = zN0 kd ∧ (∀ w ∈ u_ws r.1 r.2.1 r.2.2, w ∈ zTG) ∧ (∀ k, k < r.2.2 → ∃ t, parseFieldDescriptor (r.2.1 k).2.2.1 = some t ∧ defaultValue t = zdf (zft kd k) ∧ (zft kd k = 0 → t = .int) ∧ (zft kd k = 1 → t = .boolean) ∧ (zft kd k = 2 → t = .long) ∧ (zft kd k = 3 → (∃ n, t = .object n) ∨ ∃ u, t = .array u)) ∧ (∀ a, a < r.2.2 → ∀ b, b < r.2.2 → a ≠ b → (r.2.1 a).2.1 ≠ (r.2.1 b).2.1) := by
  have h0 := zcls_ok kd h
  unfold zcls at h0
  split at h0
  · cases h0
  · rename_i r hr
    simp only [Bool.and_eq_true, decide_eq_true_eq] at h0
    obtain ⟨⟨⟨a1, a2⟩, a3⟩, a4⟩ := h0
    refine ⟨r, hr, a1, a2, zuw_ok kd h r hr, fun k hk => ?_, fun a ha b hb hab => ?_⟩
    · have h1 := List.all_eq_true.mp a3 k (List.mem_range.mpr hk)
      simp only [Bool.and_eq_true, decide_eq_true_eq, Bool.or_eq_true, bne_iff_ne, ne_eq] at h1
      obtain ⟨⟨⟨⟨b1, b2⟩, b3⟩, b4⟩, b5⟩ := h1
      cases hp : parseFieldDescriptor (r.2.1 k).2.2.1 with
      | none => rw [hp] at b1; cases b1
      | some t =>
        rw [hp] at b1 b2 b3 b4 b5
        refine ⟨t, rfl, Option.some.inj b1, fun e => ?_, fun e => ?_, fun e => ?_, fun e => ?_⟩
        · rcases b2 with q | q
          · exact absurd e q
          · exact Option.some.inj q
        · rcases b3 with q | q
          · exact absurd e q
          · exact Option.some.inj q
        · rcases b4 with q | q
          · exact absurd e q
          · exact Option.some.inj q
        · rcases b5 with q | q
          · exact absurd e q
          · cases t <;> first | exact Or.inl ⟨_, rfl⟩ | exact Or.inr ⟨_, rfl⟩ | cases q
    · have h1 := List.all_eq_true.mp (List.all_eq_true.mp a4 a (List.mem_range.mpr ha)) b (List.mem_range.mpr hb)
      simp only [Bool.or_eq_true, beq_iff_eq, decide_eq_true_eq] at h1
      rcases h1 with q | q
      · exact absurd q hab
      · exact q
theorem zfin_row {kd : Nat} {r : vw_C} (h : kd < 12) (hr : vwCl[kd]? = some r) {k : Nat} (hk : k < r.2.2) (hf : (r.2.1 k).2.2.2 = true) : (r.2.1 k).1 = zR0 kd := by
  have h1 := List.all_eq_true.mp zfin_ok kd (List.mem_range.mpr h)
  rw [hr] at h1
  simp only [Bool.and_eq_true, decide_eq_true_eq] at h1
  have h2 := List.all_eq_true.mp h1.2 k (List.mem_range.mpr hk)
  rw [hf] at h2
  simp only [Bool.not_true, Bool.false_or, decide_eq_true_eq] at h2
  exact h2.trans h1.1
/-- what the table of fields says -/
theorem zF_row {j i ty k : Nat} {fin : Bool} {oks : List Nat} (h : zF j i = some (ty, k, fin, oks)) {kd : Nat} (hkd : kd ∈ oks) : ∃ (r : vw_C) (ref : String), vwCl[kd]? = some r ∧ k < r.2.2 ∧ (r.2.1 k).2.2.2 = fin ∧ zft kd k = ty ∧ Cond.fieldLink (zR0 j) i ref (r.2.1 k).2.1 (r.2.1 k).2.2.1 ∈ zTG ∧ ((r.2.1 k).1 = ref ∨ Cond.sameField ref (r.2.1 k).1 (r.2.1 k).2.1 (r.2.1 k).2.2.1 ∈ zTG) := by
  unfold zF at h
  cases hf : zFt.find? (fun e => e.1.1 == j && e.1.2 == i) with
  | none => rw [hf] at h; cases h
  | some e =>
    rw [hf] at h
    have h2 : e.2.1 = (ty, k, fin, oks) := Option.some.inj h
    have hp := List.find?_some hf
    simp only [Bool.and_eq_true, beq_iff_eq] at hp
    have hc := List.all_eq_true.mp zFt_ok e (List.mem_of_find?_eq_some hf)
    unfold zFc at hc
    have hc := List.all_eq_true.mp hc kd (by rw [h2]; exact hkd)
    rw [h2] at hc
    split at hc
    · cases hc
    · rename_i r hr
      simp only [Bool.and_eq_true, decide_eq_true_eq, Bool.or_eq_true, beq_iff_eq] at hc
      obtain ⟨⟨⟨⟨a1, a2⟩, a3⟩, a4⟩, a5⟩ := hc
      rw [hp.1, hp.2] at a4
      refine ⟨r, _, hr, a1, a2, a3, zTG_in a4 rfl, ?_⟩
      rcases a5 with q | q
      · exact Or.inl q
      · exact Or.inr (zTG_in q rfl)
end
section
/-! A FRAME: what it stands on, its locals, and the rows of its cells -/
def zCx (p : Program) (R : Room) (s : State) (m : MethodId) (args : Array Value) (meth : Method) (c : Code) (E : zE) (mm : zM) (d : Nat) : Prop :=
  p.tables.exec = Jvm.exec ∧ c.code = mm.2.1 ∧ c.maxLocals = mm.2.2.1 ∧ s.vm.findClass (zR0 mm.2.2.2.2.1) = some m.cls ∧ (∀ w ∈ zTG, w.before args s = true) ∧ (mm.1.name = "<init>" → meth.name = "<init>") ∧ zEv E s s.heap ∧ d + 3 ≤ R.frames ∧ 40 * (d + 3) ≤ R.locals ∧ R.cells = mm.2.2.2.2.2.1 ∧ R.slots = mm.2.2.2.2.2.2
def zLs (E : zE) (nL : Nat) (lsr : Array Slot) (ls : zLo) : Prop := lsr.size = nL ∧ lv_wf lsr ∧ ls.length = nL ∧ ∀ (i : Nat) (w : Value), ls[i]? = some (some w) → lsr[i]? = some (Slot.val (zco E w))
theorem zco_cat {E : zE} (hE : E.2.2.2.2.1.category = 1) (w : Value) : (zco E w).category = w.category := by
  cases w <;> first | rfl | exact hE
def zll (E : zE) (ls : zLo) : List (Nat × Value) := (List.range ls.length).filterMap (fun i => (zlg ls i).map (fun w => (i, zco E w)))
theorem zll_in {E : zE} {ls : zLo} {q : Nat × Value} : q ∈ zll E ls ↔ ∃ w, ls[q.1]? = some (some w) ∧ q.2 = zco E w := by
  unfold zll zlg
  rw [List.mem_filterMap]
  constructor
  · rintro ⟨i, -, h⟩
    cases hx : ls[i]? with
    | none => rw [hx] at h; cases h
    | some o =>
      rw [hx] at h
      cases o with
      | none => cases h
      | some w =>
        have h2 : (i, zco E w) = q := Option.some.inj h
        subst h2
        exact ⟨w, hx, rfl⟩
  · rintro ⟨w, h1, h2⟩
    have hl : q.1 < ls.length := (List.getElem?_eq_some_iff.mp h1).1
    refine ⟨q.1, List.mem_range.mpr hl, ?_⟩
    rw [h1]
    show some (q.1, zco E w) = some q
    rw [← h2]
theorem zLs.has {E nL lsr ls} (h : zLs E nL lsr ls) : lv_has lsr nL (zll E ls) := ⟨h.1, h.2.1, fun q hq => by
  obtain ⟨w, h1, h2⟩ := zll_in.mp hq
  rw [h2]
  exact h.2.2.2 _ _ h1⟩
theorem zs1_len : ∀ (ls : zLo) (i : Nat) (v : Value), (zs1 ls i v).length = ls.length
  | [], _, _ => rfl
  | _ :: _, 0, _ => rfl
  | _ :: r, 1, v => congrArg (· + 1) (zs1_len r 0 v)
  | _ :: r, i + 2, v => congrArg (· + 1) (zs1_len r (i + 1) v)
theorem zs2_len : ∀ (ls : zLo) (i : Nat) (v : Value), (zs2 ls i v).length = ls.length
  | [], _, _ => rfl
  | [_], 0, _ => rfl
  | _ :: _ :: _, 0, _ => rfl
  | _ :: r, 1, v => congrArg (· + 1) (zs2_len r 0 v)
  | _ :: r, i + 2, v => congrArg (· + 1) (zs2_len r (i + 1) v)
theorem zk_some {o : Option Value} {w : Value} (h : zk o = some w) : o = some w ∧ w.category ≠ 2 := by
  unfold zk at h
  split at h
  · cases h
  · cases h
  · refine ⟨h, ?_⟩
    subst h
    cases w <;> simp_all [Value.category]
theorem zs1_get : ∀ (ls : zLo) (i : Nat) (v : Value) (j : Nat) (w : Value), (zs1 ls i v)[j]? = some (some w) → (j = i ∧ w = v) ∨ (j ≠ i ∧ ls[j]? = some (some w) ∧ (j + 1 = i → w.category ≠ 2))
  | [], i, v, j, w, h => by simp [zs1] at h
  | o :: r, 0, v, j, w, h => by
    cases j with
    | zero => simp [zs1] at h; exact Or.inl ⟨rfl, h.symm⟩
    | succ j => exact Or.inr ⟨by omega, by simpa [zs1] using h, by omega⟩
  | o :: r, 1, v, j, w, h => by
    cases j with
    | zero =>
      simp [zs1] at h
      obtain ⟨h1, h2⟩ := zk_some h
      exact Or.inr ⟨by omega, by simp [h1], fun _ => h2⟩
    | succ j =>
      rcases zs1_get r 0 v j w (by simpa [zs1] using h) with ⟨h1, h2⟩ | ⟨h1, h2, h3⟩
      · exact Or.inl ⟨by omega, h2⟩
      · exact Or.inr ⟨by omega, by simpa using h2, by omega⟩
  | o :: r, i + 2, v, j, w, h => by
    cases j with
    | zero =>
      simp [zs1] at h
      exact Or.inr ⟨by omega, by simp [h], by omega⟩
    | succ j =>
      rcases zs1_get r (i + 1) v j w (by simpa [zs1] using h) with ⟨h1, h2⟩ | ⟨h1, h2, h3⟩
      · exact Or.inl ⟨by omega, h2⟩
      · exact Or.inr ⟨by omega, by simpa using h2, fun q => h3 (by omega)⟩
theorem zs2_get : ∀ (ls : zLo) (i : Nat) (v : Value) (j : Nat) (w : Value), (zs2 ls i v)[j]? = some (some w) → (j = i ∧ w = v) ∨ (j ≠ i ∧ j ≠ i + 1 ∧ ls[j]? = some (some w) ∧ (j + 1 = i → w.category ≠ 2))
  | [], i, v, j, w, h => by simp [zs2] at h
  | [o], 0, v, j, w, h => by
    cases j with
    | zero => simp [zs2] at h; exact Or.inl ⟨rfl, h.symm⟩
    | succ j => simp [zs2] at h
  | o :: o2 :: r, 0, v, j, w, h => by
    cases j with
    | zero => simp [zs2] at h; exact Or.inl ⟨rfl, h.symm⟩
    | succ j =>
      cases j with
      | zero => simp [zs2] at h
      | succ j => exact Or.inr ⟨by omega, by omega, by simpa [zs2] using h, by omega⟩
  | o :: r, 1, v, j, w, h => by
    cases j with
    | zero =>
      simp [zs2] at h
      obtain ⟨h1, h2⟩ := zk_some h
      exact Or.inr ⟨by omega, by omega, by simp [h1], fun _ => h2⟩
    | succ j =>
      rcases zs2_get r 0 v j w (by simpa [zs2] using h) with ⟨h1, h2⟩ | ⟨h1, h2, h3, h4⟩
      · exact Or.inl ⟨by omega, h2⟩
      · exact Or.inr ⟨by omega, by omega, by simpa using h3, by omega⟩
  | o :: r, i + 2, v, j, w, h => by
    cases j with
    | zero =>
      simp [zs2] at h
      exact Or.inr ⟨by omega, by omega, by simp [h], by omega⟩
    | succ j =>
      rcases zs2_get r (i + 1) v j w (by simpa [zs2] using h) with ⟨h1, h2⟩ | ⟨h1, h2, h3, h4⟩
      · exact Or.inl ⟨by omega, h2⟩
      · exact Or.inr ⟨by omega, by omega, by simpa using h3, fun q => h4 (by omega)⟩
theorem zLs.st1 {E nL lsr ls ls' i v} (hE : E.2.2.2.2.1.category = 1) (h : zLs E nL lsr ls) (h' : lv_has ls' nL ((i, zco E v) :: (zll E ls).filter (fun q => !(q.1 == i) && !(q.1 + 1 == i && q.2.category == 2)))) : zLs E nL ls' (zs1 ls i v) := by
  refine ⟨h'.1, h'.2.1, (zs1_len _ _ _).trans h.2.2.1, fun j w hj => ?_⟩
  rcases zs1_get _ _ _ _ _ hj with ⟨rfl, rfl⟩ | ⟨h1, h2, h3⟩
  · exact h'.2.2 (j, zco E w) List.mem_cons_self
  · refine h'.2.2 (j, zco E w) (List.mem_cons_of_mem _ (List.mem_filter.mpr ⟨zll_in.mpr ⟨w, h2, rfl⟩, ?_⟩))
    show (!(j == i) && !(j + 1 == i && (zco E w).category == 2)) = true
    rw [zco_cat hE]
    have a1 : (j == i) = false := by simp [h1]
    rw [a1]
    by_cases e : j + 1 = i
    · have := h3 e
      simp [this]
    · have a2 : (j + 1 == i) = false := by simp [e]
      rw [a2]; rfl
theorem zLs.st2 {E nL lsr ls ls' i v} (hE : E.2.2.2.2.1.category = 1) (h : zLs E nL lsr ls) (h' : lv_has ls' nL ((i, zco E v) :: (zll E ls).filter (fun q => !(q.1 == i) && (!(q.1 == i + 1) && !(q.1 + 1 == i && q.2.category == 2))))) : zLs E nL ls' (zs2 ls i v) := by
  refine ⟨h'.1, h'.2.1, (zs2_len _ _ _).trans h.2.2.1, fun j w hj => ?_⟩
  rcases zs2_get _ _ _ _ _ hj with ⟨rfl, rfl⟩ | ⟨h1, h1', h2, h3⟩
  · exact h'.2.2 (j, zco E w) List.mem_cons_self
  · refine h'.2.2 (j, zco E w) (List.mem_cons_of_mem _ (List.mem_filter.mpr ⟨zll_in.mpr ⟨w, h2, rfl⟩, ?_⟩))
    show (!(j == i) && (!(j == i + 1) && !(j + 1 == i && (zco E w).category == 2))) = true
    rw [zco_cat hE]
    have a1 : (j == i) = false := by simp [h1]
    have a3 : (j == i + 1) = false := by simp [h1']
    rw [a1, a3]
    by_cases e : j + 1 = i
    · have := h3 e
      simp [this]
    · have a2 : (j + 1 == i) = false := by simp [e]
      rw [a2]; rfl
theorem zlg_get {ls : zLo} {i : Nat} {w : Value} (h : zlg ls i = some w) : ls[i]? = some (some w) := by
  unfold zlg at h
  cases hx : ls[i]? with
  | none => rw [hx] at h; cases h
  | some o => rw [hx] at h; exact congrArg some h
theorem zLs.ld {E nL lsr ls i w} (h : zLs E nL lsr ls) (hw : zlg ls i = some w) : lsr[i]? = some (.val (zco E w)) := h.2.2.2 _ _ (zlg_get hw)
theorem zkd_lt {kd : Nat} {r : vw_C} (h : vwCl[kd]? = some r) : kd < 12 := (List.getElem?_eq_some_iff.mp h).1
section ZF
variable {p : Program} {l : Launch} {e : Env} {R : Room} {s : State} {m : MethodId} {args : Array Value} {below : List Frame} {meth : Method} {c : Code} {H : Heap} {locs : List Loc} {cells slots : Nat} {Qe : State → Prop}
variable {E : zE} {mm : zM} {d : Nat} {σ : zSh} {ρ : zRf} {I : zIm} {L : zLm} {pc : Nat} {lsr : Array Slot} {rest : List Value}
theorem zr_get (C : zCx p R s m args meth c E mm d) (hP : zP E σ ρ I L H) {a i ty k : Nat} {fin : Bool} {oks : List Nat} (hF : zF mm.2.2.2.2.1 i = some (ty, k, fin, oks)) (ha : a < σ.1) (hok : (σ.2 a).1 ∈ oks) (hd : decode mm.2.1 pc = .ok (.getfield i, 3))
    (kk : W p l e R s m args below meth c H locs cells slots Qe (F0 m (pc + 3) lsr (zco E (zfv ty ρ I L a k) :: rest))) : W p l e R s m args below meth c H locs cells slots Qe (F0 m pc lsr (.ref (zad E a) :: rest)) := by
  obtain ⟨hx, hb, hml, hown, hts, hin, hEv, -⟩ := C
  obtain ⟨r, ref, hr, hk, hfin, hty, hlink, hsame⟩ := zF_row hF hok
  have hkd := zkd_lt hr
  obtain ⟨r', hr', -, hN, huw, -, -⟩ := zcl_row hkd
  cases hr.symm.trans hr'
  rcases hP.2.2 a ha with ⟨-, cell, q1, q2, q3, q4⟩ | ⟨h20, -⟩
  · obtain ⟨hS, hfc, kC, hkC, hkind⟩ := hEv.1.1 _ r hr
    obtain ⟨cf, kf, fi, f, hi, hsl⟩ := hS k hk
    have hi' : s.fieldFound? ref (r.2.1 k).2.1 (r.2.1 k).2.2.1 = some (cf, kf, fi, f) := by
      rcases hsame with q | q
      · rw [← q]; exact hi
      · exact u_same (hts _ q) _ hi
    refine W.getf hx hb hown (hts _ hlink) hi' (u_facts hfc hkC (u_lays hts huw hk) hi).1 (by rw [hP.adr ha]; exact q1) (by rw [q3]; exact fun h => by cases h) (v := zco E (zfv ty ρ I L a k)) ?_ rfl rfl hd kk
    rw [hsl, q4 k (by omega)]
    show some (zco E (zfv (zft (σ.2 a).1 k) ρ I L a k)) = _
    rw [hty]
  · omega
theorem zr_put (C : zCx p R s m args meth c E mm d) (hP : zP E σ ρ I L H) (hS0 : va_S (zAd E) s.heap H locs) {ρ' : zRf} {I' : zIm} {L' : zLm} {a i ty k : Nat} {fin : Bool} {oks : List Nat} {w : Value} (hF : zF mm.2.2.2.2.1 i = some (ty, k, fin, oks)) (ha : a < σ.1) (hok : (σ.2 a).1 ∈ oks)
    (hfn : fin = true → mm.1.name = "<init>" ∧ (σ.2 a).1 = mm.2.2.2.2.1) (hd : decode mm.2.1 pc = .ok (.putfield i, 3))
    (hfit : ∀ t, (ty = 0 → t = .int) → (ty = 1 → t = .boolean) → (ty = 2 → t = .long) → (ty = 3 → (∃ n, t = .object n) ∨ ∃ u, t = .array u) → narrow t (zco E w) = zco E w ∧ fits t (zco E w) = true)
    (hv : ∀ j, zfv (zft (σ.2 a).1 j) ρ' I' L' a j = if j = k then w else zfv (zft (σ.2 a).1 j) ρ I L a j) (h1 : ∀ c k, c ≠ a → ρ' c k = ρ c k) (h2 : ∀ c k, c ≠ a → I' c k = I c k) (h3 : ∀ c k, c ≠ a → L' c k = L c k)
    (kk : ∀ (H1 : Heap) (locs1 : List Loc), zP E σ ρ' I' L' H1 → va_S (zAd E) s.heap H1 locs1 → W p l e R s m args below meth c H1 locs1 cells slots Qe (F0 m (pc + 3) lsr rest)) : W p l e R s m args below meth c H locs cells slots Qe (F0 m pc lsr (zco E w :: .ref (zad E a) :: rest)) := by
  obtain ⟨hx, hb, hml, hown, hts, hin, hEv, -⟩ := C
  obtain ⟨r, ref, hr, hk, hfin, hty, hlink, hsame⟩ := zF_row hF hok
  have hkd := zkd_lt hr
  obtain ⟨r', hr', hr1, hN, huw, htys, hnm⟩ := zcl_row hkd
  cases hr.symm.trans hr'
  obtain ⟨t, ht, -, t0, t1, t2, t3⟩ := htys k hk
  rw [hty] at t0 t1 t2 t3
  obtain ⟨hn, hft⟩ := hfit t t0 t1 t2 t3
  rcases hP.2.2 a ha with ⟨-, cell, q1, q2, q3, q4⟩ | ⟨h20, -⟩
  · obtain ⟨hS, hfc, kC, hkC, hkind⟩ := hEv.1.1 _ r hr
    obtain ⟨cf, kf, fi, f, hi, hsl⟩ := hS k hk
    have hi' : s.fieldFound? ref (r.2.1 k).2.1 (r.2.1 k).2.2.1 = some (cf, kf, fi, f) := by
      rcases hsame with q | q
      · rw [← q]; exact hi
      · exact u_same (hts _ q) _ hi
    have hst := (u_facts hfc hkC (u_lays hts huw hk) hi).1
    have hap : ∀ x y, x < zN0 (σ.2 a).1 → y < zN0 (σ.2 a).1 → x ≠ y → (E.2.2.2.2.2.1.2 (σ.2 a).1) x ≠ (E.2.2.2.2.2.1.2 (σ.2 a).1) y := by
      intro x y hx hy hne
      have hx' : x < r.2.2 := by omega
      have hy' : y < r.2.2 := by omega
      obtain ⟨_, _, _, fa, hia, ea⟩ := hS x hx'
      obtain ⟨_, _, _, fb, hib, eb⟩ := hS y hy'
      obtain ⟨ta, hta, -⟩ := htys x hx'
      obtain ⟨tb, htb, -⟩ := htys y hy'
      rw [← ea, ← eb]
      refine u_apart (u_lays hts huw hx') (u_lays hts huw hy') hia hib ?_
      rw [(State.fieldFound?_type hia hta).1, (State.fieldFound?_type hib htb).1]
      exact hnm x hx' y hy' hne
    have hslot : f.slot < cell.slots.size := by rw [hsl]; exact k2_hasslot (q4 k (by omega))
    have fin1 : ∀ (H' : Heap), H'[E.1 + a]? = some (cell.setSlot f.slot (zco E w)) → H'.size = H.size → (∀ q : Nat, q ≠ E.1 + a → H'[q]? = H[q]?) → zP E σ ρ' I' L' H' := by
      intro H' e1 e2 e3
      refine hP.put e2 e3 (Or.inl ⟨hkd, _, e1, q2, q3, fun j hj => ?_⟩) h1 h2 h3
      rw [hsl]
      have := t_set q4 hap (show k < zN0 (σ.2 a).1 by omega) (zco E w) j hj
      rw [this]
      show some (updV (fun k => zco E (zfv (zft (σ.2 a).1 k) ρ I L a k)) k (zco E w) j) = some (zco E (zfv (zft (σ.2 a).1 j) ρ' I' L' a j))
      rw [hv j]
      by_cases e : j = k
      · simp [updV, e]
      · simp [updV, e]
    have hAa : zAd E (E.1 + a) := Nat.le_add_right _ _
    have hcell : H[zad E a]? = some cell := by rw [hP.adr ha]; exact q1
    cases hfc2 : fin with
    | false =>
      have hlay := hts _ (huw _ (u_in_lay hk))
      unfold u_lay at hlay
      rw [if_neg (by rw [hfin, hfc2]; decide)] at hlay
      have h6 := u_store hfc hkC hkind hlay hi ht hn hft
      refine W.putK hx hb (f := f) ⟨hown, hts _ hlink, ⟨_, _, _, hi'⟩, hst⟩ (by rw [q2]; exact h6) hcell q3 hslot rfl rfl hd fun H' e1 e2 e3 => ?_
      rw [hP.adr ha] at e1 e3 ⊢
      exact kk H' _ (fin1 H' e1 e2 e3) (hS0.put e2 e3 hAa)
    | true =>
      obtain ⟨g1, g2⟩ := hfn hfc2
      have hlay := hts _ (huw _ (u_in_lay hk))
      unfold u_lay at hlay
      rw [if_pos (by rw [hfin, hfc2])] at hlay
      have hdecl : (r.2.1 k).1 = zR0 mm.2.2.2.2.1 := by rw [← g2]; exact zfin_row hkd hr hk (by rw [hfin, hfc2])
      have hcf : m.cls = cf := by
        obtain ⟨_, _, c', _, _, _, -, -, hf', -, -, -, hown2, -⟩ := Cond.laysFinal_spec hlay
        have e1 : c' = cf := by have := hi.symm.trans hf'; simp at this; exact this.1.symm
        rw [hdecl] at hown2
        rw [← e1]; exact Option.some.inj (hown.symm.trans hown2)
      have h6 := u_fits hfc hkC hkind (Or.inr hlay) hi ht hn hft
      refine W.putFinK hx hb hown (hts _ hlink) hi' hst hcf (hin g1) (by rw [q2]; exact h6) hcell q3 hslot rfl rfl hd fun H' e1 e2 e3 => ?_
      rw [hP.adr ha] at e1 e3 ⊢
      exact kk H' _ (fin1 H' e1 e2 e3) (hS0.put e2 e3 hAa)
  · omega
end ZF
end
section
/-! ARRAYS AND NEW CELLS -/
theorem zty_at (E : zE) {kd : Nat} (h1 : 20 ≤ kd) (h2 : kd ≤ 25) : (zty E)[kd - 20]? = some (E.2.2.2.2.2.2 kd, zaty kd) := by
  have h : kd = 20 ∨ kd = 21 ∨ kd = 22 ∨ kd = 23 ∨ kd = 24 ∨ kd = 25 := by omega
  rcases h with rfl | rfl | rfl | rfl | rfl | rfl <;> rfl
theorem zat_sh {E σ σ' ρ I L c H} (h : zat E σ ρ I L c H) (hs : σ'.2 c = σ.2 c) : zat E σ' ρ I L c H := by
  unfold zat at h ⊢
  rw [hs]
  exact h
/-- a cell that is an array -/
theorem zP.arr {E σ ρ I L H a kd} (hP : zP E σ ρ I L H) (ha : a < σ.1) (hk : (σ.2 a).1 = kd) (h20 : 20 ≤ kd) : kd ≤ 25 ∧ H[zad E a]? = some (arrV (E.2.2.2.2.2.2 kd) (σ.2 a).2 (zav E kd ρ I L a)) := by
  rcases hP.2.2 a ha with ⟨h1, -⟩ | ⟨-, h2, h3⟩
  · omega
  · rw [hk] at h2 h3
    exact ⟨h2, by rw [hP.adr ha]; exact h3⟩
theorem zP.ast {E σ ρ I L H H1 ρ' I' L' a kd j w} (hP : zP E σ ρ I L H) (ha : a < σ.1) (hk : (σ.2 a).1 = kd) (h20 : 20 ≤ kd) (h25 : kd ≤ 25) (e : H1[E.1 + a]? = some ((arrV (E.2.2.2.2.2.2 kd) (σ.2 a).2 (zav E kd ρ I L a)).setSlot j w)) (z : H1.size = H.size) (oq : ∀ q : Nat, q ≠ E.1 + a → H1[q]? = H[q]?)
    (hv : ∀ q, zav E kd ρ' I' L' a q = if q = j then w else zav E kd ρ I L a q) (h1 : ∀ c k, c ≠ a → ρ' c k = ρ c k) (h2 : ∀ c k, c ≠ a → I' c k = I c k) (h3 : ∀ c k, c ≠ a → L' c k = L c k) : zP E σ ρ' I' L' H1 := by
  refine hP.put z oq (Or.inr ⟨by omega, by omega, ?_⟩) h1 h2 h3
  rw [e, arrV_store, hk]
  congr 2
  funext q
  rw [hv q]
  rfl
theorem zP.new {E σ ρ I L H H1 kd n} (h : zP E σ ρ I L H) (hs : σ.1 < 5000) (z : H1.size = H.size + 1) (oq : ∀ q : Nat, q < H.size → H1[q]? = H[q]?) (hat : zat E (zsh σ kd n) (zfr ρ σ.1 none) (zfr I σ.1 0) (zfr L σ.1 0) σ.1 H1) : zP E (zsh σ kd n) (zfr ρ σ.1 none) (zfr I σ.1 0) (zfr L σ.1 0) H1 := by
  refine ⟨hs, by rw [z, h.2.1]; rfl, fun c hc => ?_⟩
  have hc : c < σ.1 + 1 := hc
  by_cases e : c = σ.1
  · subst e; exact hat
  · have hl : c < σ.1 := by omega
    refine zat_sh (σ := σ) (zat_kept (h.2.2 c hl) (oq _ (by rw [h.2.1]; omega)) (fun k => if_neg e) (fun k => if_neg e) (fun k => if_neg e)) (if_neg e)
section ZG
variable {p : Program} {l : Launch} {e : Env} {R : Room} {s : State} {m : MethodId} {args : Array Value} {below : List Frame} {meth : Method} {c : Code} {H : Heap} {locs : List Loc} {cells slots : Nat} {Qe : State → Prop}
variable {E : zE} {mm : zM} {d : Nat} {σ : zSh} {ρ : zRf} {I : zIm} {L : zLm} {pc : Nat} {lsr : Array Slot} {rest : List Value}
theorem zr_ild (C : zCx p R s m args meth c E mm d) (hP : zP E σ ρ I L H) {a : Nat} {i : Int32} (h : zin σ a 20 i) (hd : decode mm.2.1 pc = .ok (.iaload, 1))
    (kk : W p l e R s m args below meth c H locs cells slots Qe (F0 m (pc + 1) lsr (.int (I a i.toNatClampNeg) :: rest))) : W p l e R s m args below meth c H locs cells slots Qe (F0 m pc lsr (.int i :: .ref (zad E a) :: rest)) := by
  obtain ⟨hx, hb, -, -, -, -, hEv, -⟩ := C
  obtain ⟨ha, hk, hi⟩ := h
  obtain ⟨-, hc⟩ := hP.arr ha hk (by omega)
  have hlt : i.toNatClampNeg < (σ.2 a).2 := Nat.not_le.mp fun q => hi (Or.inr q)
  exact W.iald (v := .int (I a i.toNatClampNeg)) hx hb hc ((hEv.1.2 _ _ (zty_at E (kd := 20) (by omega) (by omega))).1 _ _) (fun q => by cases q) (by rw [arrV_size]; exact hi) (by rw [arrV_read _ _ hlt]; rfl) rfl rfl hd kk
theorem zr_zld (C : zCx p R s m args meth c E mm d) (hP : zP E σ ρ I L H) {a : Nat} {i : Int32} (h : zin σ a 21 i) (hd : decode mm.2.1 pc = .ok (.baload, 1))
    (kk : W p l e R s m args below meth c H locs cells slots Qe (F0 m (pc + 1) lsr (.int (I a i.toNatClampNeg) :: rest))) : W p l e R s m args below meth c H locs cells slots Qe (F0 m pc lsr (.int i :: .ref (zad E a) :: rest)) := by
  obtain ⟨hx, hb, -, -, -, -, hEv, -⟩ := C
  obtain ⟨ha, hk, hi⟩ := h
  obtain ⟨-, hc⟩ := hP.arr ha hk (by omega)
  have hlt : i.toNatClampNeg < (σ.2 a).2 := Nat.not_le.mp fun q => hi (Or.inr q)
  exact W.zald (v := .int (I a i.toNatClampNeg)) hx hb hc ((hEv.1.2 _ _ (zty_at E (kd := 21) (by omega) (by omega))).1 _ _) (fun q => by cases q) (by rw [arrV_size]; exact hi) (by rw [arrV_read _ _ hlt]; rfl) rfl rfl hd kk
theorem zr_lld (C : zCx p R s m args meth c E mm d) (hP : zP E σ ρ I L H) {a : Nat} {i : Int32} (h : zin σ a 22 i) (hd : decode mm.2.1 pc = .ok (.laload, 1))
    (kk : W p l e R s m args below meth c H locs cells slots Qe (F0 m (pc + 1) lsr (.long (L a i.toNatClampNeg) :: rest))) : W p l e R s m args below meth c H locs cells slots Qe (F0 m pc lsr (.int i :: .ref (zad E a) :: rest)) := by
  obtain ⟨hx, hb, -, -, -, -, hEv, -⟩ := C
  obtain ⟨ha, hk, hi⟩ := h
  obtain ⟨-, hc⟩ := hP.arr ha hk (by omega)
  have hlt : i.toNatClampNeg < (σ.2 a).2 := Nat.not_le.mp fun q => hi (Or.inr q)
  exact W.lald (v := .long (L a i.toNatClampNeg)) hx hb hc ((hEv.1.2 _ _ (zty_at E (kd := 22) (by omega) (by omega))).1 _ _) (fun q => by cases q) (by rw [arrV_size]; exact hi) (by rw [arrV_read _ _ hlt]; rfl) rfl rfl hd kk
theorem zr_ald (C : zCx p R s m args meth c E mm d) (hP : zP E σ ρ I L H) {a : Nat} {i : Int32} (ha : a < σ.1) (hk : (σ.2 a).1 = 23 ∨ (σ.2 a).1 = 24 ∨ (σ.2 a).1 = 25) (hi : vp_in i (σ.2 a).2) (hd : decode mm.2.1 pc = .ok (.aaload, 1))
    (kk : W p l e R s m args below meth c H locs cells slots Qe (F0 m (pc + 1) lsr (zco E (va_rf (ρ a i.toNatClampNeg)) :: rest))) : W p l e R s m args below meth c H locs cells slots Qe (F0 m pc lsr (.int i :: .ref (zad E a) :: rest)) := by
  obtain ⟨hx, hb, -, -, -, -, hEv, -⟩ := C
  generalize hkd : (σ.2 a).1 = kd at hk
  obtain ⟨-, hc⟩ := hP.arr ha hkd (by omega)
  have hlt : i.toNatClampNeg < (σ.2 a).2 := Nat.not_le.mp fun q => hi (Or.inr q)
  refine W.aald (v := zco E (va_rf (ρ a i.toNatClampNeg))) (ty := zaty kd) hx hb hc ((hEv.1.2 _ _ (zty_at E (kd := kd) (by omega) (by omega))).1 _ _) ?_ (fun q => by cases q) (by rw [arrV_size]; exact hi) ?_ rfl rfl hd kk
  · rcases hk with rfl | rfl | rfl <;> rfl
  · rw [arrV_read _ _ hlt]
    rcases hk with rfl | rfl | rfl <;> rfl
theorem zr_alen (C : zCx p R s m args meth c E mm d) (hP : zP E σ ρ I L H) {a : Nat} (ha : a < σ.1) (hk : 20 ≤ (σ.2 a).1) (hd : decode mm.2.1 pc = .ok (.arraylength, 1))
    (kk : W p l e R s m args below meth c H locs cells slots Qe (F0 m (pc + 1) lsr (.int (Int32.ofNat (σ.2 a).2) :: rest))) : W p l e R s m args below meth c H locs cells slots Qe (F0 m pc lsr (.ref (zad E a) :: rest)) := by
  obtain ⟨hx, hb, -, -, -, -, hEv, -⟩ := C
  obtain ⟨h25, hc⟩ := hP.arr ha rfl hk
  exact W.alen hx hb hc ((hEv.1.2 _ _ (zty_at E hk h25)).1 _ _) (by rw [arrV_size]) rfl rfl hd kk
theorem zr_ist (C : zCx p R s m args meth c E mm d) (hP : zP E σ ρ I L H) (hS : va_S (zAd E) s.heap H locs) {a : Nat} {i x : Int32} (h : zin σ a 20 i) (hd : decode mm.2.1 pc = .ok (.iastore, 1))
    (kk : ∀ (H1 : Heap) (locs1 : List Loc), zP E σ ρ (zup I a i.toNatClampNeg x) L H1 → va_S (zAd E) s.heap H1 locs1 → W p l e R s m args below meth c H1 locs1 cells slots Qe (F0 m (pc + 1) lsr rest)) : W p l e R s m args below meth c H locs cells slots Qe (F0 m pc lsr (.int x :: .int i :: .ref (zad E a) :: rest)) := by
  obtain ⟨hx, hb, -, -, -, -, hEv, -⟩ := C
  obtain ⟨ha, hk, hi⟩ := h
  obtain ⟨-, hc⟩ := hP.arr ha hk (by omega)
  refine W.iast hx hb hc ((hEv.1.2 _ _ (zty_at E (kd := 20) (by omega) (by omega))).1 _ _) (fun q => by cases q) (by rw [arrV_size]; exact hi) rfl rfl hd fun H1 e1 z oq => ?_
  rw [hP.adr ha] at e1 oq ⊢
  refine kk H1 _ (hP.ast ha hk (by omega) (by omega) e1 z oq (fun q => ?_) (fun _ _ _ => rfl) (fun _ _ h => zup_c h) (fun _ _ _ => rfl)) (hS.put z oq (Nat.le_add_right _ _))
  by_cases e : q = i.toNatClampNeg
  · rw [if_pos e, e]
    show Value.int (zup I a i.toNatClampNeg x a i.toNatClampNeg) = _
    rw [zup_s]
  · rw [if_neg e]
    show Value.int (zup I a i.toNatClampNeg x a q) = Value.int (I a q)
    rw [zup_k e]
theorem zr_zst (C : zCx p R s m args meth c E mm d) (hP : zP E σ ρ I L H) (hS : va_S (zAd E) s.heap H locs) {a : Nat} {i x : Int32} (h : zin σ a 21 i) (h01 : x = 0 ∨ x = 1) (hd : decode mm.2.1 pc = .ok (.bastore, 1))
    (kk : ∀ (H1 : Heap) (locs1 : List Loc), zP E σ ρ (zup I a i.toNatClampNeg x) L H1 → va_S (zAd E) s.heap H1 locs1 → W p l e R s m args below meth c H1 locs1 cells slots Qe (F0 m (pc + 1) lsr rest)) : W p l e R s m args below meth c H locs cells slots Qe (F0 m pc lsr (.int x :: .int i :: .ref (zad E a) :: rest)) := by
  obtain ⟨hx, hb, -, -, -, -, hEv, -⟩ := C
  obtain ⟨ha, hk, hi⟩ := h
  obtain ⟨-, hc⟩ := hP.arr ha hk (by omega)
  have hn : narrow .boolean (.int x) = .int x := by rcases h01 with rfl | rfl <;> rfl
  refine W.zast hx hb hc ((hEv.1.2 _ _ (zty_at E (kd := 21) (by omega) (by omega))).1 _ _) (fun q => by cases q) (by rw [arrV_size]; exact hi) rfl rfl hd fun H1 e1 z oq => ?_
  rw [hP.adr ha] at e1 oq ⊢
  rw [hn] at e1
  refine kk H1 _ (hP.ast ha hk (by omega) (by omega) e1 z oq (fun q => ?_) (fun _ _ _ => rfl) (fun _ _ h => zup_c h) (fun _ _ _ => rfl)) (hS.put z oq (Nat.le_add_right _ _))
  by_cases e : q = i.toNatClampNeg
  · rw [if_pos e, e]
    show Value.int (zup I a i.toNatClampNeg x a i.toNatClampNeg) = _
    rw [zup_s]
  · rw [if_neg e]
    show Value.int (zup I a i.toNatClampNeg x a q) = Value.int (I a q)
    rw [zup_k e]
theorem zr_lst (C : zCx p R s m args meth c E mm d) (hP : zP E σ ρ I L H) (hS : va_S (zAd E) s.heap H locs) {a : Nat} {i : Int32} {x : Int64} (h : zin σ a 22 i) (hd : decode mm.2.1 pc = .ok (.lastore, 1))
    (kk : ∀ (H1 : Heap) (locs1 : List Loc), zP E σ ρ I (zup L a i.toNatClampNeg x) H1 → va_S (zAd E) s.heap H1 locs1 → W p l e R s m args below meth c H1 locs1 cells slots Qe (F0 m (pc + 1) lsr rest)) : W p l e R s m args below meth c H locs cells slots Qe (F0 m pc lsr (.long x :: .int i :: .ref (zad E a) :: rest)) := by
  obtain ⟨hx, hb, -, -, -, -, hEv, -⟩ := C
  obtain ⟨ha, hk, hi⟩ := h
  obtain ⟨-, hc⟩ := hP.arr ha hk (by omega)
  refine W.last hx hb hc ((hEv.1.2 _ _ (zty_at E (kd := 22) (by omega) (by omega))).1 _ _) (fun q => by cases q) (by rw [arrV_size]; exact hi) rfl rfl hd fun H1 e1 z oq => ?_
  rw [hP.adr ha] at e1 oq ⊢
  refine kk H1 _ (hP.ast ha hk (by omega) (by omega) e1 z oq (fun q => ?_) (fun _ _ _ => rfl) (fun _ _ _ => rfl) (fun _ _ h => zup_c h)) (hS.put z oq (Nat.le_add_right _ _))
  by_cases e : q = i.toNatClampNeg
  · rw [if_pos e, e]
    show Value.long (zup L a i.toNatClampNeg x a i.toNatClampNeg) = _
    rw [zup_s]
  · rw [if_neg e]
    show Value.long (zup L a i.toNatClampNeg x a q) = Value.long (L a q)
    rw [zup_k e]
theorem zr_ast (C : zCx p R s m args meth c E mm d) (hP : zP E σ ρ I L H) (hS : va_S (zAd E) s.heap H locs) {a b : Nat} {i : Int32} (ha : a < σ.1) (hbb : b < σ.1) (hi : vp_in i (σ.2 a).2) (hk : (σ.2 a).1 = 23 ∧ (σ.2 b).1 = 7 ∨ (σ.2 a).1 = 24 ∧ 1 ≤ (σ.2 b).1 ∧ (σ.2 b).1 ≤ 6) (hd : decode mm.2.1 pc = .ok (.aastore, 1))
    (kk : ∀ (H1 : Heap) (locs1 : List Loc), zP E σ (zup ρ a i.toNatClampNeg (some b)) I L H1 → va_S (zAd E) s.heap H1 locs1 → W p l e R s m args below meth c H1 locs1 cells slots Qe (F0 m (pc + 1) lsr rest)) : W p l e R s m args below meth c H locs cells slots Qe (F0 m pc lsr (.ref (zad E b) :: .int i :: .ref (zad E a) :: rest)) := by
  obtain ⟨hx, hb, -, -, hts, -, hEv, -⟩ := C
  have hlt : i.toNatClampNeg < (σ.2 a).2 := Nat.not_le.mp fun q => hi (Or.inr q)
  have h0 : ¬ i < 0 := fun q => hi (Or.inl q)
  generalize hkd : (σ.2 a).1 = kd at hk
  have h2 : kd = 23 ∨ kd = 24 := by omega
  obtain ⟨h25, hc⟩ := hP.arr ha hkd (by omega)
  rcases hP.2.2 b hbb with ⟨hb12, cellV, g1, g2, g3, g4⟩ | ⟨hb20, -⟩
  · obtain ⟨r, hr, hr1, -⟩ := zcl_row hb12
    obtain ⟨-, hcls⟩ := hEv.1.1 _ r hr
    obtain ⟨E1, hE1⟩ : ∃ E1, zaty kd = .object E1 := by rcases h2 with rfl | rfl <;> exact ⟨_, rfl⟩
    obtain ⟨hAr, hRA⟩ := hEv.1.2 _ _ (zty_at E (kd := kd) (by omega) (by omega))
    rw [hE1] at hRA hAr
    obtain ⟨kA, comp, k1, k2, k3, -⟩ := hRA
    obtain ⟨kE, hkE, -⟩ := Vm.findClass_spec k3
    obtain ⟨kC, hkC, hkCk⟩ := hcls.2
    have hasg : s.vm.assignable (E.2.2.2.2.2.1.1 (σ.2 b).1) comp = true := by
      by_cases he : r.1 = E1
      · have : comp = E.2.2.2.2.2.1.1 (σ.2 b).1 := by
          have h9 := hcls.1
          rw [he] at h9
          exact Option.some.inj (k3.symm.trans h9)
        rw [this]
        exact va_assign hcls
      · have hkb : kd = 24 ∧ (1 ≤ (σ.2 b).1 ∧ (σ.2 b).1 ≤ 6) := by
          rcases hk with ⟨e1, e2⟩ | ⟨e1, e2⟩
          · exfalso
            apply he
            rw [hr1, e2]
            subst e1
            exact FieldType.object.inj hE1
          · exact ⟨e1, e2⟩
        have hE6 : E1 = RX6 := by
          have := hkb.1
          subst this
          exact (FieldType.object.inj hE1).symm
        have hca := hEv.2.2.2.2.2.2.2.2.2.2 (σ.2 b).1 hkb.2.1 (by
          have h6 : (σ.2 b).1 ≠ 6 := fun q => he (by rw [hr1, q, hE6]; rfl)
          have := hkb.2.2
          omega)
        rw [← hr1] at hca
        obtain ⟨c0, t1, f1, f2, f3⟩ := Cond.castable_spec (va_Nw.use (A := args) rfl hca)
        rw [hE6] at k3
        cases hcls.1.symm.trans f1
        cases k3.symm.trans f2
        exact f3
    refine W.aast hx hb hc (fun q h => by cases h) (fun h => by cases h) k1 k2 rfl hkE ⟨h0, by rw [arrV_size]; exact hlt⟩ (by rw [hP.adr hbb]; exact g1) (fun q h => by rw [g3] at h; cases h) (by rw [g2]; exact hkC) (by rw [g2]; exact hasg) rfl rfl hd fun H1 e1 z oq => ?_
    rw [hP.adr ha] at e1 oq ⊢
    refine kk H1 _ (hP.ast ha hkd (by omega) (by omega) e1 z oq (fun q => ?_) (fun _ _ h => zup_c h) (fun _ _ _ => rfl) (fun _ _ _ => rfl)) (hS.put z oq (Nat.le_add_right _ _))
    have hz : ∀ (ρ : zRf) j, zav E kd ρ I L a j = zco E (va_rf (ρ a j)) := fun ρ j => by rcases h2 with rfl | rfl <;> rfl
    rw [hz, hz]
    by_cases e : q = i.toNatClampNeg
    · rw [if_pos e, e, zup_s]
      rfl
    · rw [if_neg e, zup_k e]
  · omega
theorem zr_new (C : zCx p R s m args meth c E mm d) (hP : zP E σ ρ I L H) (hS : va_S (zAd E) s.heap H locs) {i ci : Nat} (hN : zN mm.2.2.2.2.1 i = some ci) (h1 : cells + 1 ≤ mm.2.2.2.2.2.1) (h2 : slots + (zfl.getD ci []).length ≤ mm.2.2.2.2.2.2) (h3 : σ.1 < 4000) (hd : decode mm.2.1 pc = .ok (.new i, 3))
    (kk : ∀ (H1 : Heap) (locs1 : List Loc), zP E (zsh σ ci ((zfl.getD ci []).length)) (zfr ρ σ.1 none) (zfr I σ.1 0) (zfr L σ.1 0) H1 → va_S (zAd E) s.heap H1 locs1 → W p l e R s m args below meth c H1 locs1 (cells + 1) (slots + (zfl.getD ci []).length) Qe (F0 m (pc + 3) lsr (.ref (zad E σ.1) :: rest))) : W p l e R s m args below meth c H locs cells slots Qe (F0 m pc lsr rest) := by
  obtain ⟨hx, hb, -, hown, hts, -, hEv, -, -, hRc, hRs⟩ := C
  unfold zN at hN
  cases hf : zNt.find? (fun e => e.1.1 == mm.2.2.2.2.1 && e.1.2 == i) with
  | none => rw [hf] at hN; cases hN
  | some en =>
    rw [hf] at hN
    have e2 : en.2.1 = ci := Option.some.inj hN
    have hp := List.find?_some hf
    simp only [Bool.and_eq_true, beq_iff_eq] at hp
    have hcc := List.all_eq_true.mp zNt_ok en (List.mem_of_find?_eq_some hf)
    unfold zNc at hcc
    rw [e2] at hcc
    split at hcc
    · cases hcc
    · rename_i r hr
      simp only [Bool.and_eq_true, decide_eq_true_eq] at hcc
      obtain ⟨⟨a1, a2⟩, a3⟩ := hcc
      rw [hp.1, hp.2] at a1
      have hci := zkd_lt hr
      obtain ⟨r', hr', hr1, hNN, huw, htys, hnm⟩ := zcl_row hci
      cases hr.symm.trans hr'
      obtain ⟨hSl, hfc, kC0, hkC0, hkind⟩ := hEv.1.1 _ r hr
      have hNe : r.2.2 = (zfl.getD ci []).length := hNN
      rw [hNe] at a2
      refine W.newcK hx hb hown (hts _ (zTG_in a1 rfl)) (hts _ (zTG_in a2 rfl)) (hts _ (zTG_in a3 rfl)) rfl hd (by rw [hRc]; exact h1) (by rw [hRs]; exact h2) hfc rfl fun H1 kC hkC e1 z1 o1 => ?_
      have hadr : zad E σ.1 = H.size := by rw [zad_lt (by omega), hP.2.1]
      rw [hadr] at kk
      refine kk H1 _ (hP.new (by omega) z1 o1 (Or.inl ?_)) ⟨Nat.le_trans hS.1 (by omega), fun x g1 g2 => (o1 x (Nat.lt_of_lt_of_le g1 hS.1)).trans (hS.2.1 x g1 g2), hS.2.2⟩
      have hsh : (zsh σ ci ((zfl.getD ci []).length)).2 σ.1 = (ci, (zfl.getD ci []).length) := if_pos rfl
      rw [hsh]
      refine ⟨hci, ?_⟩
      have hty : ∀ k, k < r.2.2 → parseFieldDescriptor (r.2.1 k).2.2.1 = some ((parseFieldDescriptor (r.2.1 k).2.2.1).getD .int) := fun k hk => by
        obtain ⟨t, ht, -⟩ := htys k hk
        rw [ht]; rfl
      have hob := u_born (fun k => (parseFieldDescriptor (r.2.1 k).2.2.1).getD .int) hts huw ⟨hSl, hfc, kC0, hkC0, hkind⟩ hkC e1 hty
      rw [hP.2.1] at hob
      rw [hNe] at hob
      refine hob.to fun k hk => ?_
      obtain ⟨t, ht, hdv, -⟩ := htys k (by rw [hNe]; exact hk)
      show defaultValue ((parseFieldDescriptor (r.2.1 k).2.2.1).getD .int) = zco E (zfv (zft ci k) (zfr ρ σ.1 none) (zfr I σ.1 0) (zfr L σ.1 0) σ.1 k)
      rw [ht]
      show defaultValue t = _
      rw [hdv]
      have g1 : zfr ρ σ.1 none σ.1 k = none := if_pos rfl
      have g2 : zfr I σ.1 0 σ.1 k = 0 := if_pos rfl
      have g3 : zfr L σ.1 0 σ.1 k = 0 := if_pos rfl
      have hz : ∀ ty, zdf ty = zco E (zfv ty (zfr ρ σ.1 none) (zfr I σ.1 0) (zfr L σ.1 0) σ.1 k) := by
        intro ty
        unfold zfv zdf
        rw [g1, g2, g3]
        match ty with
        | 0 => rfl
        | 1 => rfl
        | 2 => rfl
        | 3 => rfl
        | n + 4 => rfl
      exact hz _
theorem zr_newa (C : zCx p R s m args meth c E mm d) (hP : zP E σ ρ I L H) (hS : va_S (zAd E) s.heap H locs) {x : Int32} {at' : ArrayType} {kd : Nat} (hkd : (at' = .int ∧ kd = 20) ∨ (at' = .boolean ∧ kd = 21) ∨ (at' = .long ∧ kd = 22)) (hx0 : ¬ x < 0) (h1 : cells + 1 ≤ mm.2.2.2.2.2.1) (h2 : slots + x.toNatClampNeg ≤ mm.2.2.2.2.2.2) (h3 : σ.1 < 4000) (h4 : x.toNatClampNeg ≤ 100000) (hd : decode mm.2.1 pc = .ok (.newarray at', 2))
    (kk : ∀ (H1 : Heap) (locs1 : List Loc), zP E (zsh σ kd x.toNatClampNeg) (zfr ρ σ.1 none) (zfr I σ.1 0) (zfr L σ.1 0) H1 → va_S (zAd E) s.heap H1 locs1 → W p l e R s m args below meth c H1 locs1 (cells + 1) (slots + x.toNatClampNeg) Qe (F0 m (pc + 2) lsr (.ref (zad E σ.1) :: rest))) : W p l e R s m args below meth c H locs cells slots Qe (F0 m pc lsr (.int x :: rest)) := by
  obtain ⟨hx, hb, -, hown, hts, -, hEv, -, -, hRc, hRs⟩ := C
  have hty : newarray.typeOf at' = zaty kd := by rcases hkd with ⟨rfl, rfl⟩ | ⟨rfl, rfl⟩ | ⟨rfl, rfl⟩ <;> rfl
  have h20 : 20 ≤ kd ∧ kd ≤ 22 := by omega
  have harr : (Cond.arrayClass (newarray.typeOf at')).before args s = true := by
    rcases hkd with ⟨rfl, -⟩ | ⟨rfl, -⟩ | ⟨rfl, -⟩
    · exact hts _ (zTG_in (i := 109) (by decide +kernel) rfl)
    · exact hts _ (zTG_in (i := 253) (by decide +kernel) rfl)
    · exact hts _ (zTG_in (i := 254) (by decide +kernel) rfl)
  obtain ⟨hAr, hRA⟩ := hEv.1.2 _ _ (zty_at E h20.1 (show kd ≤ 25 by omega))
  refine va_newaK hx hb harr rfl hd rfl hx0 rfl ?_ (by rw [hRc]; exact h1) (by rw [hRs]; exact h2) rfl fun H1 cA e1 z1 o1 hAr2 hNm => ?_
  · have : componentBytes (newarray.typeOf at') ≤ 8 := by rcases hkd with ⟨rfl, -⟩ | ⟨rfl, -⟩ | ⟨rfl, -⟩ <;> decide
    calc x.toNatClampNeg * componentBytes (newarray.typeOf at') ≤ 100000 * 8 := Nat.mul_le_mul h4 this
      _ ≤ 536870912 := by decide
  · have hcA : cA = E.2.2.2.2.2.2 kd := by
      rw [hty] at hNm
      have : s.vm.findClass ("[" ++ (zaty kd).toString) = some (E.2.2.2.2.2.2 kd) := by
        rcases hkd with ⟨-, rfl⟩ | ⟨-, rfl⟩ | ⟨-, rfl⟩ <;> exact hRA
      exact Option.some.inj (hNm.symm.trans this)
    subst hcA
    have hadr : zad E σ.1 = H.size := by rw [zad_lt (by omega), hP.2.1]
    rw [hadr] at kk
    refine kk H1 _ (hP.new (by omega) z1 o1 (Or.inr ?_)) ⟨Nat.le_trans hS.1 (by omega), fun x g1 g2 => (o1 x (Nat.lt_of_lt_of_le g1 hS.1)).trans (hS.2.1 x g1 g2), hS.2.2⟩
    have hsh : (zsh σ kd x.toNatClampNeg).2 σ.1 = (kd, x.toNatClampNeg) := if_pos rfl
    rw [hsh]
    refine ⟨h20.1, by omega, ?_⟩
    rw [← hP.2.1, e1, hty]
    congr 2
    funext j
    have g2 : zfr I σ.1 0 σ.1 j = 0 := if_pos rfl
    have g3 : zfr L σ.1 0 σ.1 j = 0 := if_pos rfl
    unfold zav
    rw [g2, g3]
    rcases hkd with ⟨-, rfl⟩ | ⟨-, rfl⟩ | ⟨-, rfl⟩ <;> rfl
theorem zr_anew (C : zCx p R s m args meth c E mm d) (hP : zP E σ ρ I L H) (hS : va_S (zAd E) s.heap H locs) {x : Int32} {i kd : Nat} (hA : zA mm.2.2.2.2.1 i = some kd) (hx0 : ¬ x < 0) (h1 : cells + 1 ≤ mm.2.2.2.2.2.1) (h2 : slots + x.toNatClampNeg ≤ mm.2.2.2.2.2.2) (h3 : σ.1 < 4000) (h4 : x.toNatClampNeg ≤ 100000) (hd : decode mm.2.1 pc = .ok (.anewarray i, 3))
    (kk : ∀ (H1 : Heap) (locs1 : List Loc), zP E (zsh σ kd x.toNatClampNeg) (zfr ρ σ.1 none) (zfr I σ.1 0) (zfr L σ.1 0) H1 → va_S (zAd E) s.heap H1 locs1 → W p l e R s m args below meth c H1 locs1 (cells + 1) (slots + x.toNatClampNeg) Qe (F0 m (pc + 3) lsr (.ref (zad E σ.1) :: rest))) : W p l e R s m args below meth c H locs cells slots Qe (F0 m pc lsr (.int x :: rest)) := by
  obtain ⟨hx, hb, -, hown, hts, -, hEv, -, -, hRc, hRs⟩ := C
  unfold zA at hA
  cases hf : zAt.find? (fun e => e.1.1 == mm.2.2.2.2.1 && e.1.2 == i) with
  | none => rw [hf] at hA; cases hA
  | some en =>
    rw [hf] at hA
    have e2 : en.2.1 = kd := Option.some.inj hA
    have hp := List.find?_some hf
    simp only [Bool.and_eq_true, beq_iff_eq] at hp
    have hcc := List.all_eq_true.mp zAt_ok en (List.mem_of_find?_eq_some hf)
    unfold zAc at hcc
    rw [e2] at hcc
    simp only [Bool.and_eq_true, decide_eq_true_eq] at hcc
    obtain ⟨a1, a2⟩ := hcc
    rw [hp.1, hp.2] at a1
    have hzt : zaty kd = .object (zAn kd) := by rcases a2 with rfl | rfl <;> rfl
    have hover : (Cond.arrayOver (.object (zAn kd))).before args s = true := by
      rcases a2 with rfl | rfl
      · exact va_AO.use hEv.2.2.2.2.2.2.2.1
      · exact va_AO.use hEv.2.2.2.2.2.2.2.2.1
    obtain ⟨hAr, hRA⟩ := hEv.1.2 _ _ (zty_at E (kd := kd) (by omega) (by omega))
    rw [hzt] at hRA
    obtain ⟨kA0, comp0, k1, k2, k3, k4⟩ := hRA
    refine W.anew hx hb hown (hts _ (zTG_in a1 rfl)) hover rfl hd rfl hx0 (by omega) (by rw [hRc]; exact h1) (by rw [hRs]; exact h2) fun cA kA comp f1 f2 f3 f4 => ?_
    cases k4.symm.trans f1
    generalize hH1 : H.push ({ cls := E.2.2.2.2.2.2 kd, slots := Array.replicate x.toNatClampNeg .null, vm := .none } : Cell) = H1
    have z1 : H1.size = H.size + 1 := by rw [← hH1, Array.size_push]
    have e1 : H1[H.size]? = some (arrV (E.2.2.2.2.2.2 kd) x.toNatClampNeg (fun _ => .null)) := by rw [← hH1, Array.getElem?_push_size, ← arrV_new]
    have o1 : ∀ q : Nat, q < H.size → H1[q]? = H[q]? := fun q hq => by rw [← hH1, Array.getElem?_push, if_neg (Nat.ne_of_lt hq)]
    have hadr : zad E σ.1 = H.size := by rw [zad_lt (by omega), hP.2.1]
    rw [hadr] at kk
    refine kk H1 _ (hP.new (by omega) z1 o1 (Or.inr ?_)) ⟨Nat.le_trans hS.1 (by omega), fun x g1 g2 => (o1 x (Nat.lt_of_lt_of_le g1 hS.1)).trans (hS.2.1 x g1 g2), hS.2.2⟩
    have hsh : (zsh σ kd x.toNatClampNeg).2 σ.1 = (kd, x.toNatClampNeg) := if_pos rfl
    rw [hsh]
    refine ⟨by show 20 ≤ kd; omega, by show kd ≤ 25; omega, ?_⟩
    rw [← hP.2.1, e1]
    congr 2
    funext j
    have g1 : zfr ρ σ.1 none σ.1 j = none := if_pos rfl
    unfold zav
    rw [g1]
    rcases a2 with rfl | rfl <;> rfl
end ZG
end
section
/-! int[n][k], arraycopy, texts, the script, constants, calls -/
theorem zouter (E : zE) (c : ClassId) (N q : Nat) (hq : q + N < 4500) (I : zIm) (L : zLm) (ρ : zRf) (cc : Nat) (hρ : ∀ j, ρ cc j = if j < N then some (q + 1 + j) else none) : Jvm.Free.Multi.outerC c N (E.1 + q) N = arrV c N (zav E 25 ρ I L cc) := by
  have key : ∀ i : Nat, i ≤ N → Jvm.Free.Multi.outerC c N (E.1 + q) i = arrV c N (fun j => if j < i then .ref (E.1 + (q + 1 + j)) else .null) := by
    intro i
    induction i with
    | zero =>
      intro _
      show ({ cls := c, slots := Array.replicate N .null, vm := .none } : Cell) = _
      rw [arrV_new]
      congr 1
    | succ i ih =>
      intro hi
      show (Jvm.Free.Multi.outerC c N (E.1 + q) i).setSlot i (.ref (E.1 + q + 1 + i)) = _
      rw [ih (by omega), arrV_store]
      congr 1
      funext j
      by_cases e : j = i
      · subst e
        have e9 : E.1 + q + 1 + j = E.1 + (q + 1 + j) := by omega
        simp [updV, e9]
      · by_cases h : j < i
        · simp [updV, e, h, Nat.lt_succ_of_lt h]
        · simp [updV, e, h, show ¬ j < i + 1 by omega]
  rw [key N (Nat.le_refl _)]
  have hext : ∀ (f g : Nat → Value), (∀ j, j < N → f j = g j) → arrV c N f = arrV c N g := by
    intro f g h
    unfold arrV
    congr 1
    apply Array.ext
    · simp
    · intro j h1 h2
      simp only [Array.getElem_ofFn]
      exact h j (by simpa using h1)
  refine hext _ _ fun j hj => ?_
  rw [if_pos hj]
  show _ = zco E (va_rf (ρ cc j))
  rw [hρ, if_pos hj]
  show _ = Value.ref (zad E (q + 1 + j))
  rw [zad_lt (by omega)]
section ZH
variable {p : Program} {l : Launch} {e : Env} {R : Room} {s : State} {m : MethodId} {args : Array Value} {below : List Frame} {meth : Method} {c : Code} {H : Heap} {locs : List Loc} {cells slots : Nat} {Qe : State → Prop}
variable {E : zE} {mm : zM} {d : Nat} {σ : zSh} {ρ : zRf} {I : zIm} {L : zLm} {pc : Nat} {lsr : Array Slot} {rest : List Value}
theorem zr_mul (C : zCx p R s m args meth c E mm d) (hP : zP E σ ρ I L H) (hS : va_S (zAd E) s.heap H locs) {n k : Int32} (hj : mm.2.2.2.2.1 = 9) (hn : ¬ n < 0) (hk : ¬ k < 0) (h1 : cells + (1 + n.toNatClampNeg) ≤ mm.2.2.2.2.2.1) (h2 : slots + (n.toNatClampNeg + n.toNatClampNeg * k.toNatClampNeg) ≤ mm.2.2.2.2.2.2) (h3 : σ.1 + n.toNatClampNeg < 4000) (h4 : n.toNatClampNeg ≤ 100) (h5 : k.toNatClampNeg ≤ 100) (hd : decode mm.2.1 pc = .ok (.multianewarray 33 2, 4))
    (kk : ∀ (H1 : Heap) (locs1 : List Loc), zP E (σ.1 + 1 + n.toNatClampNeg, fun a => if a = σ.1 then (25, n.toNatClampNeg) else if σ.1 < a ∧ a ≤ σ.1 + n.toNatClampNeg then (20, k.toNatClampNeg) else σ.2 a) (fun a j => if a = σ.1 then (if j < n.toNatClampNeg then some (σ.1 + 1 + j) else none) else if σ.1 < a ∧ a ≤ σ.1 + n.toNatClampNeg then none else ρ a j) (fun a j => if σ.1 ≤ a ∧ a ≤ σ.1 + n.toNatClampNeg then 0 else I a j) (fun a j => if σ.1 ≤ a ∧ a ≤ σ.1 + n.toNatClampNeg then 0 else L a j) H1 → va_S (zAd E) s.heap H1 locs1 →
      W p l e R s m args below meth c H1 locs1 (cells + 1 + n.toNatClampNeg) (slots + n.toNatClampNeg + n.toNatClampNeg * k.toNatClampNeg) Qe (F0 m (pc + 4) lsr (.ref (zad E σ.1) :: rest))) : W p l e R s m args below meth c H locs cells slots Qe (F0 m pc lsr (.int k :: .int n :: rest)) := by
  obtain ⟨hx, hb, -, hown, hts, -, hEv, -, -, hRc, hRs⟩ := C
  rw [hj] at hown
  have hclink : (Cond.classLink (zR0 9) 33 ("[" ++ (FieldType.array .int).toString)).before args s = true := hts _ (zTG_in zMul_ok rfl)
  have hover : (Cond.arrayOver (.array .int)).before args s = true := by
    have := hEv.2.2.2.2.2.2.2.2.2.1
    unfold zAOA Cond.before Cond.holds at this
    unfold Cond.before Cond.holds
    simp only [Cond.value] at this ⊢
    exact this
  have harr : (Cond.arrayClass .int).before args s = true := hts _ (zTG_in (i := 109) (by decide +kernel) rfl)
  obtain ⟨-, hcy⟩ := hEv.1.2 _ _ (zty_at E (kd := 20) (by omega) (by omega))
  obtain ⟨-, hcg⟩ := hEv.1.2 _ _ (zty_at E (kd := 25) (by omega) (by omega))
  have hcy : s.vm.findClass (FieldType.array .int).toString = some (E.2.2.2.2.2.2 20) := hcy
  have hcg : s.vm.findClass ("[" ++ (FieldType.array .int).toString) = some (E.2.2.2.2.2.2 25) := hcg
  have hb2 : k.toNatClampNeg * componentBytes .int ≤ 536870912 := by
    calc k.toNatClampNeg * componentBytes .int ≤ 100 * componentBytes .int := Nat.mul_le_mul_right _ h5
      _ ≤ 536870912 := by decide
  intro T hT Xs
  obtain ⟨vm₁, cA, comp, -, fA, fC, hO, -, X', step⟩ := Xs.multianewarray2F hx hown hclink hover harr (g := F0 m pc lsr (.int k :: .int n :: rest)) rfl (by rw [hb]; exact hd) rfl hn hk (by omega) hb2 (by omega) rfl rfl (by rw [hRc]; exact h1) (by rw [hRs]; exact h2)
  have ec : some (E.2.2.2.2.2.2 20) = some comp := hcy.symm.trans fC
  cases ec
  have ea : some (E.2.2.2.2.2.2 25) = some cA := hcg.symm.trans fA
  cases ea
  generalize hF : Jvm.Free.Multi.fill (T.setVm vm₁) (E.2.2.2.2.2.2 25) (E.2.2.2.2.2.2 20) n.toNatClampNeg k.toNatClampNeg (defaultValue .int) n.toNatClampNeg = F at X' step
  have hTh : (T.setVm vm₁).heap = H := hT
  obtain ⟨f1, f2, -, -⟩ := Jvm.Free.Multi.fill_facts (T.setVm vm₁) (E.2.2.2.2.2.2 25) (E.2.2.2.2.2.2 20) n.toNatClampNeg k.toNatClampNeg (defaultValue .int) n.toNatClampNeg
  rw [hF, hTh] at f1 f2
  have hold : ∀ x : Nat, x < H.size → F.heap[x]? = H[x]? := fun x hx => by
    have := Jvm.Free.Multi.fill_old (T.setVm vm₁) (E.2.2.2.2.2.2 25) (E.2.2.2.2.2.2 20) n.toNatClampNeg k.toNatClampNeg (defaultValue .int) (a := x) (by rw [hTh]; exact hx) n.toNatClampNeg
    rw [hF, hTh] at this
    exact this
  have hrow : ∀ j : Nat, j < n.toNatClampNeg → F.heap[H.size + 1 + j]? = some (arrV (E.2.2.2.2.2.2 20) k.toNatClampNeg (fun _ => .int 0)) := fun j hj => by
    have := Jvm.Free.Multi.fill_inner (T.setVm vm₁) (E.2.2.2.2.2.2 25) (E.2.2.2.2.2.2 20) n.toNatClampNeg k.toNatClampNeg (defaultValue .int) n.toNatClampNeg j hj
    rw [hF, hTh] at this
    rw [← arrV_new]
    exact this
  have hout := zouter E (E.2.2.2.2.2.2 25) n.toNatClampNeg σ.1 (by omega) (fun a j => if σ.1 ≤ a ∧ a ≤ σ.1 + n.toNatClampNeg then 0 else I a j) (fun a j => if σ.1 ≤ a ∧ a ≤ σ.1 + n.toNatClampNeg then 0 else L a j) (fun a j => if a = σ.1 then (if j < n.toNatClampNeg then some (σ.1 + 1 + j) else none) else if σ.1 < a ∧ a ≤ σ.1 + n.toNatClampNeg then none else ρ a j) σ.1 (fun j => if_pos rfl)
  rw [hP.2.1] at f2
  rw [hout] at f2
  have hP' : zP E (σ.1 + 1 + n.toNatClampNeg, fun a => if a = σ.1 then (25, n.toNatClampNeg) else if σ.1 < a ∧ a ≤ σ.1 + n.toNatClampNeg then (20, k.toNatClampNeg) else σ.2 a) (fun a j => if a = σ.1 then (if j < n.toNatClampNeg then some (σ.1 + 1 + j) else none) else if σ.1 < a ∧ a ≤ σ.1 + n.toNatClampNeg then none else ρ a j) (fun a j => if σ.1 ≤ a ∧ a ≤ σ.1 + n.toNatClampNeg then 0 else I a j) (fun a j => if σ.1 ≤ a ∧ a ≤ σ.1 + n.toNatClampNeg then 0 else L a j) F.heap := by
    refine ⟨by show σ.1 + 1 + n.toNatClampNeg ≤ 5000; omega, by rw [f1, hP.2.1]; show _ = E.1 + (σ.1 + 1 + n.toNatClampNeg); omega, fun a ha => ?_⟩
    have ha : a < σ.1 + 1 + n.toNatClampNeg := ha
    by_cases e1 : a = σ.1
    · subst e1
      have hsh : (fun a => if a = σ.1 then (25, n.toNatClampNeg) else if σ.1 < a ∧ a ≤ σ.1 + n.toNatClampNeg then (20, k.toNatClampNeg) else σ.2 a) σ.1 = (25, n.toNatClampNeg) := if_pos rfl
      refine Or.inr ?_
      dsimp only
      rw [if_pos rfl]
      exact ⟨Nat.le_of_ble_eq_true rfl, Nat.le_of_ble_eq_true rfl, f2⟩
    · by_cases e2 : σ.1 < a ∧ a ≤ σ.1 + n.toNatClampNeg
      · refine Or.inr ?_
        dsimp only
        rw [if_neg e1, if_pos e2]
        refine ⟨Nat.le_of_ble_eq_true rfl, Nat.le_of_ble_eq_true rfl, ?_⟩
        have := hrow (a - σ.1 - 1) (by omega)
        rw [hP.2.1, show E.1 + σ.1 + 1 + (a - σ.1 - 1) = E.1 + a by omega] at this
        rw [this]
        congr 2
        funext j
        show Value.int 0 = Value.int (if σ.1 ≤ a ∧ a ≤ σ.1 + n.toNatClampNeg then 0 else I a j)
        rw [if_pos ⟨by omega, e2.2⟩]
      · have hl : a < σ.1 := by omega
        refine zat_sh (σ := σ) (zat_kept (hP.2.2 a hl) (hold _ (by rw [hP.2.1]; omega)) (fun j => ?_) (fun j => ?_) (fun j => ?_)) ?_
        · rw [if_neg e1, if_neg e2]
        · rw [if_neg (by omega)]
        · rw [if_neg (by omega)]
        · dsimp only; rw [if_neg e1, if_neg e2]
  have hadr : zad E σ.1 = H.size := by rw [zad_lt (by omega), hP.2.1]
  obtain ⟨t, a1, b1⟩ := kk F.heap locs hP' ⟨Nat.le_trans hS.1 (by rw [f1]; omega), fun x g1 g2 => (hold x (Nat.lt_of_lt_of_le g1 hS.1)).trans (hS.2.1 x g1 g2), hS.2.2⟩ F rfl X'
  refine ⟨t, step t ?_, b1⟩
  have e : T.heap.size = H.size := by rw [hT]
  rw [e, ← hadr]
  exact a1
end ZH
end
section
/-! arraycopy, texts, the script, constants; the start and the end of a method; calls -/
section ZI
variable {p : Program} {l : Launch} {e : Env} {R : Room} {s : State} {m : MethodId} {args : Array Value} {below : List Frame} {meth : Method} {c : Code} {H : Heap} {locs : List Loc} {cells slots : Nat} {Qe : State → Prop}
variable {E : zE} {mm : zM} {d : Nat} {σ : zSh} {ρ : zRf} {I : zIm} {L : zLm} {pc : Nat} {lsr : Array Slot} {rest : List Value}
theorem zr_cpy (C : zCx p R s m args meth c E mm d) (hP : zP E σ ρ I L H) (hS : va_S (zAd E) s.heap H locs) (hls : lsr.size = mm.2.2.1) {n dp sp : Int32} {sa da : Nat} (hj : mm.2.2.2.2.1 = 0) (hs : sa < σ.1) (hda : da < σ.1) (ks : (σ.2 sa).1 = 20) (kd : (σ.2 da).1 = 20) (h1 : ¬ sp < 0) (h2 : ¬ dp < 0) (h3 : ¬ n < 0) (h4 : sp.toNatClampNeg + n.toNatClampNeg ≤ (σ.2 sa).2) (h5 : dp.toNatClampNeg + n.toNatClampNeg ≤ (σ.2 da).2) (hr : (rest.map fun v => v.category).sum ≤ 8) (hd : decode mm.2.1 pc = .ok (.invokestatic 44, 3))
    (kk : ∀ (H1 : Heap) (locs1 : List Loc), zP E σ ρ (fun a j => if a = da then va_cpy (I sa) (I da) sp.toNatClampNeg dp.toNatClampNeg n.toNatClampNeg j else I a j) L H1 → va_S (zAd E) s.heap H1 locs1 → W p l e R s m args below meth c H1 locs1 cells slots Qe (F0 m (pc + 3) lsr rest)) : W p l e R s m args below meth c H locs cells slots Qe (F0 m pc lsr (.int n :: .int dp :: .ref (zad E da) :: .int sp :: .ref (zad E sa) :: rest)) := by
  obtain ⟨hx, hb, hml, hown, hts, -, hEv, hfr, hlo, -, -⟩ := C
  obtain ⟨w1, w2, w3, w4⟩ := zC_w
  rw [hj] at hown
  have nn : ∀ z : Int32, ¬ z < 0 → z.toInt = (z.toNatClampNeg : Int) := by
    intro z hz
    have hz0 : (0 : Int) ≤ z.toInt := by
      have := Int32.not_lt.mp hz
      simpa using Int32.le_iff_toInt_le.mp this
    show z.toInt = ((z.toInt.toNat : Nat) : Int)
    omega
  obtain ⟨-, hc0⟩ := hP.arr hs ks (by omega)
  obtain ⟨-, hc1⟩ := hP.arr hda kd (by omega)
  have hc0 : H[zad E sa]? = some (vp_cell (E.2.2.2.2.2.2 20) ((σ.2 sa).2, .inl (I sa))) := hc0
  have hc1 : H[zad E da]? = some (vp_cell (E.2.2.2.2.2.2 20) ((σ.2 da).2, .inl (I da))) := hc1
  obtain ⟨hAr, -⟩ := hEv.1.2 _ _ (zty_at E (kd := 20) (by omega) (by omega))
  obtain ⟨-, k0, hk0, cm0, hkk0⟩ := hAr (σ.2 sa).2 (fun j => .int (I sa j))
  obtain ⟨-, k1, hk1, cm1, hkk1⟩ := hAr (σ.2 da).2 (fun j => .int (I da j))
  intro T hT X
  obtain ⟨vm', X', step⟩ := X.arraycopy hx hown (hts _ (zTG_in w1 rfl)) (hts _ (zTG_in w2 rfl)) (hts _ (zTG_in w3 rfl)) (hts _ (zTG_in w4 rfl)) (src := zad E sa) (dst := zad E da) (cs := vp_cell (E.2.2.2.2.2.2 20) ((σ.2 sa).2, .inl (I sa))) (cd := vp_cell (E.2.2.2.2.2.2 20) ((σ.2 da).2, .inl (I da))) (srcPos := sp) (destPos := dp) (n := n) (by rw [hT]; exact hc0) (by rw [hT]; exact hc1)
    (fun _ h => by cases h) (fun _ h => by cases h) (fun h => by cases h) (fun h => by cases h) hk0 hk1 hkk0 hkk1 (by simp [refKind, zaty]) h1 h2 h3
    (by rw [nn sp h1, nn n h3]; show ¬ _ > ((arrV (E.2.2.2.2.2.2 20) (σ.2 sa).2 (fun j => .int (I sa j))).slots.size : Int); rw [arrV_size]; omega)
    (by rw [nn dp h2, nn n h3]; show ¬ _ > ((arrV (E.2.2.2.2.2.2 20) (σ.2 da).2 (fun j => .int (I da j))).slots.size : Int); rw [arrV_size]; omega)
    (fun vm₁ _ i hi => by
      have e : (vp_cell (E.2.2.2.2.2.2 20) ((σ.2 sa).2, .inl (I sa))).slots.getD (sp.toNatClampNeg + i) .null = .int (I sa (sp.toNatClampNeg + i)) := by
        show (arrV (E.2.2.2.2.2.2 20) (σ.2 sa).2 (fun j => .int (I sa j))).slots.getD _ _ = _
        rw [Array.getD_eq_getD_getElem?, arrV_read _ _ (by omega)]
        rfl
      refine ⟨?_, ?_⟩
      · rw [e]
        rfl
      · rw [e]
        exact trivial)
    (g := F0 m pc lsr (.int n :: .int dp :: .ref (zad E da) :: .int sp :: .ref (zad E sa) :: rest)) rfl (by rw [hml]; exact hls) (rest := rest) rfl (by rw [hb]; exact hd) (by omega) (by
      show 2 * 0 + _ + _ ≤ _
      have : nativeFrameWords "java/lang/System" "arraycopy" 5 + 11 ≤ 72 := by decide +kernel
      omega)
  have e1 : copied (vp_cell (E.2.2.2.2.2.2 20) ((σ.2 sa).2, .inl (I sa))) (vp_cell (E.2.2.2.2.2.2 20) ((σ.2 da).2, .inl (I da))) sp dp n = vp_cell (E.2.2.2.2.2.2 20) ((σ.2 da).2, .inl (va_cpy (I sa) (I da) sp.toNatClampNeg dp.toNatClampNeg n.toNatClampNeg)) := va_copied (fun z => .int z) _ _ (I sa) (I da) h4
  rw [e1] at X' step
  have hl : zad E da < H.size := (Array.getElem?_eq_some_iff.mp hc1).1
  have hheap : ((T.setVm vm').setCell (zad E da) (vp_cell (E.2.2.2.2.2.2 20) ((σ.2 da).2, .inl (va_cpy (I sa) (I da) sp.toNatClampNeg dp.toNatClampNeg n.toNatClampNeg)))).heap = H.setIfInBounds (zad E da) (vp_cell (E.2.2.2.2.2.2 20) ((σ.2 da).2, .inl (va_cpy (I sa) (I da) sp.toNatClampNeg dp.toNatClampNeg n.toNatClampNeg))) := by rw [← hT]; rfl
  generalize hH1 : H.setIfInBounds (zad E da) (vp_cell (E.2.2.2.2.2.2 20) ((σ.2 da).2, .inl (va_cpy (I sa) (I da) sp.toNatClampNeg dp.toNatClampNeg n.toNatClampNeg))) = H1 at hheap
  have oq : ∀ q : Nat, q ≠ zad E da → H1[q]? = H[q]? := fun q hq => by rw [← hH1]; simp [Array.getElem?_setIfInBounds, Ne.symm hq]
  have e2 : H1[zad E da]? = some (vp_cell (E.2.2.2.2.2.2 20) ((σ.2 da).2, .inl (va_cpy (I sa) (I da) sp.toNatClampNeg dp.toNatClampNeg n.toNatClampNeg))) := by rw [← hH1]; simp [Array.getElem?_setIfInBounds, hl]
  have z1 : H1.size = H.size := by rw [← hH1]; simp
  have hAa : zAd E (zad E da) := by rw [hP.adr hda]; exact Nat.le_add_right _ _
  have hP' : zP E σ ρ (fun a j => if a = da then va_cpy (I sa) (I da) sp.toNatClampNeg dp.toNatClampNeg n.toNatClampNeg j else I a j) L H1 := by
    rw [hP.adr hda] at e2 oq
    refine hP.put z1 oq (Or.inr ⟨by omega, by omega, ?_⟩) (fun _ _ _ => rfl) (fun c k hc => if_neg hc) (fun _ _ _ => rfl)
    rw [e2, kd, vp_cell_i]
    refine congrArg (fun f => some (arrV (E.2.2.2.2.2.2 20) (σ.2 da).2 f)) (funext fun j => ?_)
    have h9 : (fun a j => if a = da then va_cpy (I sa) (I da) sp.toNatClampNeg dp.toNatClampNeg n.toNatClampNeg j else I a j) da j = va_cpy (I sa) (I da) sp.toNatClampNeg dp.toNatClampNeg n.toNatClampNeg j := if_pos rfl
    unfold zav
    rw [if_neg (by decide), if_pos (by decide), h9]
  obtain ⟨t, a1, b1⟩ := kk H1 (locs ++ _) hP' ⟨by rw [z1]; exact hS.1, fun q g1 g2 => by
      rw [oq q (fun e => g2 (by rw [e]; exact hAa))]
      exact hS.2.1 q g1 g2, fun q hq => by
      rcases List.mem_append.mp hq with h | h
      · exact hS.2.2 q h
      · obtain ⟨z, -, hz⟩ := List.mem_map.mp h
        rw [← hz]
        exact hAa⟩ _ hheap X'
  exact ⟨t, step t a1, b1⟩
/-! texts -/
theorem zr_strv (C : zCx p R s m args meth c E mm d) (hS : va_S (zAd E) s.heap H locs) (hj : mm.2.2.2.2.1 = 20) {a : Nat} (h1 : 5000 ≤ a) (h2 : a < 5004) (hd : decode mm.2.1 pc = .ok (.getfield 9, 3))
    (kk : W p l e R s m args below meth c H locs cells slots Qe (F0 m (pc + 3) lsr (.ref (zad E (a + 1000)) :: rest))) : W p l e R s m args below meth c H locs cells slots Qe (F0 m pc lsr (.ref (zad E a) :: rest)) := by
  obtain ⟨hx, hb, -, hown, hts, -, hEv, -⟩ := C
  rw [hj] at hown
  have e1 : zad E a = E.2.1 (a - 5000) := by unfold zad; rw [if_neg (by omega), if_pos (by omega)]
  have e2 : zad E (a + 1000) = E.2.2.1 (a - 5000) := by unfold zad; rw [if_neg (by omega), if_neg (by omega), if_pos (by omega), show a + 1000 - 6000 = a - 5000 by omega]
  rw [e1]; rw [e2] at kk
  exact vk_getf hx hb (hEv.2.1.1 (a - 5000) (by omega)).2.2.1 hS hown (hts _ (zTG_in (i := 1052) (w := .fieldLink (zR0 20) 9 "java/lang/String" "value" "[B") (by decide +kernel) rfl)) (fun _ h => h) hd kk
theorem zr_strc (C : zCx p R s m args meth c E mm d) (hS : va_S (zAd E) s.heap H locs) (hj : mm.2.2.2.2.1 = 20) {a : Nat} (h1 : 5000 ≤ a) (h2 : a < 5004) (hd : decode mm.2.1 pc = .ok (.getfield 15, 3))
    (kk : W p l e R s m args below meth c H locs cells slots Qe (F0 m (pc + 3) lsr (.int 0 :: rest))) : W p l e R s m args below meth c H locs cells slots Qe (F0 m pc lsr (.ref (zad E a) :: rest)) := by
  obtain ⟨hx, hb, -, hown, hts, -, hEv, -⟩ := C
  rw [hj] at hown
  have e1 : zad E a = E.2.1 (a - 5000) := by unfold zad; rw [if_neg (by omega), if_pos (by omega)]
  rw [e1]
  exact vk_getf hx hb (hEv.2.1.1 (a - 5000) (by omega)).2.1 hS hown (hts _ (zTG_in (i := 1053) (w := .fieldLink (zR0 20) 15 "java/lang/String" "coder" "B") (by decide +kernel) rfl)) (fun _ h => h) hd kk
theorem zr_byt (C : zCx p R s m args meth c E mm d) (hS : va_S (zAd E) s.heap H locs) {a : Nat} {i : Int32} (h1 : 6000 ≤ a) (h2 : a < 6004) (hi : vp_in i (zlen.getD (a - 6000) 0)) (hd : decode mm.2.1 pc = .ok (.baload, 1))
    (kk : W p l e R s m args below meth c H locs cells slots Qe (F0 m (pc + 1) lsr (.int ((zbyt.getD (a - 6000) []).getD i.toNatClampNeg 0) :: rest))) : W p l e R s m args below meth c H locs cells slots Qe (F0 m pc lsr (.int i :: .ref (zad E a) :: rest)) := by
  obtain ⟨hx, hb, -, hown, hts, -, hEv, -⟩ := C
  have e1 : zad E a = E.2.2.1 (a - 6000) := by unfold zad; rw [if_neg (by omega), if_neg (by omega), if_pos (by omega)]
  rw [e1]
  exact va_tb hx hb (hEv.2.1.1 (a - 6000) (by omega)).2.2.2 hS hi rfl hd kk
theorem zr_bln (C : zCx p R s m args meth c E mm d) (hS : va_S (zAd E) s.heap H locs) {a : Nat} (h1 : 6000 ≤ a) (h2 : a < 6004) (hd : decode mm.2.1 pc = .ok (.arraylength, 1))
    (kk : W p l e R s m args below meth c H locs cells slots Qe (F0 m (pc + 1) lsr (.int (Int32.ofNat (zlen.getD (a - 6000) 0)) :: rest))) : W p l e R s m args below meth c H locs cells slots Qe (F0 m pc lsr (.ref (zad E a) :: rest)) := by
  obtain ⟨hx, hb, -, hown, hts, -, hEv, -⟩ := C
  have e1 : zad E a = E.2.2.1 (a - 6000) := by unfold zad; rw [if_neg (by omega), if_neg (by omega), if_pos (by omega)]
  rw [e1]
  obtain ⟨cell, g1, g2, g3, g4, g5, g6, g7⟩ := (hEv.2.1.1 (a - 6000) (by omega)).2.2.2.kept hS.2.1
  exact W.alen hx hb g1 g2 g5 rfl rfl hd kk
theorem zr_gst (C : zCx p R s m args meth c E mm d) (hS : va_S (zAd E) s.heap H locs) (hj : mm.2.2.2.2.1 = 20) (hd : decode mm.2.1 pc = .ok (.getstatic 38, 3))
    (kk : W p l e R s m args below meth c H locs cells slots Qe (F0 m (pc + 3) lsr (.int 1 :: rest))) : W p l e R s m args below meth c H locs cells slots Qe (F0 m pc lsr rest) := by
  obtain ⟨hx, hb, -, hown, hts, -, hEv, -⟩ := C
  rw [hj] at hown
  exact va_gets hx hb hEv.2.2.2.1 hS hown (hts _ (zTG_in (i := 394) (w := .fieldLink (zR0 20) 38 "java/lang/String" "COMPACT_STRINGS" "Z") (by decide +kernel) rfl)) (fun _ h => h) hd kk
theorem zr_gsf (C : zCx p R s m args meth c E mm d) (hS : va_S (zAd E) s.heap H locs) (hj : mm.2.2.2.2.1 = 20) (hd : decode mm.2.1 pc = .ok (.getstatic 1053, 3))
    (kk : W p l e R s m args below meth c H locs cells slots Qe (F0 m (pc + 3) lsr (E.2.2.2.2.1 :: rest))) : W p l e R s m args below meth c H locs cells slots Qe (F0 m pc lsr rest) := by
  obtain ⟨hx, hb, -, hown, hts, -, hEv, -⟩ := C
  rw [hj] at hown
  exact va_gets hx hb hEv.2.2.2.2.1 hS hown (hts _ (zTG_in (i := 410) (w := .fieldLink (zR0 20) 1053 "jdk/internal/util/Preconditions" "SIOOBE_FORMATTER" "Ljava/util/function/BiFunction;") (by decide +kernel) rfl)) (fun _ h => h) hd kk
/-! constants -/
theorem zK_row {j i : Nat} {w : Value} (h : zK j i = some w) : (∃ x, w = .int x ∧ Cond.constant (zR0 j) i x ∈ zTG) ∨ (∃ x, w = .long x ∧ Cond.constantLong (zR0 j) i x ∈ zTG) ∨ (∃ a, w = .ref a ∧ 5000 ≤ a ∧ a < 5004 ∧ j = 8 ∧ zki[a - 5000]? = some i) := by
  unfold zK at h
  cases hf : zKt.find? (fun e => e.1.1 == j && e.1.2 == i) with
  | none => rw [hf] at h; cases h
  | some e =>
    rw [hf] at h
    have h2 : e.2.1 = w := Option.some.inj h
    have hp := List.find?_some hf
    simp only [Bool.and_eq_true, beq_iff_eq] at hp
    have hc := List.all_eq_true.mp zKt_ok e (List.mem_of_find?_eq_some hf)
    unfold zKc at hc
    rw [h2, hp.1, hp.2] at hc
    split at hc
    · exact Or.inl ⟨_, rfl, zTG_in (of_decide_eq_true hc) rfl⟩
    · exact Or.inr (Or.inl ⟨_, rfl, zTG_in (of_decide_eq_true hc) rfl⟩)
    · obtain ⟨a1, a2, a3, a4⟩ := of_decide_eq_true hc
      exact Or.inr (Or.inr ⟨_, rfl, a1, a2, a3, a4⟩)
    · cases hc
theorem zr_ldcs (C : zCx p R s m args meth c E mm d) {a i : Nat} (hj : mm.2.2.2.2.1 = 8) (h1 : 5000 ≤ a) (h2 : a < 5004) (hk : zki[a - 5000]? = some i) (hd : decode mm.2.1 pc = .ok (.ldc i, 2))
    (kk : W p l e R s m args below meth c H locs cells slots Qe (F0 m (pc + 2) lsr (.ref (zad E a) :: rest))) : W p l e R s m args below meth c H locs cells slots Qe (F0 m pc lsr rest) := by
  obtain ⟨hx, hb, -, hown, hts, -, hEv, -⟩ := C
  rw [hj] at hown
  have e1 : zad E a = E.2.1 (a - 5000) := by unfold zad; rw [if_neg (by omega), if_pos (by omega)]
  rw [e1] at kk
  have hR := hEv.2.2.1 (a - 5000) (by omega)
  have hi : zki.getD (a - 5000) 0 = i := by rw [List.getD_eq_getElem?_getD, hk]; rfl
  rw [hi] at hR
  exact va_ldcS hx hb hown hR hd kk
end ZI
/-! the start and the end of a method -/
theorem zEv.warm {E : zE} {s U : State} {H : Heap} {locs : List Loc} (h : zEv E s s.heap) (hW : s.WarmedH U.vm) (hS : va_S (zAd E) s.heap H locs) (hU : U.heap = H) : zEv E U U.heap := by
  rw [hU]
  obtain ⟨h1, h2, h3, h4, h5, h6, h7, h8, h9, h10, h11⟩ := h
  exact ⟨h1.moved hW.alike, (h2.kept hS.2.1).moved hW.alike, fun i hi => (h3 i hi).warm hW, (h4.kept hS.2.1).moved hW.alike, (h5.kept hS.2.1).moved hW.alike, h6, fun j i y hm => va_Nw.warmM hW (h7 j i y hm), h8.moved hW.alike, h9.moved hW.alike, h10.moved hW.alike, fun k a b => va_Nw.warmC hW (h11 k a b)⟩
theorem zEv.calling {E : zE} {U : State} (g : JFrame) (mk : MethodId) (a : Array Value) (h : zEv E U U.heap) : zEv E (U.calling g mk a) (U.calling g mk a).heap := by
  have hA : U.vm.Alike (U.calling g mk a).vm := Vm.Alike.refl U.vm
  have hv : (U.calling g mk a).vm = U.vm := rfl
  obtain ⟨h1, h2, h3, h4, h5, h6, h7, h8, h9, h10, h11⟩ := h
  exact ⟨h1.moved hA, h2.moved hA, fun i hi => (h3 i hi).same hv, h4.moved hA, h5.moved hA, h6, fun j i y hm => (h7 j i y hm).same rfl hv.symm, h8.moved hA, h9.moved hA, h10.moved hA, fun k a b => (h11 k a b).same rfl hv.symm⟩
def zPc (E : zE) (as : List Value) (σ : zSh) (ρ : zRf) (I : zIm) (L : zLm) : Array Value → State → Prop := fun a U => a = (as.map (zco E)).toArray ∧ zP E σ ρ I L U.heap ∧ zEv E U U.heap
def zQc (E : zE) (Q : zPo) : Array Value → State → Outcome → State → Prop := fun _ st oc t => (∃ o σ ρ I L, oc = .returned (o.map (zco E)) ∧ Q o σ ρ I L ∧ zP E σ ρ I L t.heap) ∧ va_F (zAd E) st t
theorem zPc_blind (E : zE) (as : List Value) (σ : zSh) (ρ : zRf) (I : zIm) (L : zLm) : FrameBlind (zPc E as σ ρ I L) := fun a U g mk h => ⟨h.1, h.2.1, h.2.2.calling g mk a⟩
def zws (mm : zM) : List Cond := Cond.code mm.1 mm.2.1 mm.2.2.1 mm.2.2.2.1 :: zTG
def zrm (d : Nat) (mm : zM) : Room := { frames := d + 2, cells := mm.2.2.2.2.2.1, slots := mm.2.2.2.2.2.2, locals := 40 * (d + 2) }
theorem zMs_nL : zMs.all (fun m => decide (m.2.2.1 ≤ 21)) = true := by decide +kernel
theorem zM_row {mi : Nat} {cm : zM} (h : zMs[mi]? = some cm) : Cond.code cm.1 cm.2.1 cm.2.2.1 cm.2.2.2.1 ∈ zTG ∧ Cond.initialized cm.1.cls ∈ zTG ∧ plainName cm.1.cls = true ∧ cm.1.cls = zR0 cm.2.2.2.2.1 ∧ (cm.1.cls ≠ "java/lang/invoke/MethodHandle" ∧ cm.1.cls ≠ "java/lang/invoke/VarHandle") ∧ cm.2.2.1 ≤ 21 := by
  have hm : cm ∈ zMs := List.mem_of_getElem? h
  have hl := of_decide_eq_true (List.all_eq_true.mp zMs_nL cm hm)
  rw [← zMz_fst] at hm
  obtain ⟨q, hq, rfl⟩ := List.mem_map.mp hm
  obtain ⟨h1, h2⟩ := zMz_ok q hq
  unfold zMc at h2
  simp only [Bool.and_eq_true, decide_eq_true_eq] at h2
  obtain ⟨⟨⟨a1, a2⟩, a3⟩, a4⟩ := h2
  exact ⟨zTG_in h1 rfl, zTG_in a1 rfl, a2, a3, a4, hl⟩
theorem zws_good {cm : zM} (h : Cond.code cm.1 cm.2.1 cm.2.2.1 cm.2.2.2.1 ∈ zTG) : GoodIn zTG (zws cm) := by
  intro w hw
  rcases List.mem_cons.mp hw with rfl | hw
  · exact ⟨h, zTG_good _ h⟩
  · exact ⟨hw, zTG_good _ hw⟩
theorem zgood_app {ws : List Cond} {cm : zM} (h : Cond.code cm.1 cm.2.1 cm.2.2.1 cm.2.2.2.1 ∈ zTG) (hw : ∀ w ∈ ws, w ∈ zTG) : GoodIn zTG (ws ++ zws cm) := by
  intro w h2
  rcases List.mem_append.mp h2 with h3 | h3
  · exact ⟨hw w h3, zTG_good _ (hw w h3)⟩
  · exact zws_good h w h3
end
section
/-! CALLS -/
theorem zsum_co {E : zE} (hE : E.2.2.2.2.1.category = 1) (r : List Value) : ((r.map (zco E)).map fun v => v.category).sum = zsum r := by
  unfold zsum
  rw [List.map_map]
  congr 2
  funext v
  exact zco_cat hE v
theorem zV_row {j i k : Nat} {ts : List (Nat × Nat × Nat × List Nat)} (h : zV j i = some (k, ts)) : ∃ mi0 : Nat, ∀ t ∈ ts, ∃ cm m0 : zM, zMs[t.2.1]? = some cm ∧ zMs[mi0]? = some m0 ∧ (parseMethodDescriptor cm.1.desc).map (fun d => d.parameters.length) = some k ∧ cm.1.cls = zR0 t.1 ∧
    ((∀ w ∈ zw0 (zR0 j) i (zR0 t.1) cm.1, w ∈ zTG) ∨ (cm.1.desc = m0.1.desc ∧ ∀ w ∈ zw1 (zR0 j) i (zR0 t.1) m0.1 cm.1, w ∈ zTG)) := by
  unfold zV at h
  cases hf : zVt.find? (fun e => e.1.1 == j && e.1.2 == i) with
  | none => rw [hf] at h; cases h
  | some e =>
    rw [hf] at h
    have h2 : (e.2.1, e.2.2.2) = (k, ts) := Option.some.inj h
    have hk : e.2.1 = k := congrArg Prod.fst h2
    have hts : e.2.2.2 = ts := congrArg Prod.snd h2
    have hp := List.find?_some hf
    simp only [Bool.and_eq_true, beq_iff_eq] at hp
    have hc := List.all_eq_true.mp zVt_ok e (List.mem_of_find?_eq_some hf)
    unfold zVc at hc
    rw [hts, hk, hp.1, hp.2] at hc
    refine ⟨e.2.2.1, fun t ht => ?_⟩
    have hc := List.all_eq_true.mp hc t ht
    split at hc
    · rename_i cm m0 e1 e2
      simp only [Bool.and_eq_true, decide_eq_true_eq] at hc
      obtain ⟨⟨a1, a2⟩, a3⟩ := hc
      refine ⟨cm, m0, e1, e2, a1, a2, ?_⟩
      split at a3
      · exact Or.inl (zal_in a3)
      · simp only [Bool.and_eq_true, decide_eq_true_eq] at a3
        exact Or.inr ⟨a3.1.2.2, zal_in a3.2⟩
    · cases hc
theorem zS_row {j i k mi : Nat} (h : zS j i = some (k, mi)) {cm : zM} (hcm : zMs[mi]? = some cm) : (parseMethodDescriptor cm.1.desc).map (fun d => d.parameters.length) = some k ∧ ∀ w ∈ ([.methodLink (zR0 j) i cm.1, .static cm.1, .initialized cm.1.cls] : List Cond), w ∈ zTG := by
  unfold zS at h
  cases hf : zSt.find? (fun e => e.1.1 == j && e.1.2 == i) with
  | none => rw [hf] at h; cases h
  | some e =>
    rw [hf] at h
    have h2 : (e.2.1, e.2.2.1) = (k, mi) := Option.some.inj h
    have hk : e.2.1 = k := congrArg Prod.fst h2
    have hmi : e.2.2.1 = mi := congrArg Prod.snd h2
    have hp := List.find?_some hf
    simp only [Bool.and_eq_true, beq_iff_eq] at hp
    have hc := List.all_eq_true.mp zSt_ok e (List.mem_of_find?_eq_some hf)
    unfold zSc0 at hc
    rw [hk, hmi, hp.1, hp.2, hcm] at hc
    simp only [Bool.and_eq_true, decide_eq_true_eq] at hc
    exact ⟨hc.1, zal_in hc.2⟩
theorem zI_row {j i k mi md : Nat} (h : zI j i = some (k, mi, md)) {cm : zM} (hcm : zMs[mi]? = some cm) : (parseMethodDescriptor cm.1.desc).map (fun d => d.parameters.length) = some k ∧
    ((cm.1.name = "<init>" ∧ cm.2.2.2.1 = none ∧ ∀ w ∈ ([.initialized cm.1.cls, .methodLink (zR0 j) i cm.1, .instanceMethod cm.1] : List Cond), w ∈ zTG) ∨
     (cm.1.name ≠ "<init>" ∧ ∀ w ∈ ([.methodLink (zR0 j) i cm.1, .sameMethod cm.1.cls cm.1.cls cm.1.name cm.1.desc, .superclass (zR0 j) cm.1.cls, .instanceMethod cm.1, .initialized cm.1.cls] : List Cond), w ∈ zTG) ∨
     (cm.1.name = "<init>" ∧ cm.2.2.2.1 = none ∧ Cond.methodLinkNest (zR0 j) i cm.1 RX10 ∈ lw_tbl ∧ ∀ w ∈ ([.initialized cm.1.cls, .instanceMethod cm.1] : List Cond), w ∈ zTG)) := by
  unfold zI at h
  cases hf : zIt.find? (fun e => e.1.1 == j && e.1.2 == i) with
  | none => rw [hf] at h; cases h
  | some e =>
    rw [hf] at h
    have h2 : (e.2.1, e.2.2.1, e.2.2.2.1) = (k, mi, md) := Option.some.inj h
    have hk : e.2.1 = k := congrArg (fun x => x.1) h2
    have hmi : e.2.2.1 = mi := congrArg (fun x => x.2.1) h2
    have hp := List.find?_some hf
    simp only [Bool.and_eq_true, beq_iff_eq] at hp
    have hc := List.all_eq_true.mp zIt_ok e (List.mem_of_find?_eq_some hf)
    unfold zIc at hc
    rw [hk, hmi, hp.1, hp.2, hcm] at hc
    simp only [Bool.and_eq_true, decide_eq_true_eq] at hc
    refine ⟨hc.1, ?_⟩
    have hc := hc.2
    split at hc
    · simp only [Bool.and_eq_true, decide_eq_true_eq] at hc
      exact Or.inl ⟨hc.1.1, hc.1.2, zal_in hc.2⟩
    · simp only [Bool.and_eq_true, decide_eq_true_eq] at hc
      exact Or.inr (Or.inl ⟨hc.1, zal_in hc.2⟩)
    · simp only [Bool.and_eq_true, decide_eq_true_eq] at hc
      obtain ⟨⟨b1, b2⟩, hc⟩ := hc
      split at hc
      · simp only [Bool.and_eq_true, decide_eq_true_eq] at hc
        exact Or.inr (Or.inr ⟨b1, b2, List.mem_of_getElem? hc.1, zal_in hc.2⟩)
      · cases hc
theorem zO_row {j i : Nat} (h : zO j i = true) : Cond.methodLink (zR0 j) i objectInit ∈ zTG := by
  unfold zO at h
  obtain ⟨e, he, hp⟩ := List.any_eq_true.mp h
  simp only [Bool.and_eq_true, beq_iff_eq] at hp
  have hc := of_decide_eq_true (List.all_eq_true.mp zOt_ok e he)
  rw [hp.1, hp.2] at hc
  exact zTG_in hc rfl
section ZJ
variable {p : Program} {l : Launch} {e : Env} {R : Room} {s : State} {m : MethodId} {args : Array Value} {below : List Frame} {meth : Method} {c : Code} {H : Heap} {locs : List Loc} {cells slots : Nat} {Qe : State → Prop}
variable {E : zE} {mm : zM} {d : Nat} {σ : zSh} {ρ : zRf} {I : zIm} {L : zLm} {pc : Nat} {lsr : Array Slot} {rest : List Value}
theorem zr_fin {Q' : zPo} {mc ms : Nat} {st0 : List Value} {a : Array Value} (hr : va_Run p l e R s m args below meth c H locs cells slots mc ms (F0 m pc lsr st0) rest (zQc E Q' a) (zAd E)) (hS : va_S (zAd E) s.heap H locs)
    (kk : ∀ (o : Option Value) (σ' : zSh) (ρ' : zRf) (I' : zIm) (L' : zLm) (H1 : Heap) (locs1 : List Loc), Q' o σ' ρ' I' L' → zP E σ' ρ' I' L' H1 → va_S (zAd E) s.heap H1 locs1 → W p l e R s m args below meth c H1 locs1 (cells + mc) (slots + ms) Qe (F0 m (pc + 3) lsr ((o.map (zco E)).toList ++ rest))) : W p l e R s m args below meth c H locs cells slots Qe (F0 m pc lsr st0) := by
  intro T hT X
  obtain ⟨v, st₀, t, T', L0, h0, X', hL, e1, e2, ⟨⟨o, σ', ρ', I', L', hv, hq, hp⟩, hz, hk⟩, st⟩ := hr T hT X
  cases hv
  rw [h0] at hz hk
  obtain ⟨t2, a1, b1⟩ := kk o σ' ρ' I' L' T'.heap (locs ++ L0) hq (by rw [e1]; exact hp)
    ⟨Nat.le_trans hS.1 (by rw [e1]; exact hz), fun q h1 h2 => by rw [e1, hk q (Nat.lt_of_lt_of_le h1 hS.1) h2]; exact hS.2.1 q h1 h2, fun q hq => by
      rcases List.mem_append.mp hq with h | h
      · exact hS.2.2 q h
      · exact hL q h⟩ T' rfl X'
  exact ⟨t2, st t2 a1, b1⟩
theorem zCx.room (C : zCx p R s m args meth c E mm d) {cm : zM} (h : cm.2.2.1 ≤ 21) : (zrm d cm).frames + 1 ≤ R.frames ∧ 8 + (cm.2.2.1 + 11) + (zrm d cm).locals ≤ R.locals := by
  obtain ⟨-, -, -, -, -, -, -, h1, h2, -⟩ := C
  refine ⟨h1, ?_⟩
  show 8 + (cm.2.2.1 + 11) + 40 * (d + 2) ≤ R.locals
  omega
theorem zr_iv (C : zCx p R s m args meth c E mm d) (hP : zP E σ ρ I L H) (hS : va_S (zAd E) s.heap H locs) (hls : lsr.size = mm.2.2.1) {i k a kd : Nat} {ts : List (Nat × Nat × Nat × List Nat)} {t : Nat × Nat × Nat × List Nat} {cm : zM} {as r : List Value} {Q' : zPo} (hV : zV mm.2.2.2.2.1 i = some (k, ts)) (ht : ts.find? (fun t => t.1 == kd) = some t)
    (hrc : ∃ cell : Cell, H[zad E a]? = some cell ∧ cell.vm.isStatics = false ∧ s.vm.findClass (zR0 kd) = some cell.cls) (hcm : zMs[t.2.1]? = some cm) (hk : as.length = k) (hr : zsum r ≤ 8) (hu : cells + cm.2.2.2.2.2.1 ≤ mm.2.2.2.2.2.1) (hv : slots + cm.2.2.2.2.2.2 ≤ mm.2.2.2.2.2.2)
    (hM : Met l cm.1 (zws cm) (zrm d cm) (zPc E (.ref a :: as) σ ρ I L) (zQc E Q') cm.2.2.2.2.2.1 cm.2.2.2.2.2.2 (zAd E)) (hd : decode mm.2.1 pc = .ok (.invokevirtual i, 3))
    (kk : ∀ (o : Option Value) (σ' : zSh) (ρ' : zRf) (I' : zIm) (L' : zLm) (H1 : Heap) (locs1 : List Loc), Q' o σ' ρ' I' L' → zP E σ' ρ' I' L' H1 → va_S (zAd E) s.heap H1 locs1 → W p l e R s m args below meth c H1 locs1 (cells + cm.2.2.2.2.2.1) (slots + cm.2.2.2.2.2.2) Qe (F0 m (pc + 3) lsr ((o.map (zco E)).toList ++ r.map (zco E)))) :
    W p l e R s m args below meth c H locs cells slots Qe (F0 m pc lsr ((as.map (zco E)).reverse ++ .ref (zad E a) :: r.map (zco E))) := by
  obtain ⟨hcode, hini, -, hcls, hmh, hnl⟩ := zM_row hcm
  have hR := C.room hnl
  obtain ⟨hx, hb, hml, hown, hts, -, hEv, -, -, hRc, hRs⟩ := C
  have htm := List.mem_of_find?_eq_some ht
  have htk : t.1 = kd := by have := List.find?_some ht; simpa using this
  obtain ⟨mi0, hrow⟩ := zV_row hV
  obtain ⟨cm', m0, hcm', hm0, hdesc, hcls', hw⟩ := hrow t htm
  cases hcm.symm.trans hcm'
  rw [htk] at hcls' hw
  have hpre : PreV s H (zR0 kd) (zad E a) (zPc E (.ref a :: as) σ ρ I L) (as.map (zco E)) := ⟨zPc_blind _ _ _ _ _ _, hrc, fun U hU hW => ⟨rfl, by rw [hU]; exact hP, hEv.warm hW hS hU⟩⟩
  have hW : 2 * (F0 m pc lsr ((as.map (zco E)).reverse ++ .ref (zad E a) :: r.map (zco E))).monitorRoom + ((r.map (zco E)).map fun v => v.category).sum ≤ 8 := by
    rw [zsum_co hEv.2.2.2.2.2.1]
    show 2 * 0 + _ ≤ 8
    omega
  rcases hw with hw | ⟨hdsc, hw⟩
  · exact zr_fin (va_runV (As := as.map (zco E)) (rest := r.map (zco E)) ⟨hx, hb, hml, hown, hts⟩ hM (cwV k hts (zgood_app hcode hw) rfl rfl rfl ⟨hcls', hmh.1, hmh.2, hdesc⟩ hR) hpre rfl (by rw [List.length_map]; exact hk) hls rfl hW hd ⟨by rw [hRc]; exact hu, by rw [hRs]; exact hv⟩) hS kk
  · obtain ⟨hcode0, -, -, -, hmh0, -⟩ := zM_row hm0
    exact zr_fin (va_runU (As := as.map (zco E)) (rest := r.map (zco E)) ⟨hx, hb, hml, hown, hts⟩ hM (va_cwO (owner := m0.1.cls) (x := m0.1) k hts (zgood_app hcode hw) rfl rfl rfl hcode0 ⟨hmh0.1, hmh0.2, by rw [← hdsc]; exact hdesc⟩ hR) hpre rfl (by rw [List.length_map]; exact hk) hls rfl hW hd ⟨by rw [hRc]; exact hu, by rw [hRs]; exact hv⟩) hS kk
theorem zr_is (C : zCx p R s m args meth c E mm d) (hP : zP E σ ρ I L H) (hS : va_S (zAd E) s.heap H locs) (hls : lsr.size = mm.2.2.1) {i k mi : Nat} {cm : zM} {as r : List Value} {Q' : zPo} (hV : zS mm.2.2.2.2.1 i = some (k, mi)) (hcm : zMs[mi]? = some cm) (hk : as.length = k) (hr : zsum r ≤ 8) (hu : cells + cm.2.2.2.2.2.1 ≤ mm.2.2.2.2.2.1) (hv : slots + cm.2.2.2.2.2.2 ≤ mm.2.2.2.2.2.2)
    (hM : Met l cm.1 (zws cm) (zrm d cm) (zPc E as σ ρ I L) (zQc E Q') cm.2.2.2.2.2.1 cm.2.2.2.2.2.2 (zAd E)) (hd : decode mm.2.1 pc = .ok (.invokestatic i, 3))
    (kk : ∀ (o : Option Value) (σ' : zSh) (ρ' : zRf) (I' : zIm) (L' : zLm) (H1 : Heap) (locs1 : List Loc), Q' o σ' ρ' I' L' → zP E σ' ρ' I' L' H1 → va_S (zAd E) s.heap H1 locs1 → W p l e R s m args below meth c H1 locs1 (cells + cm.2.2.2.2.2.1) (slots + cm.2.2.2.2.2.2) Qe (F0 m (pc + 3) lsr ((o.map (zco E)).toList ++ r.map (zco E)))) :
    W p l e R s m args below meth c H locs cells slots Qe (F0 m pc lsr ((as.map (zco E)).reverse ++ r.map (zco E))) := by
  obtain ⟨hcode, hini, -, hcls, hmh, hnl⟩ := zM_row hcm
  have hR := C.room hnl
  obtain ⟨hx, hb, hml, hown, hts, -, hEv, -, -, hRc, hRs⟩ := C
  obtain ⟨hdesc, hw⟩ := zS_row hV hcm
  have hpre : PreS s H (zPc E as σ ρ I L) (as.map (zco E)) := ⟨zPc_blind _ _ _ _ _ _, fun U hU hW => ⟨rfl, by rw [hU]; exact hP, hEv.warm hW hS hU⟩⟩
  have hW : 2 * (F0 m pc lsr ((as.map (zco E)).reverse ++ r.map (zco E))).monitorRoom + ((r.map (zco E)).map fun v => v.category).sum ≤ 8 := by
    rw [zsum_co hEv.2.2.2.2.2.1]
    show 2 * 0 + _ ≤ 8
    omega
  exact zr_fin (va_runS (As := as.map (zco E)) (rest := r.map (zco E)) ⟨hx, hb, hml, hown, hts⟩ hM (va_cwS k hts (zgood_app hcode hw) rfl rfl rfl ⟨hmh.1, hmh.2, hdesc⟩ hR) hpre rfl (by rw [List.length_map]; exact hk) hls rfl hW hd ⟨by rw [hRc]; exact hu, by rw [hRs]; exact hv⟩) hS kk
theorem zr_ii (C : zCx p R s m args meth c E mm d) (hP : zP E σ ρ I L H) (hS : va_S (zAd E) s.heap H locs) (hls : lsr.size = mm.2.2.1) {i k mi md a : Nat} {cm : zM} {as r : List Value} {Q' : zPo} (hV : zI mm.2.2.2.2.1 i = some (k, mi, md)) (ha : a < σ.1) (hak : (σ.2 a).1 < 12) (hcm : zMs[mi]? = some cm) (hk : as.length = k) (hr : zsum r ≤ 8) (hu : cells + cm.2.2.2.2.2.1 ≤ mm.2.2.2.2.2.1) (hv : slots + cm.2.2.2.2.2.2 ≤ mm.2.2.2.2.2.2)
    (hM : Met l cm.1 (zws cm) (zrm d cm) (zPc E (.ref a :: as) σ ρ I L) (zQc E Q') cm.2.2.2.2.2.1 cm.2.2.2.2.2.2 (zAd E)) (hd : decode mm.2.1 pc = .ok (.invokespecial i, 3))
    (kk : ∀ (o : Option Value) (σ' : zSh) (ρ' : zRf) (I' : zIm) (L' : zLm) (H1 : Heap) (locs1 : List Loc), Q' o σ' ρ' I' L' → zP E σ' ρ' I' L' H1 → va_S (zAd E) s.heap H1 locs1 → W p l e R s m args below meth c H1 locs1 (cells + cm.2.2.2.2.2.1) (slots + cm.2.2.2.2.2.2) Qe (F0 m (pc + 3) lsr ((o.map (zco E)).toList ++ r.map (zco E)))) :
    W p l e R s m args below meth c H locs cells slots Qe (F0 m pc lsr ((as.map (zco E)).reverse ++ .ref (zad E a) :: r.map (zco E))) := by
  obtain ⟨hcode, hini, -, hcls, hmh, hnl⟩ := zM_row hcm
  have hR := C.room hnl
  obtain ⟨hx, hb, hml, hown, hts, -, hEv, -, -, hRc, hRs⟩ := C
  obtain ⟨hdesc, hw⟩ := zI_row hV hcm
  have hpre : PreS s H (zPc E (.ref a :: as) σ ρ I L) (.ref (zad E a) :: as.map (zco E)) := ⟨zPc_blind _ _ _ _ _ _, fun U hU hW => ⟨rfl, by rw [hU]; exact hP, hEv.warm hW hS hU⟩⟩
  have hW : 2 * (F0 m pc lsr ((as.map (zco E)).reverse ++ .ref (zad E a) :: r.map (zco E))).monitorRoom + ((r.map (zco E)).map fun v => v.category).sum ≤ 8 := by
    rw [zsum_co hEv.2.2.2.2.2.1]
    show 2 * 0 + _ ≤ 8
    omega
  have hf : cells + cm.2.2.2.2.2.1 ≤ R.cells ∧ slots + cm.2.2.2.2.2.2 ≤ R.slots := ⟨by rw [hRc]; exact hu, by rw [hRs]; exact hv⟩
  rcases hw with ⟨w1, w2, w3⟩ | ⟨w1, w3⟩ | ⟨w1, w2, w4, w3⟩
  · have hzws : zws cm = Cond.code cm.1 cm.2.1 cm.2.2.1 none :: zTG := by unfold zws; rw [w2]
    exact zr_fin (va_runI (As := as.map (zco E)) (rest := r.map (zco E)) (bytes := cm.2.1) (maxL := cm.2.2.1) ⟨hx, hb, hml, hown, hts⟩ hM (cwI k hts (zws_good hcode) hzws rfl rfl (hts _ (w3 _ (by simp))) (hts _ (w3 _ (by simp))) (hts _ (w3 _ (by simp))) w1 ⟨hmh.1, hmh.2, hdesc⟩ hR) hpre rfl (by rw [List.length_map]; exact hk) hls rfl hW hd hf) hS kk
  · rcases hP.2.2 a ha with ⟨h12, cell, g1, g2, g3, g4⟩ | ⟨h20, -⟩
    · obtain ⟨r0, hr0, hr1, -⟩ := zcl_row h12
      obtain ⟨-, hat⟩ := hEv.1.1 _ r0 hr0
      have hpre2 : PreV s H r0.1 (zad E a) (zPc E (.ref a :: as) σ ρ I L) (as.map (zco E)) := ⟨hpre.1, ⟨cell, by rw [hP.adr ha]; exact g1, by rw [g3]; rfl, by rw [g2]; exact hat.1⟩, hpre.2⟩
      exact zr_fin (va_runSU (As := as.map (zco E)) (rest := r.map (zco E)) hat ⟨hx, hb, hml, hown, hts⟩ hM (va_cwSU k hts (zgood_app hcode w3) rfl rfl rfl ⟨w1, hdesc⟩ hR) hpre2 rfl (by rw [List.length_map]; exact hk) hls rfl hW hd hf) hS kk
    · omega
  · have hzws : zws cm = Cond.code cm.1 cm.2.1 cm.2.2.1 none :: zTG := by unfold zws; rw [w2]
    exact zr_fin (va_runIN (As := as.map (zco E)) (rest := r.map (zco E)) (bytes := cm.2.1) (maxL := cm.2.2.1) ⟨hx, hb, hml, hown, hts⟩ hM ⟨va_cnB k hts (zws_good hcode) hzws rfl rfl (hEv.2.2.2.2.2.2.1 _ _ _ w4) (hts _ (w3 _ (by simp))) ⟨hmh.1, hmh.2, hdesc⟩ hR, w1, hts _ (w3 _ (by simp))⟩ hpre rfl (by rw [List.length_map]; exact hk) hls rfl hW hd hf) hS kk
end ZJ
end
section
/-! ONE STEP OF THE SMALL MACHINE IS ONE OF THE MACHINE; A CALL MEETS ITS CONTRACT -/
theorem z1_e {st K} (h : z1 st K) : ∃ x r, st = .int x :: r ∧ K x r := by
  unfold z1 at h; split at h
  · exact ⟨_, _, rfl, h⟩
  · cases h
theorem z2_e {st K} (h : z2 st K) : ∃ x y r, st = .int y :: .int x :: r ∧ K x y r := by
  unfold z2 at h; split at h
  · exact ⟨_, _, _, rfl, h⟩
  · cases h
theorem z1l_e {st K} (h : z1l st K) : ∃ x r, st = .long x :: r ∧ K x r := by
  unfold z1l at h; split at h
  · exact ⟨_, _, rfl, h⟩
  · cases h
theorem z2l_e {st K} (h : z2l st K) : ∃ x y r, st = .long y :: .long x :: r ∧ K x y r := by
  unfold z2l at h; split at h
  · exact ⟨_, _, _, rfl, h⟩
  · cases h
theorem zli_e {st K} (h : zli st K) : ∃ x y r, st = .int y :: .long x :: r ∧ K x y r := by
  unfold zli at h; split at h
  · exact ⟨_, _, _, rfl, h⟩
  · cases h
theorem z1r_e {st K} (h : z1r st K) : ∃ x r, st = .ref x :: r ∧ K x r := by
  unfold z1r at h; split at h
  · exact ⟨_, _, rfl, h⟩
  · cases h
theorem zra_e {st K} (h : zra st K) : ∃ a i r, st = .int i :: .ref a :: r ∧ K a i r := by
  unfold zra at h; split at h
  · exact ⟨_, _, _, rfl, h⟩
  · cases h
theorem zia_e {st K} (h : zia st K) : ∃ a i x r, st = .int x :: .int i :: .ref a :: r ∧ K a i x r := by
  unfold zia at h; split at h
  · exact ⟨_, _, _, _, rfl, h⟩
  · cases h
theorem zil_e {st K} (h : zil st K) : ∃ a i x r, st = .long x :: .int i :: .ref a :: r ∧ K a i x r := by
  unfold zil at h; split at h
  · exact ⟨_, _, _, _, rfl, h⟩
  · cases h
theorem zir_e {st K} (h : zir st K) : ∃ a i x r, st = .ref x :: .int i :: .ref a :: r ∧ K a i x r := by
  unfold zir at h; split at h
  · exact ⟨_, _, _, _, rfl, h⟩
  · cases h
theorem z1v_e {st K} (h : z1v st K) : ∃ x r, st = x :: r ∧ K x r := by
  unfold z1v at h; split at h
  · exact ⟨_, _, rfl, h⟩
  · cases h
theorem z2v_e {st K} (h : z2v st K) : ∃ x y r, st = x :: y :: r ∧ K x y r := by
  unfold z2v at h; split at h
  · exact ⟨_, _, _, rfl, h⟩
  · cases h
theorem zj_e {pc off K} (h : zj pc off K) : ∃ t : Nat, (pc : Int) + off = (t : Int) ∧ K t := by
  unfold zj at h; split at h
  · rename_i t e; exact ⟨t, e, h⟩
  · cases h
theorem zF_ty {j i ty k : Nat} {fin : Bool} {oks : List Nat} (h : zF j i = some (ty, k, fin, oks)) {kd : Nat} (hkd : kd ∈ oks) : zft kd k = ty := by
  obtain ⟨r, ref, h1, h2, h3, h4, h5⟩ := zF_row h hkd
  exact h4
theorem zfv_i {ty : Nat} (h : ty = 0 ∨ ty = 1) {ρ I L a k} : zfv ty ρ I L a k = .int (I a k) := by rcases h with rfl | rfl <;> rfl
theorem zput_g {ty : Nat} {ρ ρ' : zRf} {I I' : zIm} {L L' : zLm} {a j : Nat} (h1 : ρ' a j = ρ a j) (h2 : I' a j = I a j) (h3 : L' a j = L a j) : zfv ty ρ' I' L' a j = zfv ty ρ I L a j := zfv_same h1 h2 h3
theorem zput_i {kd k : Nat} {ρ : zRf} {I : zIm} {L : zLm} {a : Nat} {x : Int32} (hk : zft kd k = 0) (j : Nat) : zfv (zft kd j) ρ (zup I a k x) L a j = if j = k then .int x else zfv (zft kd j) ρ I L a j := by
  by_cases e : j = k
  · rw [if_pos e, e, hk, zfv_i (Or.inl rfl), zup_s]
  · rw [if_neg e]; exact zput_g rfl (zup_k e) rfl
theorem zput_z {kd k : Nat} {ρ : zRf} {I : zIm} {L : zLm} {a : Nat} {x : Int32} (hk : zft kd k = 1) (j : Nat) : zfv (zft kd j) ρ (zup I a k x) L a j = if j = k then .int x else zfv (zft kd j) ρ I L a j := by
  by_cases e : j = k
  · rw [if_pos e, e, hk, zfv_i (Or.inr rfl), zup_s]
  · rw [if_neg e]; exact zput_g rfl (zup_k e) rfl
theorem zput_l {kd k : Nat} {ρ : zRf} {I : zIm} {L : zLm} {a : Nat} {x : Int64} (hk : zft kd k = 2) (j : Nat) : zfv (zft kd j) ρ I (zup L a k x) a j = if j = k then .long x else zfv (zft kd j) ρ I L a j := by
  by_cases e : j = k
  · rw [if_pos e, e, hk]
    show Value.long (zup L a k x a k) = _
    rw [zup_s]
  · rw [if_neg e]; exact zput_g rfl rfl (zup_k e)
theorem zput_r {kd k : Nat} {ρ : zRf} {I : zIm} {L : zLm} {a : Nat} {x : Nat} (hk : zft kd k = 3) (j : Nat) : zfv (zft kd j) (zup ρ a k (some x)) I L a j = if j = k then .ref x else zfv (zft kd j) ρ I L a j := by
  by_cases e : j = k
  · rw [if_pos e, e, hk]
    show va_rf (zup ρ a k (some x) a k) = _
    rw [zup_s]
    rfl
  · rw [if_neg e]; exact zput_g (zup_k e) rfl rfl
section ZK
variable {p : Program} {l : Launch} {e : Env} {R : Room} {s : State} {m : MethodId} {args : Array Value} {below : List Frame} {meth : Method} {c : Code} {Qe : State → Prop}
variable {E : zE} {mm : zM} {d : Nat}
def zX (p : Program) (l : Launch) (e : Env) (R : Room) (s : State) (m : MethodId) (args : Array Value) (below : List Frame) (meth : Method) (c : Code) (E : zE) (mm : zM) (Qe : State → Prop) : zCt := fun pc ls st u v σ ρ I L =>
  ∀ (H : Heap) (locs : List Loc) (lsr : Array Slot), zLs E mm.2.2.1 lsr ls → zP E σ ρ I L H → va_S (zAd E) s.heap H locs → W p l e R s m args below meth c H locs u v Qe (F0 m pc lsr (st.map (zco E)))
def zScr (E : zE) (s : State) (scr : zSc) : Prop := match scr with
  | some (N, xs) => va_X E.2.2.2.1 N xs s s.heap ∧ E.2.2.2.1 < s.heap.size ∧ ¬ zAd E E.2.2.2.1
  | none => True
/-- the frame's end -/
def zEnd (p : Program) (l : Launch) (e : Env) (R : Room) (s : State) (m : MethodId) (args : Array Value) (below : List Frame) (meth : Method) (c : Code) (E : zE) (mm : zM) (Q : zPo) (Qe : State → Prop) : Prop :=
  ∀ (o : Option Value) (σ : zSh) (ρ : zRf) (I : zIm) (L : zLm) (u v pc : Nat) (H : Heap) (locs : List Loc) (lsr : Array Slot), u ≤ mm.2.2.2.2.2.1 → v ≤ mm.2.2.2.2.2.2 → Q o σ ρ I L → zP E σ ρ I L H → va_S (zAd E) s.heap H locs →
    ((∃ x ty, o = some (.int x) ∧ mm.2.2.2.1 = some ty ∧ narrow ty (.int x) = .int x ∧ decode mm.2.1 pc = .ok (.ireturn, 1)) ∨ (∃ x, o = some (.long x) ∧ mm.2.2.2.1 = some .long ∧ decode mm.2.1 pc = .ok (.lreturn, 1)) ∨ (o = none ∧ mm.2.2.2.1 = none ∧ decode mm.2.1 pc = .ok (.return_, 1))) →
    W p l e R s m args below meth c H locs u v Qe (F0 m pc lsr o.toList)
def zIH (l : Launch) (E : zE) (d : Nat) : Prop := ∀ (mi : Nat) (cm : zM), zMs[mi]? = some cm → ∀ (as : List Value) (σ : zSh) (ρ : zRf) (I : zIm) (L : zLm) (Q' : zPo), zW d cm as σ ρ I L Q' → Met l cm.1 (zws cm) (zrm d cm) (zPc E as σ ρ I L) (zQc E Q') cm.2.2.2.2.2.1 cm.2.2.2.2.2.2 (zAd E)
theorem zmap_drop {E : zE} {st r : List Value} {k a : Nat} (h : st.drop k = .ref a :: r) : st.map (zco E) = ((st.take k).reverse.map (zco E)).reverse ++ .ref (zad E a) :: r.map (zco E) ∧ (st.take k).reverse.length = k := by
  have hk : k < st.length := by
    rcases Nat.lt_or_ge k st.length with q | q
    · exact q
    · rw [List.drop_eq_nil_of_le q] at h; cases h
  refine ⟨?_, by rw [List.length_reverse, List.length_take]; omega⟩
  have e := List.take_append_drop k st
  conv => lhs; rw [← e, h]
  rw [List.map_append, List.map_reverse, List.reverse_reverse]
  rfl
theorem zmap_take {E : zE} {st : List Value} {k : Nat} (h : k ≤ st.length) : st.map (zco E) = ((st.take k).reverse.map (zco E)).reverse ++ (st.drop k).map (zco E) ∧ (st.take k).reverse.length = k := by
  refine ⟨?_, by rw [List.length_reverse, List.length_take]; omega⟩
  have e := List.take_append_drop k st
  conv => lhs; rw [← e]
  rw [List.map_append, List.map_reverse, List.reverse_reverse]
theorem zback {E : zE} (o : Option Value) (r : List Value) : (o.map (zco E)).toList ++ r.map (zco E) = (o.toList ++ r).map (zco E) := by
  cases o <;> rfl
set_option maxHeartbeats 8000000 in
set_option maxRecDepth 20000 in
theorem zstep {scr : zSc} {Q : zPo} (C : zCx p R s m args meth c E mm d) (hIH : zIH l E d) (hscr : zScr E s scr) (hend : zEnd p l e R s m args below meth c E mm Q Qe) :
    ∀ pc ls st u v σ ρ I L, zst scr (zX p l e R s m args below meth c E mm Qe) (zW d) mm Q pc ls st u v σ ρ I L → zX p l e R s m args below meth c E mm Qe pc ls st u v σ ρ I L := by
  intro pc ls st u v σ ρ I L h H locs lsr hl hP hS
  have hx := C.1
  have hb := C.2.1
  have hown := C.2.2.2.1
  have hts := C.2.2.2.2.1
  have hE := C.2.2.2.2.2.2.1.2.2.2.2.2.1
  have hml : c.maxLocals = lsr.size := C.2.2.1.trans hl.1.symm
  unfold zst at h
  split at h
  · rename_i ins n hd
    unfold zstp at h
    split at h
    · obtain ⟨rfl, h⟩ := h
      exact lv_iconst hx hb hd rfl (h H locs lsr hl hP hS)
    · obtain ⟨rfl, h⟩ := h
      exact lv_bipush hx hb hd rfl (h H locs lsr hl hP hS)
    · obtain ⟨rfl, h⟩ := h
      exact lv_sipush hx hb hd rfl (h H locs lsr hl hP hS)
    · obtain ⟨rfl, h⟩ := h
      exact lv_lconst hx hb hd rfl (h H locs lsr hl hP hS)
    · obtain ⟨rfl, h⟩ := h
      unfold zkons at h
      split at h
      · rename_i w hw
        rcases zK_row hw with ⟨x, rfl, hc⟩ | ⟨x, rfl, hc⟩ | ⟨a, rfl, a1, a2, a3, a4⟩
        · exact lv_ldc hx hb hown (hts _ hc) hd (h H locs lsr hl hP hS)
        · exact h.elim
        · exact zr_ldcs C a3 a1 a2 a4 hd (h H locs lsr hl hP hS)
      · exact h.elim
    · obtain ⟨rfl, h⟩ := h
      unfold zkons at h
      split at h
      · rename_i w hw
        rcases zK_row hw with ⟨x, rfl, hc⟩ | ⟨x, rfl, hc⟩ | ⟨a, rfl, a1, a2, a3, a4⟩
        · exact lv_ldcw hx hb hown (hts _ hc) hd (h H locs lsr hl hP hS)
        · exact h.elim
        · exact h.elim
      · exact h.elim
    · obtain ⟨rfl, h⟩ := h
      unfold zkons at h
      split at h
      · rename_i w hw
        rcases zK_row hw with ⟨x, rfl, hc⟩ | ⟨x, rfl, hc⟩ | ⟨a, rfl, a1, a2, a3, a4⟩
        · exact h.elim
        · exact lv_ldc2 hx hb hown (hts _ hc) hd (h H locs lsr hl hP hS)
        · exact h.elim
      · exact h.elim
    · obtain ⟨rfl, h⟩ := h
      split at h
      · rename_i x hw
        exact lv_iload hx hb hd (hl.ld hw) (h H locs lsr hl hP hS)
      · exact h.elim
    · obtain ⟨rfl, h⟩ := h
      split at h
      · rename_i x hw
        exact lv_iload_n hx hb hd rfl (hl.ld hw) (h H locs lsr hl hP hS)
      · exact h.elim
    · obtain ⟨rfl, h⟩ := h
      split at h
      · rename_i x hw
        exact lv_lload hx hb hd (hl.ld hw) (h H locs lsr hl hP hS)
      · exact h.elim
    · obtain ⟨rfl, h⟩ := h
      split at h
      · rename_i x hw
        exact lv_lload_n hx hb hd rfl (hl.ld hw) (h H locs lsr hl hP hS)
      · exact h.elim
    · obtain ⟨rfl, h⟩ := h
      split at h
      · rename_i x hw
        exact lv_aload hx hb hd (hl.ld hw) (h H locs lsr hl hP hS)
      · exact h.elim
    · obtain ⟨rfl, h⟩ := h
      split at h
      · rename_i x hw
        exact lv_aload_n hx hb hd rfl (hl.ld hw) (h H locs lsr hl hP hS)
      · exact h.elim
    · obtain ⟨rfl, h⟩ := h
      replace h := z1_e h
      obtain ⟨x, r, rfl, hi, h⟩ := h
      exact lv_istore hx hb hd hl.has (by have := hl.2.2.1; omega) rfl (fun ls1 h1 => h H locs ls1 (hl.st1 (v := .int x) hE h1) hP hS)
    · obtain ⟨rfl, h⟩ := h
      replace h := z1_e h
      obtain ⟨x, r, rfl, hi, h⟩ := h
      exact lv_istore_n hx hb hd rfl hl.has (by have := hl.2.2.1; omega) rfl (fun ls1 h1 => h H locs ls1 (hl.st1 (v := .int x) hE h1) hP hS)
    · obtain ⟨rfl, h⟩ := h
      replace h := z1l_e h
      obtain ⟨x, r, rfl, hi, h⟩ := h
      exact lv_lstore hx hb hd hl.has (by have := hl.2.2.1; omega) rfl (fun ls1 h1 => h H locs ls1 (hl.st2 (v := .long x) hE h1) hP hS)
    · obtain ⟨rfl, h⟩ := h
      replace h := z1l_e h
      obtain ⟨x, r, rfl, hi, h⟩ := h
      exact lv_lstore_n hx hb hd rfl hl.has (by have := hl.2.2.1; omega) rfl (fun ls1 h1 => h H locs ls1 (hl.st2 (v := .long x) hE h1) hP hS)
    · obtain ⟨rfl, h⟩ := h
      replace h := z1r_e h
      obtain ⟨x, r, rfl, hi, h⟩ := h
      exact lv_astore hx hb hd hl.has (by have := hl.2.2.1; omega) rfl (fun ls1 h1 => h H locs ls1 (hl.st1 (v := .ref x) hE h1) hP hS)
    · obtain ⟨rfl, h⟩ := h
      replace h := z1r_e h
      obtain ⟨x, r, rfl, hi, h⟩ := h
      exact lv_astore_n hx hb hd rfl hl.has (by have := hl.2.2.1; omega) rfl (fun ls1 h1 => h H locs ls1 (hl.st1 (v := .ref x) hE h1) hP hS)
    · obtain ⟨rfl, h⟩ := h
      split at h
      · rename_i x hw
        have hg := zlg_get hw
        have hin := zll_in (E := E) (q := (_, .int x)).mpr ⟨_, hg, rfl⟩
        obtain ⟨k9, hk9⟩ := List.getElem?_of_mem hin
        exact lv_iinc hx hb hd hl.has hk9 rfl (by have := (List.getElem?_eq_some_iff.mp hg).1; have := hl.2.2.1; omega) rfl (fun ls1 h1 => h H locs ls1 (hl.st1 (v := .int (x + Int32.ofInt _)) hE h1) hP hS)
      · exact h.elim
    · obtain ⟨rfl, h⟩ := h
      replace h := z2_e h
      obtain ⟨x, y, r, rfl, h⟩ := h
      exact lv_iadd hx hb hd (h H locs lsr hl hP hS)
    · obtain ⟨rfl, h⟩ := h
      replace h := z2_e h
      obtain ⟨x, y, r, rfl, h⟩ := h
      exact lv_isub hx hb hd (h H locs lsr hl hP hS)
    · obtain ⟨rfl, h⟩ := h
      replace h := z2_e h
      obtain ⟨x, y, r, rfl, h⟩ := h
      exact lv_imul hx hb hd (h H locs lsr hl hP hS)
    · obtain ⟨rfl, h⟩ := h
      replace h := z2_e h
      obtain ⟨x, y, r, rfl, h⟩ := h
      exact lv_iand hx hb hd (h H locs lsr hl hP hS)
    · obtain ⟨rfl, h⟩ := h
      replace h := z2_e h
      obtain ⟨x, y, r, rfl, h⟩ := h
      exact lv_ior hx hb hd (h H locs lsr hl hP hS)
    · obtain ⟨rfl, h⟩ := h
      replace h := z2_e h
      obtain ⟨x, y, r, rfl, h⟩ := h
      exact lv_ishl hx hb hd (h H locs lsr hl hP hS)
    · obtain ⟨rfl, h⟩ := h
      replace h := z2_e h
      obtain ⟨x, y, r, rfl, h⟩ := h
      exact lv_ishr hx hb hd (h H locs lsr hl hP hS)
    · obtain ⟨rfl, h⟩ := h
      replace h := z2_e h
      obtain ⟨x, y, r, rfl, h⟩ := h
      exact lv_iushr hx hb hd rfl (h H locs lsr hl hP hS)
    · obtain ⟨rfl, h⟩ := h
      replace h := z2_e h
      obtain ⟨x, y, r, rfl, h0, h⟩ := h
      exact lv_idiv hx hb hd h0 (h H locs lsr hl hP hS)
    · obtain ⟨rfl, h⟩ := h
      replace h := z2_e h
      obtain ⟨x, y, r, rfl, h0, h⟩ := h
      exact lv_irem hx hb hd h0 (h H locs lsr hl hP hS)
    · obtain ⟨rfl, h⟩ := h
      replace h := z2l_e h
      obtain ⟨x, y, r, rfl, h⟩ := h
      exact lv_ladd hx hb hd (h H locs lsr hl hP hS)
    · obtain ⟨rfl, h⟩ := h
      replace h := z2l_e h
      obtain ⟨x, y, r, rfl, h⟩ := h
      exact lv_lsub hx hb hd (h H locs lsr hl hP hS)
    · obtain ⟨rfl, h⟩ := h
      replace h := z2l_e h
      obtain ⟨x, y, r, rfl, h⟩ := h
      exact lv_lmul hx hb hd (h H locs lsr hl hP hS)
    · obtain ⟨rfl, h⟩ := h
      replace h := z2l_e h
      obtain ⟨x, y, r, rfl, h⟩ := h
      exact lv_land hx hb hd (h H locs lsr hl hP hS)
    · obtain ⟨rfl, h⟩ := h
      replace h := z2l_e h
      obtain ⟨x, y, r, rfl, h⟩ := h
      exact lv_lor hx hb hd (h H locs lsr hl hP hS)
    · obtain ⟨rfl, h⟩ := h
      replace h := z2l_e h
      obtain ⟨x, y, r, rfl, h0, h⟩ := h
      exact lv_ldiv hx hb hd h0 (h H locs lsr hl hP hS)
    · obtain ⟨rfl, h⟩ := h
      replace h := z2l_e h
      obtain ⟨x, y, r, rfl, h0, h⟩ := h
      exact lv_lrem hx hb hd h0 (h H locs lsr hl hP hS)
    · obtain ⟨rfl, h⟩ := h
      replace h := z2l_e h
      obtain ⟨x, y, r, rfl, h⟩ := h
      exact W.lcmp hx hb hd (h H locs lsr hl hP hS)
    · obtain ⟨rfl, h⟩ := h
      replace h := zli_e h
      obtain ⟨x, y, r, rfl, h⟩ := h
      exact lv_lshl hx hb hd rfl (h H locs lsr hl hP hS)
    · obtain ⟨rfl, h⟩ := h
      replace h := zli_e h
      obtain ⟨x, y, r, rfl, h⟩ := h
      exact lv_lshr hx hb hd rfl (h H locs lsr hl hP hS)
    · obtain ⟨rfl, h⟩ := h
      replace h := zli_e h
      obtain ⟨x, y, r, rfl, h⟩ := h
      exact lv_lushr hx hb hd rfl (h H locs lsr hl hP hS)
    · obtain ⟨rfl, h⟩ := h
      replace h := z1_e h
      obtain ⟨x, r, rfl, h⟩ := h
      exact lv_i2l hx hb hd rfl (h H locs lsr hl hP hS)
    · obtain ⟨rfl, h⟩ := h
      replace h := z1_e h
      obtain ⟨x, r, rfl, h⟩ := h
      exact lv_i2c hx hb hd rfl (h H locs lsr hl hP hS)
    · obtain ⟨rfl, h⟩ := h
      replace h := z1l_e h
      obtain ⟨x, r, rfl, h⟩ := h
      exact lv_l2i hx hb hd rfl (h H locs lsr hl hP hS)
    · obtain ⟨rfl, h⟩ := h
      replace h := z1v_e h
      obtain ⟨x, r, rfl, h0, h⟩ := h
      exact lv_pop hx hb hd ((zco_cat hE x).trans h0) (h H locs lsr hl hP hS)
    · obtain ⟨rfl, h⟩ := h
      replace h := z1v_e h
      obtain ⟨x, r, rfl, h0, h⟩ := h
      exact lv_dup hx hb hd ((zco_cat hE x).trans h0) (h H locs lsr hl hP hS)
    · obtain ⟨rfl, h⟩ := h
      replace h := z1v_e h
      obtain ⟨x, r, rfl, h⟩ := h
      split at h
      · rename_i h0
        exact lv_dup2_2 hx hb hd ((zco_cat hE x).trans h0) (h H locs lsr hl hP hS)
      · replace h := z1v_e h
        obtain ⟨y, r, rfl, h0, h1, h⟩ := h
        exact lv_dup2_11 hx hb hd ((zco_cat hE x).trans h0) ((zco_cat hE y).trans h1) (h H locs lsr hl hP hS)
    · obtain ⟨rfl, h⟩ := h
      replace h := zj_e h
      obtain ⟨t, ht, h⟩ := h
      exact lv_goto hx hb hd ht (h H locs lsr hl hP hS)
    · obtain ⟨rfl, h⟩ := h
      replace h := z1_e h
      obtain ⟨x, r, rfl, h⟩ := h
      replace h := zj_e h
      obtain ⟨t, ht, h⟩ := h
      exact lv_if_eq hx hb hd ht (fun q => by rw [if_pos q] at h; exact h H locs lsr hl hP hS) (fun q => by rw [if_neg q] at h; exact h H locs lsr hl hP hS)
    · obtain ⟨rfl, h⟩ := h
      replace h := z1_e h
      obtain ⟨x, r, rfl, h⟩ := h
      replace h := zj_e h
      obtain ⟨t, ht, h⟩ := h
      exact lv_if_ne hx hb hd ht (fun q => by rw [if_neg q] at h; exact h H locs lsr hl hP hS) (fun q => by rw [if_pos q] at h; exact h H locs lsr hl hP hS)
    · obtain ⟨rfl, h⟩ := h
      replace h := z1_e h
      obtain ⟨x, r, rfl, h⟩ := h
      replace h := zj_e h
      obtain ⟨t, ht, h⟩ := h
      exact lv_if_lt hx hb hd ht (fun q => by rw [if_pos q] at h; exact h H locs lsr hl hP hS) (fun q => by rw [if_neg q] at h; exact h H locs lsr hl hP hS)
    · obtain ⟨rfl, h⟩ := h
      replace h := z1_e h
      obtain ⟨x, r, rfl, h⟩ := h
      replace h := zj_e h
      obtain ⟨t, ht, h⟩ := h
      exact lv_if_ge hx hb hd ht (fun q => by rw [if_pos q] at h; exact h H locs lsr hl hP hS) (fun q => by rw [if_neg q] at h; exact h H locs lsr hl hP hS)
    · obtain ⟨rfl, h⟩ := h
      replace h := z1_e h
      obtain ⟨x, r, rfl, h⟩ := h
      replace h := zj_e h
      obtain ⟨t, ht, h⟩ := h
      exact lv_if_gt hx hb hd ht (fun q => by rw [if_pos q] at h; exact h H locs lsr hl hP hS) (fun q => by rw [if_neg q] at h; exact h H locs lsr hl hP hS)
    · obtain ⟨rfl, h⟩ := h
      replace h := z1_e h
      obtain ⟨x, r, rfl, h⟩ := h
      replace h := zj_e h
      obtain ⟨t, ht, h⟩ := h
      exact lv_if_le hx hb hd ht (fun q => by rw [if_pos q] at h; exact h H locs lsr hl hP hS) (fun q => by rw [if_neg q] at h; exact h H locs lsr hl hP hS)
    · obtain ⟨rfl, h⟩ := h
      replace h := z2_e h
      obtain ⟨x, y, r, rfl, h⟩ := h
      replace h := zj_e h
      obtain ⟨t, ht, h⟩ := h
      exact lv_icmp_eq hx hb hd ht (fun q => by rw [if_pos q] at h; exact h H locs lsr hl hP hS) (fun q => by rw [if_neg q] at h; exact h H locs lsr hl hP hS)
    · obtain ⟨rfl, h⟩ := h
      replace h := z2_e h
      obtain ⟨x, y, r, rfl, h⟩ := h
      replace h := zj_e h
      obtain ⟨t, ht, h⟩ := h
      exact lv_icmp_ne hx hb hd ht (fun q => by rw [if_neg q] at h; exact h H locs lsr hl hP hS) (fun q => by rw [if_pos q] at h; exact h H locs lsr hl hP hS)
    · obtain ⟨rfl, h⟩ := h
      replace h := z2_e h
      obtain ⟨x, y, r, rfl, h⟩ := h
      replace h := zj_e h
      obtain ⟨t, ht, h⟩ := h
      exact lv_icmp_lt hx hb hd ht (fun q => by rw [if_pos q] at h; exact h H locs lsr hl hP hS) (fun q => by rw [if_neg q] at h; exact h H locs lsr hl hP hS)
    · obtain ⟨rfl, h⟩ := h
      replace h := z2_e h
      obtain ⟨x, y, r, rfl, h⟩ := h
      replace h := zj_e h
      obtain ⟨t, ht, h⟩ := h
      exact lv_icmp_ge hx hb hd ht (fun q => by rw [if_pos q] at h; exact h H locs lsr hl hP hS) (fun q => by rw [if_neg q] at h; exact h H locs lsr hl hP hS)
    · obtain ⟨rfl, h⟩ := h
      replace h := z2_e h
      obtain ⟨x, y, r, rfl, h⟩ := h
      replace h := zj_e h
      obtain ⟨t, ht, h⟩ := h
      exact lv_icmp_gt hx hb hd ht (fun q => by rw [if_pos q] at h; exact h H locs lsr hl hP hS) (fun q => by rw [if_neg q] at h; exact h H locs lsr hl hP hS)
    · obtain ⟨rfl, h⟩ := h
      replace h := z2_e h
      obtain ⟨x, y, r, rfl, h⟩ := h
      replace h := zj_e h
      obtain ⟨t, ht, h⟩ := h
      exact lv_icmp_le hx hb hd ht (fun q => by rw [if_pos q] at h; exact h H locs lsr hl hP hS) (fun q => by rw [if_neg q] at h; exact h H locs lsr hl hP hS)
    · replace h := z1_e h
      obtain ⟨x, r, rfl, h⟩ := h
      split at h
      · rename_i hc
        replace h := zj_e h
        obtain ⟨t, ht, h⟩ := h
        exact lv_tableOut hx hb hd hc ht (h H locs lsr hl hP hS)
      · rename_i hc
        split at h
        · rename_i off ho
          replace h := zj_e h
          obtain ⟨t, ht, h⟩ := h
          exact lv_tableIn hx hb hd (fun q => hc (Or.inl q)) (fun q => hc (Or.inr q)) ho ht (h H locs lsr hl hP hS)
        · exact h.elim
    · obtain ⟨rfl, h⟩ := h
      unfold zgf at h
      replace h := z1r_e h
      obtain ⟨a, r, rfl, h⟩ := h
      split at h
      · rename_i hj
        obtain ⟨a1, a2, h⟩ := h
        split at h
        · rename_i hi; subst hi; exact zr_strv C hS hj a1 a2 hd (h H locs lsr hl hP hS)
        · split at h
          · rename_i hi; subst hi; exact zr_strc C hS hj a1 a2 hd (h H locs lsr hl hP hS)
          · exact h.elim
      · split at h
        · rename_i ty k fin oks hF
          exact zr_get C hP hF h.1 h.2.1 hd (h.2.2 H locs lsr hl hP hS)
        · exact h.elim
    · obtain ⟨rfl, h⟩ := h
      unfold zpf at h
      replace h := z2v_e h
      obtain ⟨w, y, r, rfl, h⟩ := h
      split at h
      · rename_i a
        split at h
        · rename_i ty k fin oks hF
          obtain ⟨ha, hok, hfn, h⟩ := h
          split at h
          · rename_i x
            refine zr_put C hP hS hF ha hok hfn hd (fun t t0 _ _ _ => ?_) (fun j => ?_) (fun _ _ _ => rfl) (fun _ _ hc => zup_c hc) (fun _ _ _ => rfl) (fun H1 locs1 p1 q1 => h H1 locs1 lsr hl p1 q1)
            · rw [t0 rfl]; exact ⟨rfl, rfl⟩
            · exact zput_i (zF_ty hF hok) j
          · rename_i x
            obtain ⟨h01, h⟩ := h
            refine zr_put C hP hS hF ha hok hfn hd (fun t _ t1 _ _ => ?_) (fun j => ?_) (fun _ _ _ => rfl) (fun _ _ hc => zup_c hc) (fun _ _ _ => rfl) (fun H1 locs1 p1 q1 => h H1 locs1 lsr hl p1 q1)
            · rw [t1 rfl]; rcases h01 with rfl | rfl <;> exact ⟨rfl, rfl⟩
            · exact zput_z (zF_ty hF hok) j
          · rename_i x
            refine zr_put C hP hS hF ha hok hfn hd (fun t _ _ t2 _ => ?_) (fun j => ?_) (fun _ _ _ => rfl) (fun _ _ _ => rfl) (fun _ _ hc => zup_c hc) (fun H1 locs1 p1 q1 => h H1 locs1 lsr hl p1 q1)
            · rw [t2 rfl]; exact ⟨rfl, rfl⟩
            · exact zput_l (zF_ty hF hok) j
          · rename_i b
            refine zr_put C hP hS hF ha hok hfn hd (fun t _ _ _ t3 => ?_) (fun j => ?_) (fun _ _ hc => zup_c hc) (fun _ _ _ => rfl) (fun _ _ _ => rfl) (fun H1 locs1 p1 q1 => h H1 locs1 lsr hl p1 q1)
            · rcases t3 rfl with ⟨n, rfl⟩ | ⟨n, rfl⟩ <;> exact ⟨rfl, rfl⟩
            · exact zput_r (zF_ty hF hok) j
          · exact h.elim
        · exact h.elim
      · exact h.elim
    · obtain ⟨rfl, hj, h⟩ := h
      split at h
      · rename_i hi; subst hi; exact zr_gst C hS hj hd (h H locs lsr hl hP hS)
      · split at h
        · rename_i hi; subst hi; exact zr_gsf C hS hj hd (h H locs lsr hl hP hS)
        · exact h.elim
    · obtain ⟨rfl, h⟩ := h
      replace h := zra_e h
      obtain ⟨a, i, r, rfl, h⟩ := h
      split at h
      · rename_i ha
        subst ha
        split at h
        · exact va_sld hx hb hscr.1 hscr.2.1 hscr.2.2 hS h.1 hd (h.2 H locs lsr hl hP hS)
        · exact h.elim
      · exact zr_ild C hP h.1 hd (h.2 H locs lsr hl hP hS)
    · obtain ⟨rfl, h⟩ := h
      replace h := zra_e h
      obtain ⟨a, i, r, rfl, h⟩ := h
      split at h
      · rename_i ha
        exact zr_byt C hS ha.1 ha.2 h.1 hd (h.2 H locs lsr hl hP hS)
      · exact zr_zld C hP h.1 hd (h.2 H locs lsr hl hP hS)
    · obtain ⟨rfl, h⟩ := h
      replace h := zra_e h
      obtain ⟨a, i, r, rfl, h⟩ := h
      exact zr_lld C hP h.1 hd (h.2 H locs lsr hl hP hS)
    · obtain ⟨rfl, h⟩ := h
      replace h := zra_e h
      obtain ⟨a, i, r, rfl, h⟩ := h
      exact zr_ald C hP h.1 h.2.1 h.2.2.1 hd (h.2.2.2 H locs lsr hl hP hS)
    · obtain ⟨rfl, h⟩ := h
      replace h := zia_e h
      obtain ⟨a, i, x, r, rfl, h⟩ := h
      exact zr_ist C hP hS h.1 hd (fun H1 locs1 p1 q1 => h.2 H1 locs1 lsr hl p1 q1)
    · obtain ⟨rfl, h⟩ := h
      replace h := zia_e h
      obtain ⟨a, i, x, r, rfl, h⟩ := h
      exact zr_zst C hP hS h.1 h.2.1 hd (fun H1 locs1 p1 q1 => h.2.2 H1 locs1 lsr hl p1 q1)
    · obtain ⟨rfl, h⟩ := h
      replace h := zil_e h
      obtain ⟨a, i, x, r, rfl, h⟩ := h
      exact zr_lst C hP hS h.1 hd (fun H1 locs1 p1 q1 => h.2 H1 locs1 lsr hl p1 q1)
    · obtain ⟨rfl, h⟩ := h
      replace h := zir_e h
      obtain ⟨a, i, x, r, rfl, h⟩ := h
      exact zr_ast C hP hS h.1 h.2.1 h.2.2.1 h.2.2.2.1 hd (fun H1 locs1 p1 q1 => h.2.2.2.2 H1 locs1 lsr hl p1 q1)
    · obtain ⟨rfl, h⟩ := h
      replace h := z1r_e h
      obtain ⟨a, r, rfl, h⟩ := h
      split at h
      · rename_i ha
        subst ha
        split at h
        · exact va_slen hx hb hscr.1 hscr.2.1 hscr.2.2 hS hd (h H locs lsr hl hP hS)
        · exact h.elim
      · split at h
        · rename_i ha
          exact zr_bln C hS ha.1 ha.2 hd (h H locs lsr hl hP hS)
        · exact zr_alen C hP h.1 h.2.1 hd (h.2.2.2 H locs lsr hl hP hS)
    · obtain ⟨rfl, h⟩ := h
      split at h
      · rename_i ci hN
        exact zr_new C hP hS hN h.1 h.2.1 h.2.2.1 hd (fun H1 locs1 p1 q1 => h.2.2.2.2 H1 locs1 lsr hl p1 q1)
      · exact h.elim
    · obtain ⟨rfl, h⟩ := h
      replace h := z1_e h
      obtain ⟨x, r, rfl, hx0, h⟩ := h
      split at h
      · exact zr_newa C hP hS (Or.inl ⟨rfl, rfl⟩) hx0 h.1 h.2.1 h.2.2.1 h.2.2.2.1 hd (fun H1 locs1 p1 q1 => h.2.2.2.2 H1 locs1 lsr hl p1 q1)
      · exact zr_newa C hP hS (Or.inr (Or.inl ⟨rfl, rfl⟩)) hx0 h.1 h.2.1 h.2.2.1 h.2.2.2.1 hd (fun H1 locs1 p1 q1 => h.2.2.2.2 H1 locs1 lsr hl p1 q1)
      · exact zr_newa C hP hS (Or.inr (Or.inr ⟨rfl, rfl⟩)) hx0 h.1 h.2.1 h.2.2.1 h.2.2.2.1 hd (fun H1 locs1 p1 q1 => h.2.2.2.2 H1 locs1 lsr hl p1 q1)
      · exact h.elim
    · obtain ⟨rfl, h⟩ := h
      replace h := z1_e h
      obtain ⟨x, r, rfl, hx0, h⟩ := h
      split at h
      · rename_i kd hA
        exact zr_anew C hP hS hA hx0 h.1 h.2.1 h.2.2.1 h.2.2.2.1 hd (fun H1 locs1 p1 q1 => h.2.2.2.2 H1 locs1 lsr hl p1 q1)
      · exact h.elim
    · obtain ⟨rfl, rfl, hj, rfl, h⟩ := h
      replace h := z2_e h
      obtain ⟨x, y, r, rfl, hx0, hy0, h⟩ := h
      exact zr_mul C hP hS hj hx0 hy0 h.1 h.2.1 h.2.2.1 h.2.2.2.1 h.2.2.2.2.1 hd (fun H1 locs1 p1 q1 => h.2.2.2.2.2 H1 locs1 lsr hl p1 q1)
    · obtain ⟨rfl, h⟩ := h
      split at h
      · rename_i k ts hV
        replace h := z1r_e h
        obtain ⟨a, r, hst, h⟩ := h
        obtain ⟨em, elen⟩ := zmap_drop (E := E) hst
        rw [em]
        have go : ∀ kd, (∃ cell : Cell, H[zad E a]? = some cell ∧ cell.vm.isStatics = false ∧ s.vm.findClass (zR0 kd) = some cell.cls) → (match ts.find? (fun t => t.1 == kd) with
            | some t => zcl (zX p l e R s m args below meth c E mm Qe) (zW d) mm pc ls u v σ ρ I L t.2.1 (.ref a :: (st.take k).reverse) r
            | none => False) → W p l e R s m args below meth c H locs u v Qe (F0 m pc lsr (((st.take k).reverse.map (zco E)).reverse ++ .ref (zad E a) :: r.map (zco E))) := by
          intro kd hrc h
          split at h
          · rename_i t ht
            unfold zcl at h
            split at h
            · rename_i cm hcm
              obtain ⟨g1, g2, g3, h⟩ := h
              exact zr_iv C hP hS hl.1 hV ht hrc hcm elen g1 g2 g3 (hIH _ _ hcm _ _ _ _ _ _ h) hd (fun o σ1 ρ1 I1 L1 H1 locs1 q1 p1 s1 => by rw [zback]; exact q1 H1 locs1 lsr hl p1 s1)
            · exact h.elim
          · exact h.elim
        unfold zkd at h
        split at h
        · rename_i ha
          refine go _ ?_ h.2
          rcases hP.2.2 a ha with ⟨h12, cell, g1, g2, g3, g4⟩ | ⟨h20, -, -⟩
          · obtain ⟨r0, hr0, hr1, -⟩ := zcl_row h12
            obtain ⟨-, hat⟩ := C.2.2.2.2.2.2.1.1.1 _ r0 hr0
            exact ⟨cell, by rw [hP.adr ha]; exact g1, by rw [g3]; rfl, by rw [g2, ← hr1]; exact hat.1⟩
          · have := h.1; omega
        · split at h
          · rename_i ha0 ha
            refine go 20 ?_ h
            have := vk_recv (H := H) C.2.2.2.2.2.2.1.2.1 (i := a - 5000) (by omega) hS
            have e1 : zad E a = E.2.1 (a - 5000) := by unfold zad; rw [if_neg (by omega), if_pos (by omega)]
            rw [e1]
            exact this
          · exact h.elim
      · exact h.elim
    · obtain ⟨rfl, h⟩ := h
      split at h
      · rename_i hO
        replace h := z1r_e h
        obtain ⟨a, r, rfl, h⟩ := h
        obtain ⟨w2, w3⟩ := zO_w
        have hw := zO_row hO
        refine W.objInit hx hb hown (hts _ hw) (hts _ (zTG_in w2 rfl)) (hts _ (zTG_in w3 rfl)) rfl (by show lsr.size = _; rw [hl.1]; exact C.2.2.1.symm) rfl hd ?_ ?_ (h.2 H locs lsr hl hP hS)
        · have := C.2.2.2.2.2.2.2.1; omega
        · have h8 := C.2.2.2.2.2.2.2.2.1
          have h9 := h.1
          show 2 * 0 + ((r.map (zco E)).map fun v => v.category).sum + 12 ≤ _
          rw [zsum_co hE]
          omega
      · split at h
        · rename_i k mi md hI
          replace h := z1r_e h
          obtain ⟨a, r, hst, ha, hak, h⟩ := h
          obtain ⟨em, elen⟩ := zmap_drop (E := E) hst
          rw [em]
          unfold zcl at h
          split at h
          · rename_i cm hcm
            obtain ⟨g1, g2, g3, h⟩ := h
            exact zr_ii C hP hS hl.1 hI ha hak hcm elen g1 g2 g3 (hIH _ _ hcm _ _ _ _ _ _ h) hd (fun o σ1 ρ1 I1 L1 H1 locs1 q1 p1 s1 => by rw [zback]; exact q1 H1 locs1 lsr hl p1 s1)
          · exact h.elim
        · exact h.elim
    · obtain ⟨rfl, h⟩ := h
      split at h
      · rename_i hc
        obtain ⟨hj, rfl⟩ := hc
        unfold zcpy at h
        split at h
        · obtain ⟨a1, a2, a3, a4, a5, a6, a7, a8, a9, a10, h⟩ := h
          exact zr_cpy C hP hS hl.1 hj a1 a2 a3 a4 a5 a6 a7 a8 a9 (by rw [zsum_co hE]; exact a10) hd (fun H1 locs1 p1 q1 => h H1 locs1 lsr hl p1 q1)
        · exact h.elim
      · split at h
        · rename_i hc
          obtain ⟨hj, rfl⟩ := hc
          replace h := z2_e h
          obtain ⟨x, y, r, rfl, h0, hu, hv, h⟩ := h
          obtain ⟨w1, w2, w3, w4⟩ := zB_max
          rw [hj] at hown
          refine va_mmax hx hb hml hown (hts _ (zTG_in w1 rfl)) (hts _ (zTG_in w2 rfl)) (hts _ (zTG_in w3 rfl)) (hts _ (zTG_in w4 rfl)) (by have := C.2.2.2.2.2.2.2.1; omega) (by have := C.2.2.2.2.2.2.2.2.1; rw [zsum_co hE]; omega) (by rw [C.2.2.2.2.2.2.2.2.2.1]; exact hu) (by rw [C.2.2.2.2.2.2.2.2.2.2]; exact hv) hd (h H locs lsr hl hP hS)
        · split at h
          · rename_i hc
            obtain ⟨hj, rfl⟩ := hc
            replace h := z2_e h
            obtain ⟨x, y, r, rfl, h0, hu, hv, h⟩ := h
            obtain ⟨w1, w2, w3, w4⟩ := zB_min
            rw [hj] at hown
            refine va_mmin hx hb hml hown (hts _ (zTG_in w1 rfl)) (hts _ (zTG_in w2 rfl)) (hts _ (zTG_in w3 rfl)) (hts _ (zTG_in w4 rfl)) (by have := C.2.2.2.2.2.2.2.1; omega) (by have := C.2.2.2.2.2.2.2.2.1; rw [zsum_co hE]; omega) (by rw [C.2.2.2.2.2.2.2.2.2.1]; exact hu) (by rw [C.2.2.2.2.2.2.2.2.2.2]; exact hv) hd (h H locs lsr hl hP hS)
          · split at h
            · rename_i k mi hS0
              obtain ⟨hk, h⟩ := h
              obtain ⟨em, elen⟩ := zmap_take (E := E) hk
              rw [em]
              unfold zcl at h
              split at h
              · rename_i cm hcm
                obtain ⟨g1, g2, g3, h⟩ := h
                exact zr_is C hP hS hl.1 hS0 hcm elen g1 g2 g3 (hIH _ _ hcm _ _ _ _ _ _ h) hd (fun o σ1 ρ1 I1 L1 H1 locs1 q1 p1 s1 => by rw [zback]; exact q1 H1 locs1 lsr hl p1 s1)
              · exact h.elim
            · exact h.elim
    · obtain ⟨rfl, h⟩ := h
      split at h
      · rename_i x
        split at h
        · rename_i ty hty
          obtain ⟨hn, -, h1, h2, h⟩ := h
          exact hend _ σ ρ I L u v pc H locs lsr h1 h2 h hP hS (Or.inl ⟨x, ty, rfl, hty, hn, hd⟩)
        · exact h.elim
      · exact h.elim
    · obtain ⟨rfl, h⟩ := h
      split at h
      · rename_i x
        obtain ⟨hty, h1, h2, h⟩ := h
        exact hend _ σ ρ I L u v pc H locs lsr h1 h2 h hP hS (Or.inr (Or.inl ⟨x, rfl, hty, hd⟩))
      · exact h.elim
    · obtain ⟨rfl, h⟩ := h
      split at h
      · obtain ⟨hty, h1, h2, h⟩ := h
        exact hend _ σ ρ I L u v pc H locs lsr h1 h2 h hP hS (Or.inr (Or.inr ⟨rfl, hty, hd⟩))
      · exact h.elim
    · exact h.elim
  · exact h.elim
end ZK
end
section
/-! A CALL OF THE SMALL MACHINE IS A CONTRACT OF THE MACHINE -/
theorem zla_in {E : zE} (hE : E.2.2.2.2.1.category = 1) : ∀ (as : List Value) (i0 j : Nat) (w : Value), (zla as)[j]? = some (some w) → (i0 + j, zco E w) ∈ lv_args i0 (as.map (zco E))
  | [], i0, j, w, h => by simp [zla] at h
  | v :: vs, i0, j, w, h => by
    show (i0 + j, zco E w) ∈ (i0, zco E v) :: lv_args (if (zco E v).category = 2 then i0 + 2 else i0 + 1) (vs.map (zco E))
    rw [zco_cat hE]
    unfold zla at h
    by_cases hc : v.category = 2
    · rw [if_pos hc] at h ⊢
      match j, h with
      | 0, h => simp at h; subst h; exact List.mem_cons_self
      | 1, h => simp at h
      | j + 2, h =>
        have := zla_in hE vs (i0 + 2) j w (by simpa using h)
        rw [show i0 + 2 + j = i0 + (j + 2) by omega] at this
        exact List.mem_cons_of_mem _ this
    · rw [if_neg hc] at h ⊢
      match j, h with
      | 0, h => simp at h; subst h; exact List.mem_cons_self
      | j + 1, h =>
        have := zla_in hE vs (i0 + 1) j w (by simpa using h)
        rw [show i0 + 1 + j = i0 + (j + 1) by omega] at this
        exact List.mem_cons_of_mem _ this
theorem zla_len {E : zE} (hE : E.2.2.2.2.1.category = 1) : ∀ as : List Value, (lg_sl (as.map (zco E))).length = (zla as).length
  | [] => rfl
  | v :: vs => by
    have ih := zla_len hE vs
    have e1 : zla (v :: vs) = if v.category = 2 then some v :: none :: zla vs else some v :: zla vs := rfl
    unfold lg_sl at ih ⊢
    rw [List.map_cons, List.flatMap_cons, List.length_append, ih, e1, zco_cat hE]
    by_cases hc : v.category = 2
    · rw [if_pos hc, if_pos hc]; simp; omega
    · rw [if_neg hc, if_neg hc]; simp; omega
theorem zen_get {n : Nat} {as : List Value} {i : Nat} {w : Value} (h : (zen n as)[i]? = some (some w)) : (zla as)[i]? = some (some w) := by
  unfold zen at h
  by_cases hi : i < (zla as).length
  · rw [List.getElem?_append_left hi] at h; exact h
  · rw [List.getElem?_append_right (by omega)] at h
    have := List.eq_of_mem_replicate (List.mem_of_getElem? h)
    cases this
theorem zLs.entry {E : zE} (hE : E.2.2.2.2.1.category = 1) {as : List Value} {n : Nat} (h : (zla as).length ≤ n) {lsr : Array Slot} (hl : lv_has lsr n (lv_args 0 (as.map (zco E)))) : zLs E n lsr (zen n as) := by
  refine ⟨hl.1, hl.2.1, ?_, fun i w hw => ?_⟩
  · unfold zen
    rw [List.length_append, List.length_replicate]
    omega
  · have := zla_in hE as 0 i w (zen_get hw)
    rw [Nat.zero_add] at this
    exact hl.2.2 _ this
set_option maxHeartbeats 4000000 in
theorem zsound (l : Launch) (E : zE) : ∀ d, zIH l E d
  | 0 => fun _ _ _ _ _ _ _ _ _ h => h.elim
  | d + 1 => by
    intro mi cm hcm as σ ρ I L Q' h
    obtain ⟨hlen, hR⟩ := h
    obtain ⟨hcode, hini, hpl, hcls, hmh, hnl⟩ := zM_row hcm
    refine Met.ofW (cc := cm.2.1) (maxL := cm.2.2.1) (ret := cm.2.2.2.1) hpl rfl ?_
    intro p e s m args below meth c s₁ B hml hv
    obtain ⟨rfl, hP, hEv⟩ := hv
    have hx := B.exec
    have hb := B.bytes
    have hr := B.returns
    have hts0 := atoms_spec (ws := zws cm) B.pre
    have hts : ∀ w ∈ zTG, w.before (as.map (zco E)).toArray s = true := fun w hw => hts0 w (List.mem_cons_of_mem _ hw)
    have hown : s.vm.findClass (zR0 cm.2.2.2.2.1) = some m.cls := by rw [← hcls]; exact findClass_of_methodNamed B.named
    have hlocks := B.notSynchronized
    have hin : meth.name = cm.1.name := (name_of_methodNamed B.named B.method).1
    have hE := hEv.2.2.2.2.2.1
    have C : zCx p (headSpec (zws cm) (zrm (d + 1) cm)).room s m (as.map (zco E)).toArray meth c E cm d := ⟨hx, hb, hml, hown, hts, fun q => hin.trans q, hEv, Nat.le_refl _, Nat.le_refl _, rfl, rfl⟩
    have hend : zEnd p l e (headSpec (zws cm) (zrm (d + 1) cm)).room s m (as.map (zco E)).toArray below meth c E cm Q' (MQ below (zQc E Q') (as.map (zco E)).toArray s cm.2.2.2.2.2.1 cm.2.2.2.2.2.2 (zAd E)) := by
      intro o σ ρ I L u v pc H locs lsr hu hv hQ hP hS hcase
      refine W.widen hu hv ?_
      rcases hcase with ⟨x, ty, rfl, hty, hn, hd⟩ | ⟨x, rfl, hty, hd⟩ | ⟨rfl, hty, hd⟩
      · exact W.zret hx hb (hr.trans hty) hn (fun t ht _ => ⟨⟨_, σ, ρ, I, L, rfl, hQ, by rw [ht]; exact hP⟩, hS.F ht⟩) hS.2.2 hd hlocks
      · exact W.lret hx hb (hr.trans hty) (fun t ht _ => ⟨⟨_, σ, ρ, I, L, rfl, hQ, by rw [ht]; exact hP⟩, hS.F ht⟩) hS.2.2 hd hlocks
      · exact W.vret hx hb (hr.trans hty) (fun t ht _ => ⟨⟨_, σ, ρ, I, L, rfl, hQ, by rw [ht]; exact hP⟩, hS.F ht⟩) hS.2.2 hd hlocks
    have key := hR _ (zstep (scr := none) C (zsound l E d) trivial hend)
    have hl := lv_entry (as.map (zco E)) (n := cm.2.2.1) (by rw [zla_len hE]; exact hlen)
    rw [lg_entry_eq]
    generalize (lg_sl (as.map (zco E)) ++ List.replicate (cm.2.2.1 - (lg_sl (as.map (zco E))).length) Slot.unset).toArray = lsr at hl ⊢
    exact key s.heap [] lsr (zLs.entry hE hlen hl) hP va_S.rf
end
section
/-! ONE INSTRUCTION AS AN EQUATION (for simp): frames that make nothing -/
def zq (d : Nat) (mm : zM) (Q : zPo) (pc : Nat) (ls : zLo) (st : List Value) (σ : zSh) (ρ : zRf) (I : zIm) (L : zLm) : Prop := zR none (zW d) mm Q pc ls st 0 0 σ ρ I L
theorem zj_at {pc : Nat} {off : Int} {t : Nat} {K : Nat → Prop} (h : (pc : Int) + off = (t : Int)) : zj pc off K = K t := by
  unfold zj; rw [h]
section ZO
variable {d : Nat} {mm : zM} {Q : zPo} {pc : Nat} {ls ls' : zLo} {st : List Value} {σ : zSh} {ρ : zRf} {I : zIm} {L : zLm}
theorem oi_iconst {k : Int} {v : Int32} (hd : decode mm.2.1 pc = .ok (.iconst k, 1)) (hv : Int32.ofInt k = v) : zq d mm Q pc ls st σ ρ I L = zq d mm Q (pc + 1) ls (.int v :: st) σ ρ I L := by
  unfold zq; rw [zR_op hd, ← hv]; show (1 = 1 ∧ _) = _; rw [eq_self, true_and]
theorem oi_bipush {k : Int} {v : Int32} (hd : decode mm.2.1 pc = .ok (.bipush k, 2)) (hv : (Int8.ofInt k).toInt32 = v) : zq d mm Q pc ls st σ ρ I L = zq d mm Q (pc + 2) ls (.int v :: st) σ ρ I L := by
  unfold zq; rw [zR_op hd, ← hv]; show (2 = 2 ∧ _) = _; rw [eq_self, true_and]
theorem oi_sipush {k : Int} {v : Int32} (hd : decode mm.2.1 pc = .ok (.sipush k, 3)) (hv : (Int16.ofInt k).toInt32 = v) : zq d mm Q pc ls st σ ρ I L = zq d mm Q (pc + 3) ls (.int v :: st) σ ρ I L := by
  unfold zq; rw [zR_op hd, ← hv]; show (3 = 3 ∧ _) = _; rw [eq_self, true_and]
theorem oi_lconst {k : Fin 2} {v : Int64} (hd : decode mm.2.1 pc = .ok (.lconst k, 1)) (hv : Int64.ofNat (k : Nat) = v) : zq d mm Q pc ls st σ ρ I L = zq d mm Q (pc + 1) ls (.long v :: st) σ ρ I L := by
  unfold zq; rw [zR_op hd, ← hv]; show (1 = 1 ∧ _) = _; rw [eq_self, true_and]
theorem oi_ldc {i : Nat} {v : Int32} (hd : decode mm.2.1 pc = .ok (.ldc i, 2)) (hk : zK mm.2.2.2.2.1 i = some (.int v)) : zq d mm Q pc ls st σ ρ I L = zq d mm Q (pc + 2) ls (.int v :: st) σ ρ I L := by
  unfold zq; rw [zR_op hd]; show (2 = 2 ∧ zkons _ _ _) = _; unfold zkons; rw [hk, eq_self, true_and]
theorem oi_ldcs {i a : Nat} (hd : decode mm.2.1 pc = .ok (.ldc i, 2)) (hk : zK mm.2.2.2.2.1 i = some (.ref a)) : zq d mm Q pc ls st σ ρ I L = zq d mm Q (pc + 2) ls (.ref a :: st) σ ρ I L := by
  unfold zq; rw [zR_op hd]; show (2 = 2 ∧ zkons _ _ _) = _; unfold zkons; rw [hk, eq_self, true_and]
theorem oi_ldc_w {i : Nat} {v : Int32} (hd : decode mm.2.1 pc = .ok (.ldc_w i, 3)) (hk : zK mm.2.2.2.2.1 i = some (.int v)) : zq d mm Q pc ls st σ ρ I L = zq d mm Q (pc + 3) ls (.int v :: st) σ ρ I L := by
  unfold zq; rw [zR_op hd]; show (3 = 3 ∧ zkons _ _ _) = _; unfold zkons; rw [hk, eq_self, true_and]
theorem oi_ldc2_w {i : Nat} {v : Int64} (hd : decode mm.2.1 pc = .ok (.ldc2_w i, 3)) (hk : zK mm.2.2.2.2.1 i = some (.long v)) : zq d mm Q pc ls st σ ρ I L = zq d mm Q (pc + 3) ls (.long v :: st) σ ρ I L := by
  unfold zq; rw [zR_op hd]; show (3 = 3 ∧ zkons _ _ _) = _; unfold zkons; rw [hk, eq_self, true_and]
theorem oi_iload {i : Nat} {x : Int32} (hd : decode mm.2.1 pc = .ok (.iload i, 2)) (hl : zlg ls i = some (.int x)) : zq d mm Q pc ls st σ ρ I L = zq d mm Q (pc + 2) ls (.int x :: st) σ ρ I L := by
  unfold zq; rw [zR_op hd]; unfold zstp; simp only [hl, true_and]
theorem oi_iload_n {i : Fin 4} {x : Int32} (hd : decode mm.2.1 pc = .ok (.iload_n i, 1)) (hl : zlg ls i = some (.int x)) : zq d mm Q pc ls st σ ρ I L = zq d mm Q (pc + 1) ls (.int x :: st) σ ρ I L := by
  unfold zq; rw [zR_op hd]; unfold zstp; simp only [hl, true_and]
theorem oi_lload {i : Nat} {x : Int64} (hd : decode mm.2.1 pc = .ok (.lload i, 2)) (hl : zlg ls i = some (.long x)) : zq d mm Q pc ls st σ ρ I L = zq d mm Q (pc + 2) ls (.long x :: st) σ ρ I L := by
  unfold zq; rw [zR_op hd]; unfold zstp; simp only [hl, true_and]
theorem oi_lload_n {i : Fin 4} {x : Int64} (hd : decode mm.2.1 pc = .ok (.lload_n i, 1)) (hl : zlg ls i = some (.long x)) : zq d mm Q pc ls st σ ρ I L = zq d mm Q (pc + 1) ls (.long x :: st) σ ρ I L := by
  unfold zq; rw [zR_op hd]; unfold zstp; simp only [hl, true_and]
theorem oi_aload {i x : Nat} (hd : decode mm.2.1 pc = .ok (.aload i, 2)) (hl : zlg ls i = some (.ref x)) : zq d mm Q pc ls st σ ρ I L = zq d mm Q (pc + 2) ls (.ref x :: st) σ ρ I L := by
  unfold zq; rw [zR_op hd]; unfold zstp; simp only [hl, true_and]
theorem oi_aload_n {i : Fin 4} {x : Nat} (hd : decode mm.2.1 pc = .ok (.aload_n i, 1)) (hl : zlg ls i = some (.ref x)) : zq d mm Q pc ls st σ ρ I L = zq d mm Q (pc + 1) ls (.ref x :: st) σ ρ I L := by
  unfold zq; rw [zR_op hd]; unfold zstp; simp only [hl, true_and]
theorem oi_istore {i : Nat} {x : Int32} (hd : decode mm.2.1 pc = .ok (.istore i, 2)) (hi : i < ls.length) (hs : zs1 ls i (.int x) = ls') : zq d mm Q pc ls (.int x :: st) σ ρ I L = zq d mm Q (pc + 2) ls' st σ ρ I L := by
  unfold zq; rw [zR_op hd, ← hs]; unfold zstp z1; simp only [hi, true_and]
theorem oi_istore_n {i : Fin 4} {x : Int32} (hd : decode mm.2.1 pc = .ok (.istore_n i, 1)) (hi : (i : Nat) < ls.length) (hs : zs1 ls i (.int x) = ls') : zq d mm Q pc ls (.int x :: st) σ ρ I L = zq d mm Q (pc + 1) ls' st σ ρ I L := by
  unfold zq; rw [zR_op hd, ← hs]; unfold zstp z1; simp only [hi, true_and]
theorem oi_lstore {i : Nat} {x : Int64} (hd : decode mm.2.1 pc = .ok (.lstore i, 2)) (hi : i + 1 < ls.length) (hs : zs2 ls i (.long x) = ls') : zq d mm Q pc ls (.long x :: st) σ ρ I L = zq d mm Q (pc + 2) ls' st σ ρ I L := by
  unfold zq; rw [zR_op hd, ← hs]; unfold zstp z1l; simp only [hi, true_and]
theorem oi_lstore_n {i : Fin 4} {x : Int64} (hd : decode mm.2.1 pc = .ok (.lstore_n i, 1)) (hi : (i : Nat) + 1 < ls.length) (hs : zs2 ls i (.long x) = ls') : zq d mm Q pc ls (.long x :: st) σ ρ I L = zq d mm Q (pc + 1) ls' st σ ρ I L := by
  unfold zq; rw [zR_op hd, ← hs]; unfold zstp z1l; simp only [hi, true_and]
theorem oi_astore {i x : Nat} (hd : decode mm.2.1 pc = .ok (.astore i, 2)) (hi : i < ls.length) (hs : zs1 ls i (.ref x) = ls') : zq d mm Q pc ls (.ref x :: st) σ ρ I L = zq d mm Q (pc + 2) ls' st σ ρ I L := by
  unfold zq; rw [zR_op hd, ← hs]; unfold zstp z1r; simp only [hi, true_and]
theorem oi_astore_n {i : Fin 4} {x : Nat} (hd : decode mm.2.1 pc = .ok (.astore_n i, 1)) (hi : (i : Nat) < ls.length) (hs : zs1 ls i (.ref x) = ls') : zq d mm Q pc ls (.ref x :: st) σ ρ I L = zq d mm Q (pc + 1) ls' st σ ρ I L := by
  unfold zq; rw [zR_op hd, ← hs]; unfold zstp z1r; simp only [hi, true_and]
theorem oi_iinc {i : Nat} {k : Int} {x v : Int32} (hd : decode mm.2.1 pc = .ok (.iinc i k, 3)) (hl : zlg ls i = some (.int x)) (hv : Int32.ofInt k = v) (hs : zs1 ls i (.int (x + v)) = ls') : zq d mm Q pc ls st σ ρ I L = zq d mm Q (pc + 3) ls' st σ ρ I L := by
  unfold zq; rw [zR_op hd, ← hs, ← hv]; unfold zstp; simp only [hl, true_and]
theorem oi_iadd {x y : Int32} (hd : decode mm.2.1 pc = .ok (.iadd, 1)) : zq d mm Q pc ls (.int y :: .int x :: st) σ ρ I L = zq d mm Q (pc + 1) ls (.int (x + y) :: st) σ ρ I L := by
  unfold zq; rw [zR_op hd]; unfold zstp z2; simp only [true_and]
theorem oi_isub {x y : Int32} (hd : decode mm.2.1 pc = .ok (.isub, 1)) : zq d mm Q pc ls (.int y :: .int x :: st) σ ρ I L = zq d mm Q (pc + 1) ls (.int (x - y) :: st) σ ρ I L := by
  unfold zq; rw [zR_op hd]; unfold zstp z2; simp only [true_and]
theorem oi_imul {x y : Int32} (hd : decode mm.2.1 pc = .ok (.imul, 1)) : zq d mm Q pc ls (.int y :: .int x :: st) σ ρ I L = zq d mm Q (pc + 1) ls (.int (x * y) :: st) σ ρ I L := by
  unfold zq; rw [zR_op hd]; unfold zstp z2; simp only [true_and]
theorem oi_iand {x y : Int32} (hd : decode mm.2.1 pc = .ok (.iand, 1)) : zq d mm Q pc ls (.int y :: .int x :: st) σ ρ I L = zq d mm Q (pc + 1) ls (.int (x &&& y) :: st) σ ρ I L := by
  unfold zq; rw [zR_op hd]; unfold zstp z2; simp only [true_and]
theorem oi_ior {x y : Int32} (hd : decode mm.2.1 pc = .ok (.ior, 1)) : zq d mm Q pc ls (.int y :: .int x :: st) σ ρ I L = zq d mm Q (pc + 1) ls (.int (x ||| y) :: st) σ ρ I L := by
  unfold zq; rw [zR_op hd]; unfold zstp z2; simp only [true_and]
theorem oi_ishl {x y : Int32} (hd : decode mm.2.1 pc = .ok (.ishl, 1)) : zq d mm Q pc ls (.int y :: .int x :: st) σ ρ I L = zq d mm Q (pc + 1) ls (.int (x <<< (y &&& 31)) :: st) σ ρ I L := by
  unfold zq; rw [zR_op hd]; unfold zstp z2; simp only [true_and]
theorem oi_ishr {x y : Int32} (hd : decode mm.2.1 pc = .ok (.ishr, 1)) : zq d mm Q pc ls (.int y :: .int x :: st) σ ρ I L = zq d mm Q (pc + 1) ls (.int (x >>> (y &&& 31)) :: st) σ ρ I L := by
  unfold zq; rw [zR_op hd]; unfold zstp z2; simp only [true_and]
theorem oi_iushr {x y : Int32} (hd : decode mm.2.1 pc = .ok (.iushr, 1)) : zq d mm Q pc ls (.int y :: .int x :: st) σ ρ I L = zq d mm Q (pc + 1) ls (.int (x.toUInt32 >>> (y.toUInt32 &&& Int32.toUInt32 31)).toInt32 :: st) σ ρ I L := by
  unfold zq; rw [zR_op hd]; unfold zstp z2; simp only [true_and]
theorem oi_idiv {x y : Int32} (hd : decode mm.2.1 pc = .ok (.idiv, 1)) : zq d mm Q pc ls (.int y :: .int x :: st) σ ρ I L = (¬ y = 0 ∧ zq d mm Q (pc + 1) ls (.int (x / y) :: st) σ ρ I L) := by
  unfold zq; rw [zR_op hd]; unfold zstp z2; simp only [true_and]
theorem oi_irem {x y : Int32} (hd : decode mm.2.1 pc = .ok (.irem, 1)) : zq d mm Q pc ls (.int y :: .int x :: st) σ ρ I L = (¬ y = 0 ∧ zq d mm Q (pc + 1) ls (.int (x - x / y * y) :: st) σ ρ I L) := by
  unfold zq; rw [zR_op hd]; unfold zstp z2; simp only [true_and]
theorem oi_ladd {x y : Int64} (hd : decode mm.2.1 pc = .ok (.ladd, 1)) : zq d mm Q pc ls (.long y :: .long x :: st) σ ρ I L = zq d mm Q (pc + 1) ls (.long (x + y) :: st) σ ρ I L := by
  unfold zq; rw [zR_op hd]; unfold zstp z2l; simp only [true_and]
theorem oi_lsub {x y : Int64} (hd : decode mm.2.1 pc = .ok (.lsub, 1)) : zq d mm Q pc ls (.long y :: .long x :: st) σ ρ I L = zq d mm Q (pc + 1) ls (.long (x - y) :: st) σ ρ I L := by
  unfold zq; rw [zR_op hd]; unfold zstp z2l; simp only [true_and]
theorem oi_lmul {x y : Int64} (hd : decode mm.2.1 pc = .ok (.lmul, 1)) : zq d mm Q pc ls (.long y :: .long x :: st) σ ρ I L = zq d mm Q (pc + 1) ls (.long (x * y) :: st) σ ρ I L := by
  unfold zq; rw [zR_op hd]; unfold zstp z2l; simp only [true_and]
theorem oi_land {x y : Int64} (hd : decode mm.2.1 pc = .ok (.land, 1)) : zq d mm Q pc ls (.long y :: .long x :: st) σ ρ I L = zq d mm Q (pc + 1) ls (.long (x &&& y) :: st) σ ρ I L := by
  unfold zq; rw [zR_op hd]; unfold zstp z2l; simp only [true_and]
theorem oi_lor {x y : Int64} (hd : decode mm.2.1 pc = .ok (.lor, 1)) : zq d mm Q pc ls (.long y :: .long x :: st) σ ρ I L = zq d mm Q (pc + 1) ls (.long (x ||| y) :: st) σ ρ I L := by
  unfold zq; rw [zR_op hd]; unfold zstp z2l; simp only [true_and]
theorem oi_ldiv {x y : Int64} (hd : decode mm.2.1 pc = .ok (.ldiv, 1)) : zq d mm Q pc ls (.long y :: .long x :: st) σ ρ I L = (¬ y = 0 ∧ zq d mm Q (pc + 1) ls (.long (x / y) :: st) σ ρ I L) := by
  unfold zq; rw [zR_op hd]; unfold zstp z2l; simp only [true_and]
theorem oi_lrem {x y : Int64} (hd : decode mm.2.1 pc = .ok (.lrem, 1)) : zq d mm Q pc ls (.long y :: .long x :: st) σ ρ I L = (¬ y = 0 ∧ zq d mm Q (pc + 1) ls (.long (x - x / y * y) :: st) σ ρ I L) := by
  unfold zq; rw [zR_op hd]; unfold zstp z2l; simp only [true_and]
theorem oi_lcmp {x y : Int64} (hd : decode mm.2.1 pc = .ok (.lcmp, 1)) : zq d mm Q pc ls (.long y :: .long x :: st) σ ρ I L = zq d mm Q (pc + 1) ls (.int (lg_cmp x y) :: st) σ ρ I L := by
  unfold zq; rw [zR_op hd]; unfold zstp z2l; simp only [true_and]
theorem oi_lshl {x : Int64} {y : Int32} (hd : decode mm.2.1 pc = .ok (.lshl, 1)) : zq d mm Q pc ls (.int y :: .long x :: st) σ ρ I L = zq d mm Q (pc + 1) ls (.long (x <<< (y.toInt64 &&& 63)) :: st) σ ρ I L := by
  unfold zq; rw [zR_op hd]; unfold zstp zli; simp only [true_and]
theorem oi_lshr {x : Int64} {y : Int32} (hd : decode mm.2.1 pc = .ok (.lshr, 1)) : zq d mm Q pc ls (.int y :: .long x :: st) σ ρ I L = zq d mm Q (pc + 1) ls (.long (x >>> (y.toInt64 &&& 63)) :: st) σ ρ I L := by
  unfold zq; rw [zR_op hd]; unfold zstp zli; simp only [true_and]
theorem oi_lushr {x : Int64} {y : Int32} (hd : decode mm.2.1 pc = .ok (.lushr, 1)) : zq d mm Q pc ls (.int y :: .long x :: st) σ ρ I L = zq d mm Q (pc + 1) ls (.long (x.toUInt64 >>> (y.toInt64.toUInt64 &&& Int64.toUInt64 63)).toInt64 :: st) σ ρ I L := by
  unfold zq; rw [zR_op hd]; unfold zstp zli; simp only [true_and]
theorem oi_i2l {x : Int32} (hd : decode mm.2.1 pc = .ok (.i2l, 1)) : zq d mm Q pc ls (.int x :: st) σ ρ I L = zq d mm Q (pc + 1) ls (.long x.toInt64 :: st) σ ρ I L := by
  unfold zq; rw [zR_op hd]; unfold zstp z1; simp only [true_and]
theorem oi_i2c {x : Int32} (hd : decode mm.2.1 pc = .ok (.i2c, 1)) : zq d mm Q pc ls (.int x :: st) σ ρ I L = zq d mm Q (pc + 1) ls (.int (x.toUInt32 % 65536).toInt32 :: st) σ ρ I L := by
  unfold zq; rw [zR_op hd]; unfold zstp z1; simp only [true_and]
theorem oi_l2i {x : Int64} (hd : decode mm.2.1 pc = .ok (.l2i, 1)) : zq d mm Q pc ls (.long x :: st) σ ρ I L = zq d mm Q (pc + 1) ls (.int x.toInt32 :: st) σ ρ I L := by
  unfold zq; rw [zR_op hd]; unfold zstp z1l; simp only [true_and]
theorem oi_pop {w : Value} (hd : decode mm.2.1 pc = .ok (.pop, 1)) (hw : w.category = 1) : zq d mm Q pc ls (w :: st) σ ρ I L = zq d mm Q (pc + 1) ls st σ ρ I L := by
  unfold zq; rw [zR_op hd]; unfold zstp z1v; simp only [hw, true_and]
theorem oi_dup {w : Value} (hd : decode mm.2.1 pc = .ok (.dup, 1)) (hw : w.category = 1) : zq d mm Q pc ls (w :: st) σ ρ I L = zq d mm Q (pc + 1) ls (w :: w :: st) σ ρ I L := by
  unfold zq; rw [zR_op hd]; unfold zstp z1v; simp only [hw, true_and]
theorem oi_dup2 {w y : Value} (hd : decode mm.2.1 pc = .ok (.dup2, 1)) (hw : w.category = 1) (hy : y.category = 1) : zq d mm Q pc ls (w :: y :: st) σ ρ I L = zq d mm Q (pc + 1) ls (w :: y :: w :: y :: st) σ ρ I L := by
  unfold zq; rw [zR_op hd]; unfold zstp z1v; simp [hw, hy, z1v]
theorem oi_dup2l {w : Value} (hd : decode mm.2.1 pc = .ok (.dup2, 1)) (hw : w.category = 2) : zq d mm Q pc ls (w :: st) σ ρ I L = zq d mm Q (pc + 1) ls (w :: w :: st) σ ρ I L := by
  unfold zq; rw [zR_op hd]; unfold zstp z1v; simp [hw]
theorem oi_goto {off : Int} {t : Nat} (hd : decode mm.2.1 pc = .ok (.goto off, 3)) (ht : (pc : Int) + off = (t : Int)) : zq d mm Q pc ls st σ ρ I L = zq d mm Q t ls st σ ρ I L := by
  unfold zq; rw [zR_op hd]; unfold zstp; simp only [zj_at ht, true_and]
theorem oi_ifeq {x : Int32} {off : Int} {t : Nat} (hd : decode mm.2.1 pc = .ok (.ifCond .eq off, 3)) (ht : (pc : Int) + off = (t : Int)) : zq d mm Q pc ls (.int x :: st) σ ρ I L = if x = nI 0 then zq d mm Q t ls st σ ρ I L else zq d mm Q (pc + 3) ls st σ ρ I L := by
  unfold zq; rw [zR_op hd]; unfold zstp z1; simp only [zj_at ht, true_and, nI_0]
theorem oi_ifne {x : Int32} {off : Int} {t : Nat} (hd : decode mm.2.1 pc = .ok (.ifCond .ne off, 3)) (ht : (pc : Int) + off = (t : Int)) : zq d mm Q pc ls (.int x :: st) σ ρ I L = if x = nI 0 then zq d mm Q (pc + 3) ls st σ ρ I L else zq d mm Q t ls st σ ρ I L := by
  unfold zq; rw [zR_op hd]; unfold zstp z1; simp only [zj_at ht, true_and, nI_0]
theorem oi_iflt {x : Int32} {off : Int} {t : Nat} (hd : decode mm.2.1 pc = .ok (.ifCond .lt off, 3)) (ht : (pc : Int) + off = (t : Int)) : zq d mm Q pc ls (.int x :: st) σ ρ I L = if x < nI 0 then zq d mm Q t ls st σ ρ I L else zq d mm Q (pc + 3) ls st σ ρ I L := by
  unfold zq; rw [zR_op hd]; unfold zstp z1; simp only [zj_at ht, true_and, nI_0]
theorem oi_ifge {x : Int32} {off : Int} {t : Nat} (hd : decode mm.2.1 pc = .ok (.ifCond .ge off, 3)) (ht : (pc : Int) + off = (t : Int)) : zq d mm Q pc ls (.int x :: st) σ ρ I L = if nI 0 ≤ x then zq d mm Q t ls st σ ρ I L else zq d mm Q (pc + 3) ls st σ ρ I L := by
  unfold zq; rw [zR_op hd]; unfold zstp z1; simp only [zj_at ht, true_and, nI_0]
theorem oi_ifgt {x : Int32} {off : Int} {t : Nat} (hd : decode mm.2.1 pc = .ok (.ifCond .gt off, 3)) (ht : (pc : Int) + off = (t : Int)) : zq d mm Q pc ls (.int x :: st) σ ρ I L = if nI 0 < x then zq d mm Q t ls st σ ρ I L else zq d mm Q (pc + 3) ls st σ ρ I L := by
  unfold zq; rw [zR_op hd]; unfold zstp z1; simp only [zj_at ht, true_and, nI_0]
theorem oi_ifle {x : Int32} {off : Int} {t : Nat} (hd : decode mm.2.1 pc = .ok (.ifCond .le off, 3)) (ht : (pc : Int) + off = (t : Int)) : zq d mm Q pc ls (.int x :: st) σ ρ I L = if x ≤ nI 0 then zq d mm Q t ls st σ ρ I L else zq d mm Q (pc + 3) ls st σ ρ I L := by
  unfold zq; rw [zR_op hd]; unfold zstp z1; simp only [zj_at ht, true_and, nI_0]
theorem oi_icmpeq {x y : Int32} {off : Int} {t : Nat} (hd : decode mm.2.1 pc = .ok (.if_icmp .eq off, 3)) (ht : (pc : Int) + off = (t : Int)) : zq d mm Q pc ls (.int y :: .int x :: st) σ ρ I L = if x = y then zq d mm Q t ls st σ ρ I L else zq d mm Q (pc + 3) ls st σ ρ I L := by
  unfold zq; rw [zR_op hd]; unfold zstp z2; simp only [zj_at ht, true_and]
theorem oi_icmpne {x y : Int32} {off : Int} {t : Nat} (hd : decode mm.2.1 pc = .ok (.if_icmp .ne off, 3)) (ht : (pc : Int) + off = (t : Int)) : zq d mm Q pc ls (.int y :: .int x :: st) σ ρ I L = if x = y then zq d mm Q (pc + 3) ls st σ ρ I L else zq d mm Q t ls st σ ρ I L := by
  unfold zq; rw [zR_op hd]; unfold zstp z2; simp only [zj_at ht, true_and]
theorem oi_icmplt {x y : Int32} {off : Int} {t : Nat} (hd : decode mm.2.1 pc = .ok (.if_icmp .lt off, 3)) (ht : (pc : Int) + off = (t : Int)) : zq d mm Q pc ls (.int y :: .int x :: st) σ ρ I L = if x < y then zq d mm Q t ls st σ ρ I L else zq d mm Q (pc + 3) ls st σ ρ I L := by
  unfold zq; rw [zR_op hd]; unfold zstp z2; simp only [zj_at ht, true_and]
theorem oi_icmpge {x y : Int32} {off : Int} {t : Nat} (hd : decode mm.2.1 pc = .ok (.if_icmp .ge off, 3)) (ht : (pc : Int) + off = (t : Int)) : zq d mm Q pc ls (.int y :: .int x :: st) σ ρ I L = if y ≤ x then zq d mm Q t ls st σ ρ I L else zq d mm Q (pc + 3) ls st σ ρ I L := by
  unfold zq; rw [zR_op hd]; unfold zstp z2; simp only [zj_at ht, true_and]
theorem oi_icmpgt {x y : Int32} {off : Int} {t : Nat} (hd : decode mm.2.1 pc = .ok (.if_icmp .gt off, 3)) (ht : (pc : Int) + off = (t : Int)) : zq d mm Q pc ls (.int y :: .int x :: st) σ ρ I L = if y < x then zq d mm Q t ls st σ ρ I L else zq d mm Q (pc + 3) ls st σ ρ I L := by
  unfold zq; rw [zR_op hd]; unfold zstp z2; simp only [zj_at ht, true_and]
theorem oi_icmple {x y : Int32} {off : Int} {t : Nat} (hd : decode mm.2.1 pc = .ok (.if_icmp .le off, 3)) (ht : (pc : Int) + off = (t : Int)) : zq d mm Q pc ls (.int y :: .int x :: st) σ ρ I L = if x ≤ y then zq d mm Q t ls st σ ρ I L else zq d mm Q (pc + 3) ls st σ ρ I L := by
  unfold zq; rw [zR_op hd]; unfold zstp z2; simp only [zj_at ht, true_and]
/-- where a switch goes -/
def zsw (x : Int32) (lo hi : Int) (ts : List Nat) (dt : Nat) : Nat := if x.toInt < lo ∨ hi < x.toInt then dt else ts.getD (x.toInt - lo).toNat dt
theorem oi_switch {x : Int32} {dflt lo hi : Int} {offs : Array Int} {n : Nat} {ts : List Nat} {dt : Nat} (hd : decode mm.2.1 pc = .ok (.tableswitch dflt lo hi offs, n)) (ht : (pc : Int) + dflt = (dt : Int)) (hl : (ts.length : Int) = hi - lo + 1) (ho : offs.toList.map (fun o => (pc : Int) + o) = ts.map Int.ofNat) : zq d mm Q pc ls (.int x :: st) σ ρ I L = zq d mm Q (zsw x lo hi ts dt) ls st σ ρ I L := by
  unfold zq; rw [zR_op hd]
  show (if x.toInt < lo ∨ hi < x.toInt then zj pc dflt fun t => _ else _) = _
  unfold zsw
  by_cases h : x.toInt < lo ∨ hi < x.toInt
  · rw [if_pos h, if_pos h, zj_at ht]
  · rw [if_neg h, if_neg h]
    have hk : (x.toInt - lo).toNat < ts.length := by omega
    have hlen : offs.toList.length = ts.length := by have := congrArg List.length ho; simpa using this
    have hk2 : (x.toInt - lo).toNat < offs.size := by rw [← Array.length_toList]; omega
    have e1 : offs[(x.toInt - lo).toNat]? = some offs[(x.toInt - lo).toNat] := Array.getElem?_eq_getElem hk2
    rw [e1]
    have e2 : (pc : Int) + offs[(x.toInt - lo).toNat] = ((ts[(x.toInt - lo).toNat] : Nat) : Int) := by
      have := congrArg (fun l => l[(x.toInt - lo).toNat]?) ho
      simp [hk, hk2] at this
      exact this
    show zj pc _ _ = _
    rw [zj_at e2]
    rw [List.getD_eq_getElem?_getD, List.getElem?_eq_getElem hk]
    rfl
theorem oi_getfield {a i ty k : Nat} {fin : Bool} {oks : List Nat} (hd : decode mm.2.1 pc = .ok (.getfield i, 3)) (hj : mm.2.2.2.2.1 ≠ 20) (hF : zF mm.2.2.2.2.1 i = some (ty, k, fin, oks)) (ha : a < σ.1) (ho : (σ.2 a).1 ∈ oks) : zq d mm Q pc ls (.ref a :: st) σ ρ I L = zq d mm Q (pc + 3) ls (zfv ty ρ I L a k :: st) σ ρ I L := by
  unfold zq; rw [zR_op hd]; unfold zstp zgf z1r; simp only [hF, ha, ho, true_and, if_neg hj]
theorem oi_puti {a i k : Nat} {fin : Bool} {oks : List Nat} {x : Int32} (hd : decode mm.2.1 pc = .ok (.putfield i, 3)) (hF : zF mm.2.2.2.2.1 i = some (0, k, fin, oks)) (ha : a < σ.1) (ho : (σ.2 a).1 ∈ oks) (hf : fin = false) : zq d mm Q pc ls (.int x :: .ref a :: st) σ ρ I L = zq d mm Q (pc + 3) ls st σ ρ (zup I a k x) L := by
  unfold zq; rw [zR_op hd]; unfold zstp zpf z2v; simp only [hF, ha, ho, true_and, hf, reduceCtorEq, false_implies]
theorem oi_putz {a i k : Nat} {fin : Bool} {oks : List Nat} {x : Int32} (hd : decode mm.2.1 pc = .ok (.putfield i, 3)) (hF : zF mm.2.2.2.2.1 i = some (1, k, fin, oks)) (ha : a < σ.1) (ho : (σ.2 a).1 ∈ oks) (hf : fin = false) : zq d mm Q pc ls (.int x :: .ref a :: st) σ ρ I L = ((x = nI 0 ∨ x = nI 1) ∧ zq d mm Q (pc + 3) ls st σ ρ (zup I a k x) L) := by
  unfold zq; rw [zR_op hd]; unfold zstp zpf z2v; simp only [hF, ha, ho, true_and, hf, reduceCtorEq, false_implies]; rfl
theorem oi_putl {a i k : Nat} {fin : Bool} {oks : List Nat} {x : Int64} (hd : decode mm.2.1 pc = .ok (.putfield i, 3)) (hF : zF mm.2.2.2.2.1 i = some (2, k, fin, oks)) (ha : a < σ.1) (ho : (σ.2 a).1 ∈ oks) (hf : fin = false) : zq d mm Q pc ls (.long x :: .ref a :: st) σ ρ I L = zq d mm Q (pc + 3) ls st σ ρ I (zup L a k x) := by
  unfold zq; rw [zR_op hd]; unfold zstp zpf z2v; simp only [hF, ha, ho, true_and, hf, reduceCtorEq, false_implies]
theorem oi_putr {a i k b : Nat} {fin : Bool} {oks : List Nat} (hd : decode mm.2.1 pc = .ok (.putfield i, 3)) (hF : zF mm.2.2.2.2.1 i = some (3, k, fin, oks)) (ha : a < σ.1) (ho : (σ.2 a).1 ∈ oks) (hf : fin = false) : zq d mm Q pc ls (.ref b :: .ref a :: st) σ ρ I L = zq d mm Q (pc + 3) ls st σ (zup ρ a k (some b)) I L := by
  unfold zq; rw [zR_op hd]; unfold zstp zpf z2v; simp only [hF, ha, ho, true_and, hf, reduceCtorEq, false_implies]
theorem oi_iaload {a : Nat} {i : Int32} (hd : decode mm.2.1 pc = .ok (.iaload, 1)) (ha : a ≠ 7000) : zq d mm Q pc ls (.int i :: .ref a :: st) σ ρ I L = (zin σ a 20 i ∧ zq d mm Q (pc + 1) ls (.int (I a i.toNatClampNeg) :: st) σ ρ I L) := by
  unfold zq; rw [zR_op hd]; unfold zstp zra; simp only [if_neg ha, true_and]
theorem oi_zaload {a : Nat} {i : Int32} (hd : decode mm.2.1 pc = .ok (.baload, 1)) (ha : a < 6000) : zq d mm Q pc ls (.int i :: .ref a :: st) σ ρ I L = (zin σ a 21 i ∧ zq d mm Q (pc + 1) ls (.int (I a i.toNatClampNeg) :: st) σ ρ I L) := by
  unfold zq; rw [zR_op hd]; unfold zstp zra; simp only [if_neg (show ¬ (6000 ≤ a ∧ a < 6004) by omega), true_and]
theorem oi_laload {a : Nat} {i : Int32} (hd : decode mm.2.1 pc = .ok (.laload, 1)) : zq d mm Q pc ls (.int i :: .ref a :: st) σ ρ I L = (zin σ a 22 i ∧ zq d mm Q (pc + 1) ls (.long (L a i.toNatClampNeg) :: st) σ ρ I L) := by
  unfold zq; rw [zR_op hd]; unfold zstp zra; simp only [true_and]
theorem oi_aaload {a : Nat} {i : Int32} (hd : decode mm.2.1 pc = .ok (.aaload, 1)) (ha : a < σ.1) (hk : (σ.2 a).1 = 23 ∨ (σ.2 a).1 = 24 ∨ (σ.2 a).1 = 25) : zq d mm Q pc ls (.int i :: .ref a :: st) σ ρ I L = (vp_in i (σ.2 a).2 ∧ zq d mm Q (pc + 1) ls (va_rf (ρ a i.toNatClampNeg) :: st) σ ρ I L) := by
  unfold zq; rw [zR_op hd]; unfold zstp zra; simp only [ha, hk, true_and]
theorem oi_iastore {a : Nat} {i x : Int32} (hd : decode mm.2.1 pc = .ok (.iastore, 1)) : zq d mm Q pc ls (.int x :: .int i :: .ref a :: st) σ ρ I L = (zin σ a 20 i ∧ zq d mm Q (pc + 1) ls st σ ρ (zup I a i.toNatClampNeg x) L) := by
  unfold zq; rw [zR_op hd]; unfold zstp zia; simp only [true_and]
theorem oi_zastore {a : Nat} {i x : Int32} (hd : decode mm.2.1 pc = .ok (.bastore, 1)) : zq d mm Q pc ls (.int x :: .int i :: .ref a :: st) σ ρ I L = (zin σ a 21 i ∧ (x = nI 0 ∨ x = nI 1) ∧ zq d mm Q (pc + 1) ls st σ ρ (zup I a i.toNatClampNeg x) L) := by
  unfold zq; rw [zR_op hd]; unfold zstp zia; simp only [true_and]; rfl
theorem oi_lastore {a : Nat} {i : Int32} {x : Int64} (hd : decode mm.2.1 pc = .ok (.lastore, 1)) : zq d mm Q pc ls (.long x :: .int i :: .ref a :: st) σ ρ I L = (zin σ a 22 i ∧ zq d mm Q (pc + 1) ls st σ ρ I (zup L a i.toNatClampNeg x)) := by
  unfold zq; rw [zR_op hd]; unfold zstp zil; simp only [true_and]
theorem oi_alen {a : Nat} (hd : decode mm.2.1 pc = .ok (.arraylength, 1)) (ha : a < 5000) : zq d mm Q pc ls (.ref a :: st) σ ρ I L = (a < σ.1 ∧ 20 ≤ (σ.2 a).1 ∧ (σ.2 a).1 ≤ 25 ∧ zq d mm Q (pc + 1) ls (.int (nI (σ.2 a).2) :: st) σ ρ I L) := by
  unfold zq; rw [zR_op hd]; unfold zstp z1r; simp only [if_neg (show ¬ a = 7000 by omega), if_neg (show ¬ (6000 ≤ a ∧ a < 6004) by omega), true_and]; rfl
theorem oi_alenb {a : Nat} (hd : decode mm.2.1 pc = .ok (.arraylength, 1)) (h1 : 6000 ≤ a) (h2 : a < 6004) : zq d mm Q pc ls (.ref a :: st) σ ρ I L = zq d mm Q (pc + 1) ls (.int (nI (zlen.getD (a - 6000) 0)) :: st) σ ρ I L := by
  unfold zq; rw [zR_op hd]; unfold zstp z1r; simp only [if_neg (show ¬ a = 7000 by omega), if_pos (show (6000 ≤ a ∧ a < 6004) from ⟨h1, h2⟩), true_and]; rfl
theorem oi_baload {a : Nat} {i : Int32} (hd : decode mm.2.1 pc = .ok (.baload, 1)) (h1 : 6000 ≤ a) (h2 : a < 6004) : zq d mm Q pc ls (.int i :: .ref a :: st) σ ρ I L = (vp_in i (zlen.getD (a - 6000) 0) ∧ zq d mm Q (pc + 1) ls (.int ((zbyt.getD (a - 6000) []).getD i.toNatClampNeg 0) :: st) σ ρ I L) := by
  unfold zq; rw [zR_op hd]; unfold zstp zra; simp only [if_pos (show (6000 ≤ a ∧ a < 6004) from ⟨h1, h2⟩), true_and]
theorem oi_gstr {a : Nat} (hd : decode mm.2.1 pc = .ok (.getfield 9, 3)) (hj : mm.2.2.2.2.1 = 20) (h1 : 5000 ≤ a) (h2 : a < 5004) : zq d mm Q pc ls (.ref a :: st) σ ρ I L = zq d mm Q (pc + 3) ls (.ref (a + 1000) :: st) σ ρ I L := by
  unfold zq; rw [zR_op hd]; unfold zstp zgf z1r; simp only [if_pos hj, h1, h2, true_and, if_pos]
theorem oi_gcod {a : Nat} (hd : decode mm.2.1 pc = .ok (.getfield 15, 3)) (hj : mm.2.2.2.2.1 = 20) (h1 : 5000 ≤ a) (h2 : a < 5004) : zq d mm Q pc ls (.ref a :: st) σ ρ I L = zq d mm Q (pc + 3) ls (.int (nI 0) :: st) σ ρ I L := by
  unfold zq; rw [zR_op hd]; unfold zstp zgf z1r; simp only [if_pos hj, h1, h2, true_and]; rfl
theorem oi_gs38 (hd : decode mm.2.1 pc = .ok (.getstatic 38, 3)) (hj : mm.2.2.2.2.1 = 20) : zq d mm Q pc ls st σ ρ I L = zq d mm Q (pc + 3) ls (.int (nI 1) :: st) σ ρ I L := by
  unfold zq; rw [zR_op hd]; unfold zstp; simp only [hj, true_and]; rfl
theorem oi_gs1053 (hd : decode mm.2.1 pc = .ok (.getstatic 1053, 3)) (hj : mm.2.2.2.2.1 = 20) : zq d mm Q pc ls st σ ρ I L = zq d mm Q (pc + 3) ls (.retAddr 0 :: st) σ ρ I L := by
  unfold zq; rw [zR_op hd]; unfold zstp; simp only [hj, true_and]; rfl
theorem zcl_at {cm : zM} {mi : Nat} {as r : List Value} (hcm : zMs[mi]? = some cm) (hr : zsum r ≤ 8) (h1 : cm.2.2.2.2.2.1 = 0) (h2 : cm.2.2.2.2.2.2 = 0) : zcl (zR none (zW d) mm Q) (zW d) mm pc ls 0 0 σ ρ I L mi as r = zW d cm as σ ρ I L (fun w σ' ρ' I' L' => zq d mm Q (pc + 3) ls (w.toList ++ r) σ' ρ' I' L') := by
  unfold zcl zq; rw [hcm]; simp only [hr, h1, h2, Nat.zero_add, Nat.zero_le, true_and]
theorem oi_iv {cm : zM} {i k a kd : Nat} {ts : List (Nat × Nat × Nat × List Nat)} {t : Nat × Nat × Nat × List Nat} {as r : List Value} (hd : decode mm.2.1 pc = .ok (.invokevirtual i, 3)) (hV : zV mm.2.2.2.2.1 i = some (k, ts)) (hst : st = as.reverse ++ .ref a :: r) (hk : as.length = k) (ha : a < σ.1) (hkd : (σ.2 a).1 = kd) (h12 : kd < 12) (ht : ts.find? (fun t => t.1 == kd) = some t) (hcm : zMs[t.2.1]? = some cm) (hr : zsum r ≤ 8) (h1 : cm.2.2.2.2.2.1 = 0) (h2 : cm.2.2.2.2.2.2 = 0) :
    zq d mm Q pc ls st σ ρ I L = zW d cm (.ref a :: as) σ ρ I L (fun w σ' ρ' I' L' => zq d mm Q (pc + 3) ls (w.toList ++ r) σ' ρ' I' L') := by
  have e1 : st.drop k = .ref a :: r := by rw [hst, List.drop_left' (by simp [hk])]
  have e2 : st.take k = as.reverse := by rw [hst, List.take_left' (by simp [hk])]
  rw [← zcl_at hcm hr h1 h2 (as := .ref a :: as) (mm := mm)]
  unfold zq; rw [zR_op hd]; unfold zstp
  simp only [hV, e1, e2, z1r, zkd, if_pos ha, hkd, h12, ht, List.reverse_reverse, true_and]
theorem oi_ivs {cm : zM} {i k a : Nat} {ts : List (Nat × Nat × Nat × List Nat)} {t : Nat × Nat × Nat × List Nat} {as r : List Value} (hd : decode mm.2.1 pc = .ok (.invokevirtual i, 3)) (hV : zV mm.2.2.2.2.1 i = some (k, ts)) (hst : st = as.reverse ++ .ref a :: r) (hk : as.length = k) (ha : ¬ a < σ.1) (ha1 : 5000 ≤ a) (ha2 : a < 5004) (ht : ts.find? (fun t => t.1 == 20) = some t) (hcm : zMs[t.2.1]? = some cm) (hr : zsum r ≤ 8) (h1 : cm.2.2.2.2.2.1 = 0) (h2 : cm.2.2.2.2.2.2 = 0) :
    zq d mm Q pc ls st σ ρ I L = zW d cm (.ref a :: as) σ ρ I L (fun w σ' ρ' I' L' => zq d mm Q (pc + 3) ls (w.toList ++ r) σ' ρ' I' L') := by
  have e1 : st.drop k = .ref a :: r := by rw [hst, List.drop_left' (by simp [hk])]
  have e2 : st.take k = as.reverse := by rw [hst, List.take_left' (by simp [hk])]
  rw [← zcl_at hcm hr h1 h2 (as := .ref a :: as) (mm := mm)]
  unfold zq; rw [zR_op hd]; unfold zstp
  simp only [hV, e1, e2, z1r, zkd, if_neg ha, ha1, ha2, and_self, if_true, ht, List.reverse_reverse, true_and]
theorem oi_is {cm : zM} {i k mi : Nat} {as r : List Value} (hd : decode mm.2.1 pc = .ok (.invokestatic i, 3)) (h0 : ¬ (mm.2.2.2.2.1 = 0 ∧ i = 44)) (hB1 : ¬ (mm.2.2.2.2.1 = zBmax.1 ∧ i = zBmax.2)) (hB2 : ¬ (mm.2.2.2.2.1 = zBmin.1 ∧ i = zBmin.2)) (hS : zS mm.2.2.2.2.1 i = some (k, mi)) (hst : st = as.reverse ++ r) (hk : as.length = k) (hcm : zMs[mi]? = some cm) (hr : zsum r ≤ 8) (h1 : cm.2.2.2.2.2.1 = 0) (h2 : cm.2.2.2.2.2.2 = 0) :
    zq d mm Q pc ls st σ ρ I L = zW d cm as σ ρ I L (fun w σ' ρ' I' L' => zq d mm Q (pc + 3) ls (w.toList ++ r) σ' ρ' I' L') := by
  have e1 : st.drop k = r := by rw [hst, List.drop_left' (by simp [hk])]
  have e2 : st.take k = as.reverse := by rw [hst, List.take_left' (by simp [hk])]
  have e3 : k ≤ st.length := by rw [hst]; simp [hk]
  rw [← zcl_at hcm hr h1 h2 (as := as) (mm := mm)]
  unfold zq; rw [zR_op hd]; unfold zstp
  simp only [if_neg h0, if_neg hB1, if_neg hB2, hS, e1, e2, e3, List.reverse_reverse, true_and]
theorem oi_max {i : Nat} {x y : Int32} (hd : decode mm.2.1 pc = .ok (.invokestatic i, 3)) (h0 : ¬ (mm.2.2.2.2.1 = 0 ∧ i = 44)) (hB1 : (mm.2.2.2.2.1 = zBmax.1 ∧ i = zBmax.2)) (hr : zsum st ≤ 8) : zq d mm Q pc ls (.int y :: .int x :: st) σ ρ I L = zq d mm Q (pc + 3) ls (.int (if x < y then y else x) :: st) σ ρ I L := by
  unfold zq; rw [zR_op hd]; unfold zstp; simp only [if_neg h0, if_pos hB1, z2, hr, Nat.zero_le, true_and]
theorem oi_min {i : Nat} {x y : Int32} (hd : decode mm.2.1 pc = .ok (.invokestatic i, 3)) (h0 : ¬ (mm.2.2.2.2.1 = 0 ∧ i = 44)) (hB1 : ¬ (mm.2.2.2.2.1 = zBmax.1 ∧ i = zBmax.2)) (hB2 : (mm.2.2.2.2.1 = zBmin.1 ∧ i = zBmin.2)) (hr : zsum st ≤ 8) : zq d mm Q pc ls (.int y :: .int x :: st) σ ρ I L = zq d mm Q (pc + 3) ls (.int (if y < x then y else x) :: st) σ ρ I L := by
  unfold zq; rw [zR_op hd]; unfold zstp; simp only [if_neg h0, if_neg hB1, if_pos hB2, z2, hr, Nat.zero_le, true_and]
theorem oi_copy (hd : decode mm.2.1 pc = .ok (.invokestatic 44, 3)) (h0 : mm.2.2.2.2.1 = 0) : zq d mm Q pc ls st σ ρ I L = zcpy (zR none (zW d) mm Q) pc ls st 0 0 σ ρ I L := by
  unfold zq; rw [zR_op hd]; unfold zstp
  show (3 = 3 ∧ (if mm.2.2.2.2.1 = 0 ∧ 44 = 44 then _ else _)) = _
  rw [if_pos ⟨h0, rfl⟩, eq_self, true_and]
theorem oi_super {cm : zM} {i k mi md a : Nat} {as r : List Value} (hd : decode mm.2.1 pc = .ok (.invokespecial i, 3)) (hO : zO mm.2.2.2.2.1 i = false) (hI : zI mm.2.2.2.2.1 i = some (k, mi, md)) (hst : st = as.reverse ++ .ref a :: r) (hk : as.length = k) (ha : a < σ.1) (h12 : (σ.2 a).1 < 12) (hcm : zMs[mi]? = some cm) (hr : zsum r ≤ 8) (h1 : cm.2.2.2.2.2.1 = 0) (h2 : cm.2.2.2.2.2.2 = 0) :
    zq d mm Q pc ls st σ ρ I L = zW d cm (.ref a :: as) σ ρ I L (fun w σ' ρ' I' L' => zq d mm Q (pc + 3) ls (w.toList ++ r) σ' ρ' I' L') := by
  have e1 : st.drop k = .ref a :: r := by rw [hst, List.drop_left' (by simp [hk])]
  have e2 : st.take k = as.reverse := by rw [hst, List.take_left' (by simp [hk])]
  rw [← zcl_at hcm hr h1 h2 (as := .ref a :: as) (mm := mm)]
  unfold zq; rw [zR_op hd]; unfold zstp
  simp only [hO, Bool.false_eq_true, if_false, hI, e1, e2, z1r, ha, h12, List.reverse_reverse, true_and]
theorem oi_ireturn {x : Int32} {ty : FieldType} (hd : decode mm.2.1 pc = .ok (.ireturn, 1)) (hr : mm.2.2.2.1 = some ty) : zq d mm Q pc ls [.int x] σ ρ I L = (znw x ty ∧ Q (some (.int x)) σ ρ I L) := by
  unfold zq; rw [zR_op hd]; unfold zstp zret; simp only [hr, Nat.zero_le, true_and]
theorem oi_lreturn {x : Int64} (hd : decode mm.2.1 pc = .ok (.lreturn, 1)) (hr : mm.2.2.2.1 = some .long) : zq d mm Q pc ls [.long x] σ ρ I L = Q (some (.long x)) σ ρ I L := by
  unfold zq; rw [zR_op hd]; unfold zstp zret; simp only [hr, Nat.zero_le, true_and]
theorem oi_return (hd : decode mm.2.1 pc = .ok (.return_, 1)) (hr : mm.2.2.2.1 = none) : zq d mm Q pc ls [] σ ρ I L = Q none σ ρ I L := by
  unfold zq; rw [zR_op hd]; unfold zstp zret; simp only [hr, Nat.zero_le, true_and]
theorem oi_entry {as : List Value} (h : (zla as).length ≤ mm.2.2.1) (hl : zen mm.2.2.1 as = ls) : zW (d + 1) mm as σ ρ I L Q = zq d mm Q 0 ls [] σ ρ I L := by
  show (_ ∧ zR none (zW d) mm Q 0 (zen mm.2.2.1 as) [] 0 0 σ ρ I L) = _
  rw [hl]
  unfold zq
  simp only [h, true_and]
end ZO
end
section
/-! THE CELLS, when both constructors are through: 0 FindersHide, 1 Text, 2 its bytes, 3 .. 25 and 26 .. 48 the two Towns, 49 .., 55 .., 69 .., 75 .. the States (state, trial, images), 61 images, 62 kept, 63 Chances, 64 .. 67 its arrays, 68 kinds, 81 .. 86 the kinds, 87 the model, 88 .. 97 its arrays -/
/-- the c-th cell of a Town -/
def tc (x : Bool) (c : Nat) : Nat := (if x then 26 else 3) + min c 22
/-- the c-th cell of a State: 0 state, 1 trial, 2 and 3 the images -/
def sc (k : Nat) (c : Nat) : Nat := (match k with
  | 0 => 49
  | 1 => 55
  | 2 => 69
  | _ => 75) + min c 5
def sgT : List (Nat × Nat) := [(9, 15), (20, 6), (20, 6), (20, 6), (20, 6), (20, 6), (20, 4), (20, 4), (25, 4), (20, 5), (20, 5), (20, 5), (20, 5), (25, 4), (20, 5), (20, 5), (20, 5), (20, 5), (25, 4), (20, 5), (20, 5), (20, 5), (20, 5)]
def sgS : List (Nat × Nat) := [(7, 9), (20, 4), (20, 4), (20, 8), (20, 8), (20, 8)]
def sgl : List (Nat × Nat) := [(10, 9), (8, 8), (20, 200)] ++ sgT ++ sgT ++ sgS ++ sgS ++ [(23, 2), (21, 2), (0, 4), (22, 6), (22, 6), (22, 6), (20, 4), (24, 6)] ++ sgS ++ sgS ++ [(6, 1), (2, 1), (1, 1), (3, 1), (5, 1), (4, 1), (11, 20), (20, 200), (20, 49), (20, 49), (20, 36), (20, 72), (21, 2), (20, 4), (22, 3750), (22, 3750), (20, 2)]
def sg : zSh := (98, fun a => sgl.getD a (0, 0))
/-- the references: of one cell -/
def rgt (t : Nat) (c j : Nat) : Option Nat := match c with
  | 0 => ([none, none, none, none, none, some (t + 1), some (t + 2), some (t + 3), some (t + 4), some (t + 5), some (t + 6), some (t + 7), some (t + 8), some (t + 13), some (t + 18)] : List (Option Nat)).getD j none
  | 8 => if j < 4 then some (t + 9 + j) else none
  | 13 => if j < 4 then some (t + 14 + j) else none
  | 18 => if j < 4 then some (t + 19 + j) else none
  | _ => none
def rgs (t : Nat) (j : Nat) : Option Nat := ([none, none, none, none, some (t + 1), some (t + 2), some (t + 3), some (t + 4), some (t + 5)] : List (Option Nat)).getD j none
def rg (b : Bool) : zRf := fun a j =>
  if 3 ≤ a ∧ a < 26 then rgt 3 (a - 3) j
  else if 26 ≤ a ∧ a < 49 then rgt 26 (a - 26) j
  else if a = 49 ∨ a = 55 ∨ a = 69 ∨ a = 75 then rgs a j
  else match a with
    | 0 => ([some 1, some (tc b 0), some (tc (!b) 0), some 49, some 55, some 61, some 62, some 63, some 68] : List (Option Nat)).getD j none
    | 1 => if j = 1 then some 2 else none
    | 61 => ([some 69, some 75] : List (Option Nat)).getD j none
    | 63 => ([some 64, some 65, some 66, some 67] : List (Option Nat)).getD j none
    | 68 => if j < 6 then some (81 + j) else none
    | 87 => ([none, none, some 88, none, some 89, some 90, some 91, some 92, some 93, none, none, none, none, none, some 94, none, none, some 95, some 96, some 97] : List (Option Nat)).getD j none
    | _ => none
theorem tc_lt {x c} : tc x c < sg.1 := by unfold tc; show _ < 98; cases x <;> simp <;> omega
theorem sc_lt {k c} : sc k c < sg.1 := by unfold sc; show _ < 98; split <;> omega
theorem tc0_in {x} : (sg.2 (tc x 0)).1 ∈ [9] := by cases x <;> decide
theorem tc0_k {x} : (sg.2 (tc x 0)).1 = 9 := by cases x <;> decide
theorem sc_at {k} {P : Nat → Prop} {c : Nat} (hc : c ≤ 5) (h0 : P (49 + c)) (h1 : P (55 + c)) (h2 : P (69 + c)) (h3 : P (75 + c)) : P (sc k c) := by
  have e : min c 5 = c := by omega
  unfold sc; rw [e]; split <;> assumption
theorem sc0_in {k} : (sg.2 (sc k 0)).1 ∈ [7] := sc_at (P := fun a => (sg.2 a).1 ∈ [7]) (c := 0) (by decide) (by decide) (by decide) (by decide) (by decide)
theorem sc0_k {k} : (sg.2 (sc k 0)).1 = 7 := sc_at (P := fun a => (sg.2 a).1 = 7) (c := 0) (by decide) (by decide) (by decide) (by decide) (by decide)
theorem tc_7 {x c} : tc x c ≠ 7000 := fun h => by have := @tc_lt x c; rw [h] at this; exact absurd this (by decide)
theorem sc_7 {k c} : sc k c ≠ 7000 := fun h => by have := @sc_lt k c; rw [h] at this; exact absurd this (by decide)
theorem zin_at {a kd n : Nat} {i : Int32} (h1 : a < sg.1) (h2 : sg.2 a = (kd, n)) : zin sg a kd i = vp_in i n := by
  unfold zin; rw [h2]; exact propext ⟨fun h => h.2.2, fun h => ⟨h1, rfl, h⟩⟩
theorem tcs {x c} (hc : c ≤ 22) : sg.2 (tc x c) = sgT.getD c (0, 0) := by
  have h : ∀ c, c ≤ 22 → ∀ x, sg.2 (tc x c) = sgT.getD c (0, 0) := by decide +kernel
  exact h c hc x
theorem scs {k c} (hc : c ≤ 5) : sg.2 (sc k c) = sgS.getD c (0, 0) := by
  have h : ∀ c, c ≤ 5 → sg.2 (49 + c) = sgS.getD c (0, 0) ∧ sg.2 (55 + c) = sgS.getD c (0, 0) ∧ sg.2 (69 + c) = sgS.getD c (0, 0) ∧ sg.2 (75 + c) = sgS.getD c (0, 0) := by decide +kernel
  obtain ⟨a, b, d, e⟩ := h c hc
  exact sc_at (P := fun a => sg.2 a = sgS.getD c (0, 0)) hc a b d e
theorem zin_t {x c n} {i : Int32} (hc : c ≤ 22) (h : sgT.getD c (0, 0) = (20, n)) : zin sg (tc x c) 20 i = vp_in i n := zin_at tc_lt ((tcs hc).trans h)
theorem zin_s {k c n} {i : Int32} (hc : c ≤ 5) (h : sgS.getD c (0, 0) = (20, n)) : zin sg (sc k c) 20 i = vp_in i n := zin_at sc_lt ((scs hc).trans h)
theorem zin_tr {x c} {i : Int32} (h : (9 ≤ c ∧ c ≤ 12) ∨ (14 ≤ c ∧ c ≤ 17) ∨ (19 ≤ c ∧ c ≤ 22)) : zin sg (tc x c) 20 i = vp_in i 5 := by
  have hh : ∀ c, c ≤ 22 → ((9 ≤ c ∧ c ≤ 12) ∨ (14 ≤ c ∧ c ≤ 17) ∨ (19 ≤ c ∧ c ≤ 22)) → sgT.getD c (0, 0) = (20, 5) := by decide +kernel
  exact zin_t (by omega) (hh c (by omega) h)
theorem rg_t0 {b x j} : rg b (tc x 0) j = rgt (tc x 0) 0 j := by cases x <;> rfl
theorem rg_tf {b x j o} (h : ∀ t, rgt t 0 j = some (t + o)) (ho : o ≤ 22) : rg b (tc x 0) j = some (tc x o) := by
  rw [rg_t0, h]
  unfold tc
  rw [show min 0 22 = 0 by omega, show min o 22 = o by omega, Nat.add_zero]
theorem rg_tr {b x c j} (hc : c = 8 ∨ c = 13 ∨ c = 18) (hj : j < 4) : rg b (tc x c) j = some (tc x (c + 1 + j)) := by
  have hm : min (c + 1 + j) 22 = c + 1 + j := by omega
  unfold tc
  rw [hm]
  have hj4 : j = 0 ∨ j = 1 ∨ j = 2 ∨ j = 3 := by omega
  rcases hc with rfl | rfl | rfl <;> rcases hj4 with rfl | rfl | rfl | rfl <;> cases x <;> rfl
theorem rg_s0 {b k j} : rg b (sc k 0) j = rgs (sc k 0) j := sc_at (P := fun a => rg b a j = rgs a j) (c := 0) (by decide) rfl rfl rfl rfl
theorem rg_sf {b k j o} (h : ∀ t, rgs t j = some (t + o)) (ho : o ≤ 5) : rg b (sc k 0) j = some (sc k o) := by
  rw [rg_s0, h]
  unfold sc
  rw [show min 0 5 = 0 by omega, show min o 5 = o by omega, Nat.add_zero]
theorem rg_61 {b j} (hj : j < 2) : rg b 61 j = some (sc (2 + j) 0) := by
  have : j = 0 ∨ j = 1 := by omega
  rcases this with rfl | rfl <;> rfl
theorem rg_68 {b j} (hj : j < 6) : rg b 68 j = some (81 + j) := by
  show (if j < 6 then some (81 + j) else none) = _
  rw [if_pos hj]
/-- the towns change places -/
theorem rg_swap (b : Bool) : zup (zup (rg b) 0 2 (some (tc b 0))) 0 1 (some (tc (!b) 0)) = rg (!b) := by
  funext a j
  unfold zup
  by_cases h0 : a = 0
  · subst h0
    by_cases h1 : j = 1
    · subst h1; cases b <;> rfl
    · by_cases h2 : j = 2
      · subst h2; cases b <;> rfl
      · rw [if_neg (fun q => h1 q.2), if_neg (fun q => h2 q.2)]
        match j, h1, h2 with
        | 0, _, _ => rfl
        | j + 3, _, _ => rfl
  · rw [if_neg (fun q => h0 q.1), if_neg (fun q => h0 q.1)]
    have : ∀ b', rg b' a j = rg b a j := by
      intro b'
      unfold rg
      split
      · rfl
      · split
        · rfl
        · split
          · rfl
          · split <;> first | rfl | (exact absurd rfl h0)
    exact (this _).symm
/-! cells apart -/
theorem tc_eq {x c c'} (h : c ≤ 22) (h' : c' ≤ 22) : (tc x c = tc x c') = (c = c') := by
  unfold tc; rw [show min c 22 = c by omega, show min c' 22 = c' by omega]; exact propext ⟨fun q => by omega, fun q => by omega⟩
theorem tc_nn {x c c'} : (tc x c = tc (!x) c') = False := by
  unfold tc; refine eq_false fun q => ?_; cases x <;> simp at q <;> omega
theorem tc_nn' {x c c'} : (tc (!x) c = tc x c') = False := by
  unfold tc; refine eq_false fun q => ?_; cases x <;> simp at q <;> omega
theorem tc_lit {x c n} (h : n < 3 ∨ 48 < n) : (tc x c = n) = False := by
  unfold tc; refine eq_false fun q => ?_; cases x <;> simp at q <;> omega
theorem lit_tc {x c n} (h : n < 3 ∨ 48 < n) : (n = tc x c) = False := by
  unfold tc; refine eq_false fun q => ?_; cases x <;> simp at q <;> omega
theorem sc_eqc {k c c'} (h : c ≤ 5) (h' : c' ≤ 5) : (sc k c = sc k c') = (c = c') := by
  unfold sc; rw [show min c 5 = c by omega, show min c' 5 = c' by omega]; exact propext ⟨fun q => by omega, fun q => by omega⟩
theorem sc_r (k c : Nat) : 49 ≤ sc k c ∧ sc k c ≤ 80 ∧ ¬ (61 ≤ sc k c ∧ sc k c ≤ 68) := by unfold sc; split <;> omega
theorem tc_r (x : Bool) (c : Nat) : 3 ≤ tc x c ∧ tc x c ≤ 48 := by unfold tc; cases x <;> simp <;> omega
theorem sc_lit {k c n} (h : n < 49 ∨ 80 < n ∨ 61 ≤ n ∧ n ≤ 68) : (sc k c = n) = False := eq_false fun q => by have := sc_r k c; omega
theorem lit_sc {k c n} (h : n < 49 ∨ 80 < n ∨ 61 ≤ n ∧ n ≤ 68) : (n = sc k c) = False := eq_false fun q => by have := sc_r k c; omega
theorem tc_sc {x c k c'} : (tc x c = sc k c') = False := eq_false fun q => by have := sc_r k c'; have := tc_r x c; omega
theorem sc_tc {x c k c'} : (sc k c' = tc x c) = False := eq_false fun q => by have := sc_r k c'; have := tc_r x c; omega
theorem sc_ne {k k' c c'} (h : k ≠ k') (hk : k < 4) (hk' : k' < 4) : (sc k c = sc k' c') = False := by
  refine eq_false fun q => ?_
  have e : k = 0 ∨ k = 1 ∨ k = 2 ∨ k = 3 := by omega
  have e' : k' = 0 ∨ k' = 1 ∨ k' = 2 ∨ k' = 3 := by omega
  unfold sc at q
  rcases e with rfl | rfl | rfl | rfl <;> rcases e' with rfl | rfl | rfl | rfl <;> first | exact absurd rfl h | (simp at q; omega)
theorem zup_app {α : Type} (f : Nat → Nat → α) (c k : Nat) (v : α) (a j : Nat) : zup f c k v a j = if a = c ∧ j = k then v else f a j := rfl
theorem znw_i {x : Int32} : znw x .int = True := eq_true rfl
theorem znw_0 : znw (nI 0) .boolean = True := eq_true rfl
theorem znw_1 : znw (nI 1) .boolean = True := eq_true rfl
theorem znw_z {p : Prop} [Decidable p] : znw (if p then nI 1 else nI 0) .boolean = True := eq_true (by split <;> rfl)
end
